/-! a round of the law for each question -/
theorem rgN {lo hi : Nat} {x : Int32} (h : nI lo ≤ x ∧ x ≤ nI hi) (hh : hi < 2 ^ 31) (hl : lo < 2 := by decide) : ∃ T, x = nI T ∧ lo ≤ T ∧ T ≤ hi := by
  have c : ¬ x < 0 := fun c => by
    have h1 : nI 0 ≤ nI lo := nI_le (Nat.zero_le lo) (by omega)
    exact absurd (Int32.le_trans h1 h.1) (Int32.not_le.mpr c)
  obtain ⟨j, hj, e⟩ := nI_of c
  rw [e] at h
  exact ⟨j, e, (nI_leI (by omega) hj).mp h.1, (nI_leI hj hh).mp h.2⟩
theorem lB30 (c : Nat) (h : c ∈ lB) : c < 30 := by
  unfold lB at h
  simp at h
  omega
theorem al_same {g g2 : mg_H} {set : Int32} {s : Nat} (m : mp_same g g2) : ∀ k, mp_same g (mp_al g2 set s k)
  | 0 => mp_ui (mp_ui m (by decide)) (by decide)
  | k + 1 => by
    have := al_same (set := set) (s := s) m k
    show mp_same g (mg_ui (mg_ui (mg_ui (mp_al g2 set s k) 27 k _) 28 k _) 0 26 _)
    exact mp_ui (mp_ui (mp_ui this (by decide)) (by decide)) (by decide)
theorem hand_same {g g2 : mg_H} {k c : Nat} (m : mp_same g g2) : mp_same g (mp_hand g2 k c) := al_same (mp_ui (mp_ui m (by decide)) (by decide)) 4
theorem lfinL {R : Int32 → Nat → Nat → xg_Y → xg_H → mg_H → Prop} {y3 : Int32} {r1 r3 : Int64} {k n : Nat} {Y : xg_Y} {h : xg_H} {g : mg_H} (e : r1 = r3) (I : R (y3 + 6) k n Y h g) : (((lg_cmp r1 r3) = 0) → ∀ z5 : Int32, z5 = y3 + 6 → R z5 k n Y h g) ∧ ((¬ (lg_cmp r1 r3) = 0) → False) := ⟨fun _ z ez => by rw [ez]; exact I, fun c => c ((lg_cmp_eq _ _).mpr e)⟩
theorem ely {P : Nat → Prop} {v v' : Int32} (w : Int32) (L : w = 0 → lst P v) (G : ¬ w = 0 → gst P v) (L2 : w = 0 → lst P v') (G2 : ¬ w = 0 → gst P v') : v = v' := by
  by_cases c : w = 0
  · exact lst_one (L c) (L2 c) (fun _ => Iff.rfl)
  · exact gst_one (G c) (G2 c) (fun _ => Iff.rfl)
theorem ap_C {a k n k1 k2 n1 n2 : Nat} {Y : xg_Y} {h : xg_H} {g : mg_H} {nm b : Nat → Nat} {sv : Nat → Bool} (V : IVx a k n Y h g nm b sv) (h1 : k1 < 2) (h2 : k2 < 2) : k + (40 * dB b k1 n1 + 40 * dB (upB b k1 (mB b k1 n1)) k2 n2) ≤ rmC (upB (upB b k1 (mB b k1 n1)) k2 (mB (upB b k1 (mB b k1 n1)) k2 n2)) sv := by
  have s1 := up_sum (b := b) (n := n1) h1
  have s2 := up_sum (b := upB b k1 (mB b k1 n1)) (n := n2) h2
  have h1 := V.2.2.2.2.2.2.1
  unfold rmC at *
  rw [s2, s1]; omega
theorem ap_S {a k n k1 k2 n1 n2 : Nat} {Y : xg_Y} {h : xg_H} {g : mg_H} {nm b : Nat → Nat} {sv : Nat → Bool} (V : IVx a k n Y h g nm b sv) (h1 : k1 < 2) (h2 : k2 < 2) : n + (120000 * dB b k1 n1 + 120000 * dB (upB b k1 (mB b k1 n1)) k2 n2) ≤ rmS (upB (upB b k1 (mB b k1 n1)) k2 (mB (upB b k1 (mB b k1 n1)) k2 n2)) sv := by
  have s1 := up_sum (b := b) (n := n1) h1
  have s2 := up_sum (b := upB b k1 (mB b k1 n1)) (n := n2) h2
  have h1 := V.2.2.2.2.2.2.2
  unfold rmS at *
  rw [s2, s1]; omega
theorem lw_13 {X : lg_X} {a : Nat} {R : Int32 → Nat → Nat → xg_Y → xg_H → mg_H → Prop} {y3 : Int32} {k n : Nat} {Y : xg_Y} {h : xg_H} {g : mg_H} {nm b : Nat → Nat} {sv : Nat → Bool} (V : IVx a k n Y h g nm b sv) (hv : vps X y3) (ih : ∀ k n Y h g, INV a k n Y h g → R (y3 + 6) k n Y h g) : wp_law_13 X a R y3 k n Y h g := by
  obtain ⟨w1, w2, w3, w4, w5⟩ := hv
  have C := V.2.1
  have cn := V.2.2.1.1
  have CC := C.co cn
  have hn := C.1
  obtain ⟨oks, okd, okl, oko⟩ := IV_shs V
  have rm := IV_room V
  unfold wp_law_13
  refine ⟨w1, w2, IV_is V, rm, ?_⟩
  generalize lg_xs X (y3 + 1).toNatClampNeg = x1
  generalize lg_xs X (y3 + 2).toNatClampNeg = x2
  rw [← V.1]
  exact sp_X11_order ⟨C.2.1.1, C.2.1.2.1⟩ C.2.2.1.1 C.2.2.1.2 cn ⟨w1, w2, rm, sp_order oko (lfin rfl (ih _ _ _ _ _ (IV_q0 V C (mp_ui rz_s (by decide)))))⟩
theorem lw_19 {X : lg_X} {a : Nat} {R : Int32 → Nat → Nat → xg_Y → xg_H → mg_H → Prop} {y3 : Int32} {k n : Nat} {Y : xg_Y} {h : xg_H} {g : mg_H} {nm b : Nat → Nat} {sv : Nat → Bool} (V : IVx a k n Y h g nm b sv) (hv : vps X y3) (ih : ∀ k n Y h g, INV a k n Y h g → R (y3 + 6) k n Y h g) : wp_law_19 X a R y3 k n Y h g := by
  obtain ⟨w1, w2, w3, w4, w5⟩ := hv
  have C := V.2.1
  have cn := V.2.2.1.1
  have CC := C.co cn
  have hn := C.1
  obtain ⟨oks, okd, okl, oko⟩ := IV_shs V
  have rm := IV_room V
  unfold wp_law_19
  refine ⟨w1, w2, w3, IV_is V, rm, ?_⟩
  generalize lg_xs X (y3 + 1).toNatClampNeg = x1
  generalize lg_xs X (y3 + 2).toNatClampNeg = x2
  generalize lg_xs X (y3 + 3).toNatClampNeg = x3
  rw [← V.1]
  exact sp_X11_fact ⟨C.2.1.1, C.2.1.2.1⟩ C.2.2.1.1 C.2.2.1.2 cn ⟨w1, w2, w3, rm, sp_fact okl (lfin rfl (ih _ _ _ _ _ (IV_q0 V C (mp_ui rz_s (by decide)))))⟩
theorem lw_5 {X : lg_X} {a : Nat} {R : Int32 → Nat → Nat → xg_Y → xg_H → mg_H → Prop} {y3 : Int32} {k n : Nat} {Y : xg_Y} {h : xg_H} {g : mg_H} {nm b : Nat → Nat} {sv : Nat → Bool} (V : IVx a k n Y h g nm b sv) (hv : vps X y3) (ih : ∀ k n Y h g, INV a k n Y h g → R (y3 + 6) k n Y h g) : wp_law_5 X a R y3 k n Y h g := by
  obtain ⟨w1, w2, w3, w4, w5⟩ := hv
  have C := V.2.1
  have cn := V.2.2.1.1
  have CC := C.co cn
  have hn := C.1
  obtain ⟨oks, okd, okl, oko⟩ := IV_shs V
  have rm := IV_room V
  unfold wp_law_5
  refine ⟨w1, w2, w3, IV_is V, rm, ?_⟩
  generalize lg_xs X (y3 + 1).toNatClampNeg = x1
  generalize lg_xs X (y3 + 2).toNatClampNeg = x2
  generalize lg_xs X (y3 + 3).toNatClampNeg = x3
  rw [← V.1]
  exact sp_X11_deed ⟨C.2.1.1, C.2.1.2.1⟩ C.2.2.1.1 C.2.2.1.2 cn ⟨w1, w2, w3, rm, sp_deed okd (lfin rfl (ih _ _ _ _ _ (IV_q0 V C (mp_ui rz_s (by decide)))))⟩
theorem lw_4 {X : lg_X} {a : Nat} {R : Int32 → Nat → Nat → xg_Y → xg_H → mg_H → Prop} {y3 : Int32} {k n : Nat} {Y : xg_Y} {h : xg_H} {g : mg_H} {nm b : Nat → Nat} {sv : Nat → Bool} (V : IVx a k n Y h g nm b sv) (hv : vps X y3) (ih : ∀ k n Y h g, INV a k n Y h g → R (y3 + 6) k n Y h g) : wp_law_4 X a R y3 k n Y h g := by
  obtain ⟨w1, w2, w3, w4, w5⟩ := hv
  have C := V.2.1
  have cn := V.2.2.1.1
  have CC := C.co cn
  have hn := C.1
  obtain ⟨oks, okd, okl, oko⟩ := IV_shs V
  have rm := IV_room V
  unfold wp_law_4
  refine ⟨w1, w2, IV_is V, rm, ?_⟩
  generalize lg_xs X (y3 + 1).toNatClampNeg = x1
  generalize lg_xs X (y3 + 2).toNatClampNeg = x2
  rw [← V.1]
  refine sp_X11_shelf ⟨C.2.1.1, C.2.1.2.1⟩ C.2.2.1.1 C.2.2.1.2 cn ⟨w1, w2, rm, sp_shelf oks (fun g2 hg => lfin rfl (ih _ _ _ _ _ (IV_q0 V C ?_)))⟩
  rcases hg with ⟨kk, c, _, _, e⟩ | e <;> rw [e]
  · exact hand_same rz_s
  · exact rz_s
theorem lw_28 {X : lg_X} {a : Nat} {R : Int32 → Nat → Nat → xg_Y → xg_H → mg_H → Prop} {y3 : Int32} {k n : Nat} {Y : xg_Y} {h : xg_H} {g : mg_H} {nm b : Nat → Nat} {sv : Nat → Bool} (V : IVx a k n Y h g nm b sv) (hv : vps X y3) (ih : ∀ k n Y h g, INV a k n Y h g → R (y3 + 6) k n Y h g) : wp_law_28 X a R y3 k n Y h g := by
  obtain ⟨w1, w2, w3, w4, w5⟩ := hv
  have C := V.2.1
  have cn := V.2.2.1.1
  have CC := C.co cn
  have hn := C.1
  obtain ⟨oks, okd, okl, oko⟩ := IV_shs V
  have rm := IV_room V
  unfold wp_law_28
  refine ⟨w1, IV_is V, rm, ?_⟩
  generalize lg_xs X (y3 + 1).toNatClampNeg = x1
  rw [← V.1]
  refine sp_X11_count ⟨C.2.1.1, C.2.1.2.1⟩ C.2.2.1.1 C.2.2.1.2 (fun a1 a2 => ⟨w1, rm, sp_count (fun _ _ => lfin rfl (ih _ _ _ _ _ (IV_q0 V C rz_s))) (fun c => absurd ⟨a1, a2⟩ (mp_not c))⟩) (fun c => ⟨w1, rm, sp_count (fun a1 a2 => absurd ⟨a1, a2⟩ (mp_not c)) (fun _ => lfin rfl (ih _ _ _ _ _ (IV_q0 V C rz_s)))⟩)
theorem lw_3 {X : lg_X} {a : Nat} {R : Int32 → Nat → Nat → xg_Y → xg_H → mg_H → Prop} {y3 : Int32} {k n : Nat} {Y : xg_Y} {h : xg_H} {g : mg_H} {nm b : Nat → Nat} {sv : Nat → Bool} (V : IVx a k n Y h g nm b sv) (hv : vps X y3) (ih : ∀ k n Y h g, INV a k n Y h g → R (y3 + 6) k n Y h g) : wp_law_3 X a R y3 k n Y h g := by
  obtain ⟨w1, w2, w3, w4, w5⟩ := hv
  have C := V.2.1
  have cn := V.2.2.1.1
  have CC := C.co cn
  have hn := C.1
  obtain ⟨oks, okd, okl, oko⟩ := IV_shs V
  have rm := IV_room V
  unfold wp_law_3
  refine ⟨w1, IV_is V, rm, ?_⟩
  generalize lg_xs X (y3 + 1).toNatClampNeg = x1
  rw [← V.1]
  refine sp_X11_fault ⟨C.2.1.1, C.2.1.2.1⟩ C.2.2.1.1 C.2.2.1.2 (fun e => ⟨w1, rm, sp_fault (fun _ => lfin rfl (ih _ _ _ _ _ (IV_q0 V C rz_s))) (fun e1 => absurd (e.symm.trans e1) (by decide)) (fun c _ => absurd e c)⟩) (fun e => ⟨w1, rm, sp_fault (fun e1 => absurd (e.symm.trans e1) (by decide)) (fun _ => lfin rfl (ih _ _ _ _ _ (IV_q0 V C rz_s))) (fun _ c => absurd e c)⟩) (fun c0 c1 => ⟨w1, rm, sp_fault (fun e => absurd e c0) (fun e => absurd e c1) (fun _ _ => lfin rfl (ih _ _ _ _ _ (IV_q0 V C rz_s)))⟩)
theorem lw_6 {X : lg_X} {a : Nat} {R : Int32 → Nat → Nat → xg_Y → xg_H → mg_H → Prop} {y3 : Int32} {k n : Nat} {Y : xg_Y} {h : xg_H} {g : mg_H} {nm b : Nat → Nat} {sv : Nat → Bool} (V : IVx a k n Y h g nm b sv) (hv : vps X y3) (ih : ∀ k n Y h g, INV a k n Y h g → R (y3 + 6) k n Y h g) : wp_law_6 X a R y3 k n Y h g := by
  obtain ⟨w1, w2, w3, w4, w5⟩ := hv
  have C := V.2.1
  have cn := V.2.2.1.1
  have CC := C.co cn
  have hn := C.1
  obtain ⟨oks, okd, okl, oko⟩ := IV_shs V
  have rm := IV_room V
  unfold wp_law_6
  refine ⟨w1, w2, IV_is V, rm, ?_⟩
  generalize lg_xs X (y3 + 1).toNatClampNeg = x1
  generalize lg_xs X (y3 + 2).toNatClampNeg = x2
  rw [← V.1]
  rcases okN_em (s := 0) (by decide) cn x1 with ⟨kk, hx⟩ | hx
  · rcases okN_em (s := 1) (by decide) cn x2 with ⟨dd, hy⟩ | hy
    · obtain ⟨nn, z, t, pr, S⟩ := V.2.2.1.2.2.1 kk x1 hx
      obtain ⟨m, kd, yy, D⟩ := V.2.2.1.2.2.2.1 dd x2 hy
      exact sp_X11_stopV hn CC C.2.2.2.1.1 C.2.1.2.2.2.2.1 hx hy S D (fun j h' e E => ⟨w1, w2, rm, sp_stopV okd oks hx hy S D (fun j2 g2 ms E2 => lfin (by rw [wE_one E E2]) (ih _ _ _ _ _ (IV_q0 V (CW_xd C e lB30) ms)))⟩)
    · exact sp_X11_stop0 CC (Or.inr hy) ⟨w1, w2, rm, sp_stop0 okd oks (Or.inr hy) (V.2.2.1.2.2.1 · x1) (fun g2 ms => lfin rfl (ih _ _ _ _ _ (IV_q0 V C ms)))⟩
  · exact sp_X11_stop0 CC (Or.inl hx) ⟨w1, w2, rm, sp_stop0 okd oks (Or.inl hx) (V.2.2.1.2.2.1 · x1) (fun g2 ms => lfin rfl (ih _ _ _ _ _ (IV_q0 V C ms)))⟩
theorem lw_7 {X : lg_X} {a : Nat} {R : Int32 → Nat → Nat → xg_Y → xg_H → mg_H → Prop} {y3 : Int32} {k n : Nat} {Y : xg_Y} {h : xg_H} {g : mg_H} {nm b : Nat → Nat} {sv : Nat → Bool} (V : IVx a k n Y h g nm b sv) (hv : vps X y3) (ih : ∀ k n Y h g, INV a k n Y h g → R (y3 + 6) k n Y h g) : wp_law_7 X a R y3 k n Y h g := by
  obtain ⟨w1, w2, w3, w4, w5⟩ := hv
  have C := V.2.1
  have cn := V.2.2.1.1
  have CC := C.co cn
  have hn := C.1
  obtain ⟨oks, okd, okl, oko⟩ := IV_shs V
  have rm := IV_room V
  unfold wp_law_7
  refine ⟨w1, w2, w3, w4, IV_is V, rm, ?_⟩
  generalize lg_xs X (y3 + 1).toNatClampNeg = x1
  generalize lg_xs X (y3 + 2).toNatClampNeg = x2
  generalize lg_xs X (y3 + 3).toNatClampNeg = x3
  generalize lg_xs X (y3 + 4).toNatClampNeg = x4
  rw [← V.1]
  rcases okN_em (s := 0) (by decide) cn x1 with ⟨kk, hx⟩ | hx
  · rcases okN_em (s := 1) (by decide) cn x2 with ⟨dd, hy⟩ | hy
    · obtain ⟨nn, z, t, pr, S⟩ := V.2.2.1.2.2.1 kk x1 hx
      obtain ⟨m, kd, yy, D⟩ := V.2.2.1.2.2.2.1 dd x2 hy
      have hm := D.1
      by_cases hN : 0 ≤ x3 ∧ x3 ≤ nI m
      · obtain ⟨N, eN, _, hNm⟩ := rgN (lo := 0) hN (by omega)
        rw [eN]
        exact sp_X11_stateV hn CC C.2.2.2.1.1 C.2.1.2.2.2.2.1 hx hy hNm S D (fun v h' e E => ⟨w1, w2, w3, w4, rm, sp_stateV okd oks hx hy hNm S D (fun v2 g2 ms E2 => lfin (STv_one E E2) (ih _ _ _ _ _ (IV_q0 V (CW_xd C e lB30) ms)))⟩)
      · exact sp_X11_state1 CC hx hy hN D ⟨w1, w2, w3, w4, rm, sp_state1 okd oks hx hy hN S D (fun g2 ms => lfin rfl (ih _ _ _ _ _ (IV_q0 V C ms)))⟩
    · exact sp_X11_state0 CC (Or.inr hy) ⟨w1, w2, w3, w4, rm, sp_state0 okd oks (Or.inr hy) (V.2.2.1.2.2.1 · x1) (fun g2 ms => lfin rfl (ih _ _ _ _ _ (IV_q0 V C ms)))⟩
  · exact sp_X11_state0 CC (Or.inl hx) ⟨w1, w2, w3, w4, rm, sp_state0 okd oks (Or.inl hx) (V.2.2.1.2.2.1 · x1) (fun g2 ms => lfin rfl (ih _ _ _ _ _ (IV_q0 V C ms)))⟩
theorem lw_27 {X : lg_X} {a : Nat} {R : Int32 → Nat → Nat → xg_Y → xg_H → mg_H → Prop} {y3 : Int32} {k n : Nat} {Y : xg_Y} {h : xg_H} {g : mg_H} {nm b : Nat → Nat} {sv : Nat → Bool} (V : IVx a k n Y h g nm b sv) (hv : vps X y3) (ih : ∀ k n Y h g, INV a k n Y h g → R (y3 + 6) k n Y h g) : wp_law_27 X a R y3 k n Y h g := by
  obtain ⟨w1, w2, w3, w4, w5⟩ := hv
  have C := V.2.1
  have cn := V.2.2.1.1
  have CC := C.co cn
  have hn := C.1
  obtain ⟨oks, okd, okl, oko⟩ := IV_shs V
  have rm := IV_room V
  unfold wp_law_27
  refine ⟨w1, w2, w3, IV_is V, rm, ?_⟩
  generalize lg_xs X (y3 + 1).toNatClampNeg = x1
  generalize lg_xs X (y3 + 2).toNatClampNeg = x2
  generalize lg_xs X (y3 + 3).toNatClampNeg = x3
  rw [← V.1]
  rcases okN_em (s := 0) (by decide) cn x1 with ⟨kk, hx⟩ | hx
  · rcases okN_em (s := 1) (by decide) cn x2 with ⟨dd, hy⟩ | hy
    · obtain ⟨nn, z, t, pr, S⟩ := V.2.2.1.2.2.1 kk x1 hx
      obtain ⟨m, kd, yy, D⟩ := V.2.2.1.2.2.2.1 dd x2 hy
      by_cases hN : 0 ≤ x3 ∧ x3 ≤ 5
      · refine sp_X11_afterV hn CC C.2.2.2.1.1 C.2.1.2.2.2.2.1 hx hy hN.1 hN.2 S D (fun j v h' e E A => ⟨w1, w2, w3, rm, sp_afterV okd oks hx hy hN.1 hN.2 S D (fun j2 v2 g2 ms E2 A2 => lfin ?_ (ih _ _ _ _ _ (IV_q0 V (CW_xd C e lB30) ms)))⟩)
        rw [wE_one E2 E] at A2
        exact AFv_one hN.1 hN.2 A A2
      · exact sp_X11_after1 hn CC C.2.2.2.1.1 C.2.1.2.2.2.2.1 hx hy hN S D (fun h' e => ⟨w1, w2, w3, rm, sp_after1 okd oks hx hy hN S (fun g2 ms => lfin rfl (ih _ _ _ _ _ (IV_q0 V (CW_xd C e lB30) ms)))⟩)
    · exact sp_X11_after0 CC (Or.inr hy) ⟨w1, w2, w3, rm, sp_after0 okd oks (Or.inr hy) (V.2.2.1.2.2.1 · x1) (fun g2 ms => lfin rfl (ih _ _ _ _ _ (IV_q0 V C ms)))⟩
  · exact sp_X11_after0 CC (Or.inl hx) ⟨w1, w2, w3, rm, sp_after0 okd oks (Or.inl hx) (V.2.2.1.2.2.1 · x1) (fun g2 ms => lfin rfl (ih _ _ _ _ _ (IV_q0 V C ms)))⟩
theorem lw_21 {X : lg_X} {a : Nat} {R : Int32 → Nat → Nat → xg_Y → xg_H → mg_H → Prop} {y3 : Int32} {k n : Nat} {Y : xg_Y} {h : xg_H} {g : mg_H} {nm b : Nat → Nat} {sv : Nat → Bool} (V : IVx a k n Y h g nm b sv) (hv : vps X y3) (ih : ∀ k n Y h g, INV a k n Y h g → R (y3 + 6) k n Y h g) : wp_law_21 X a R y3 k n Y h g := by
  obtain ⟨w1, w2, w3, w4, w5⟩ := hv
  have C := V.2.1
  have cn := V.2.2.1.1
  have CC := C.co cn
  have hn := C.1
  obtain ⟨oks, okd, okl, oko⟩ := IV_shs V
  have rm := IV_room V
  unfold wp_law_21
  refine ⟨w1, w2, w3, w4, IV_is V, rm, ?_⟩
  generalize lg_xs X (y3 + 1).toNatClampNeg = x1
  generalize lg_xs X (y3 + 2).toNatClampNeg = x2
  generalize lg_xs X (y3 + 3).toNatClampNeg = x3
  generalize lg_xs X (y3 + 4).toNatClampNeg = x4
  rw [← V.1]
  by_cases hN : 0 ≤ x3 ∧ x3 ≤ 60
  · rcases okN_em (s := 0) (by decide) cn x1 with ⟨kk, hx⟩ | hx
    · obtain ⟨nn, z, t, pr, S⟩ := V.2.2.1.2.2.1 kk x1 hx
      obtain ⟨N, eN, _, hNm⟩ := rgN (lo := 0) (hi := 60) hN (by decide)
      rw [eN]
      exact sp_X11_drawnV hn CC C.2.2.2.1.1 C.2.1.2.2.2.2.1 hx hNm S (fun v h' e E => ⟨w1, w2, w3, w4, rm, sp_drawnV oks hx hNm S (fun v2 g2 ms E2 => lfin (SV_one E E2) (ih _ _ _ _ _ (IV_q0 V (CW_xd C e lB30) ms)))⟩)
    · exact sp_X11_drawn0 CC (Or.inl hx) ⟨w1, w2, w3, w4, rm, sp_drawn0 oks (Or.inl hx) (fun g2 ms => lfin rfl (ih _ _ _ _ _ (IV_q0 V C ms)))⟩
  · exact sp_X11_drawn0 CC (Or.inr hN) ⟨w1, w2, w3, w4, rm, sp_drawn0 oks (Or.inr hN) (fun g2 ms => lfin rfl (ih _ _ _ _ _ (IV_q0 V C ms)))⟩
theorem lw_20 {X : lg_X} {a : Nat} {R : Int32 → Nat → Nat → xg_Y → xg_H → mg_H → Prop} {y3 : Int32} {k n : Nat} {Y : xg_Y} {h : xg_H} {g : mg_H} {nm b : Nat → Nat} {sv : Nat → Bool} (V : IVx a k n Y h g nm b sv) (hv : vps X y3) (ih : ∀ k n Y h g, INV a k n Y h g → R (y3 + 6) k n Y h g) : wp_law_20 X a R y3 k n Y h g := by
  obtain ⟨w1, w2, w3, w4, w5⟩ := hv
  have C := V.2.1
  have cn := V.2.2.1.1
  have CC := C.co cn
  have hn := C.1
  obtain ⟨oks, okd, okl, oko⟩ := IV_shs V
  have rm := IV_room V
  unfold wp_law_20
  refine ⟨w1, w2, w3, w4, IV_is V, rm, ?_⟩
  generalize lg_xs X (y3 + 1).toNatClampNeg = x1
  generalize lg_xs X (y3 + 2).toNatClampNeg = x2
  generalize lg_xs X (y3 + 3).toNatClampNeg = x3
  generalize lg_xs X (y3 + 4).toNatClampNeg = x4
  rw [← V.1]
  rcases okN_em (s := 0) (by decide) cn x1 with ⟨kk, hx⟩ | hx
  · rcases okN_em (s := 1) (by decide) cn x2 with ⟨dd, hy⟩ | hy
    · rcases okN_em (s := 2) (by decide) cn x3 with ⟨ll, hw⟩ | hw
      · obtain ⟨nn, z, t, pr, S⟩ := V.2.2.1.2.2.1 kk x1 hx
        obtain ⟨m, kd, yy, D⟩ := V.2.2.1.2.2.2.1 dd x2 hy
        obtain ⟨c, mi, gl, L⟩ := V.2.2.1.2.2.2.2.1 ll x3 hw
        have hP : PBk z nn < 5000 := by
          have p8 := (PBk_b (fun g => (S.z7 g).1) nn).2
          have p9 : 8 ^ nn ≤ 8 ^ 4 := Nat.pow_le_pow_right (by decide) S.1
          have p10 : 8 ^ 4 = 4096 := by decide
          omega
        exact sp_X11_fitsV hn CC C.2.2.2.1.2.1 C.2.1.2.2.2.2.2.1 hx hy hw S D L (fun v h' e E => ⟨w1, w2, w3, w4, rm, sp_fitsV okd oks okl hx hy hw S D L (fun v2 g2 ms E2 => lfin (FSv_one hP E E2) (ih _ _ _ _ _ (IV_q0 V (CW_xc C e) ms)))⟩)
      · have hb : noN (mg_i g) 0 x1 ∨ noN (mg_i g) 1 x2 ∨ noN (mg_i g) 2 x3 := Or.inr (Or.inr hw)
        exact sp_X11_fits0 CC hb ⟨w1, w2, w3, w4, rm, sp_fits0 okd oks okl hb (fun g2 ms => lfin rfl (ih _ _ _ _ _ (IV_q0 V C ms)))⟩
    · have hb : noN (mg_i g) 0 x1 ∨ noN (mg_i g) 1 x2 ∨ noN (mg_i g) 2 x3 := Or.inr (Or.inl hy)
      exact sp_X11_fits0 CC hb ⟨w1, w2, w3, w4, rm, sp_fits0 okd oks okl hb (fun g2 ms => lfin rfl (ih _ _ _ _ _ (IV_q0 V C ms)))⟩
  · have hb : noN (mg_i g) 0 x1 ∨ noN (mg_i g) 1 x2 ∨ noN (mg_i g) 2 x3 := Or.inl hx
    exact sp_X11_fits0 CC hb ⟨w1, w2, w3, w4, rm, sp_fits0 okd oks okl hb (fun g2 ms => lfin rfl (ih _ _ _ _ _ (IV_q0 V C ms)))⟩
theorem lw_25 {X : lg_X} {a : Nat} {R : Int32 → Nat → Nat → xg_Y → xg_H → mg_H → Prop} {y3 : Int32} {k n : Nat} {Y : xg_Y} {h : xg_H} {g : mg_H} {nm b : Nat → Nat} {sv : Nat → Bool} (V : IVx a k n Y h g nm b sv) (hv : vps X y3) (ih : ∀ k n Y h g, INV a k n Y h g → R (y3 + 6) k n Y h g) : wp_law_25 X a R y3 k n Y h g := by
  obtain ⟨w1, w2, w3, w4, w5⟩ := hv
  have C := V.2.1
  have cn := V.2.2.1.1
  have CC := C.co cn
  have hn := C.1
  obtain ⟨oks, okd, okl, oko⟩ := IV_shs V
  have rm := IV_room V
  unfold wp_law_25
  refine ⟨w1, w2, IV_is V, rm, ?_⟩
  generalize lg_xs X (y3 + 1).toNatClampNeg = x1
  generalize lg_xs X (y3 + 2).toNatClampNeg = x2
  rw [← V.1]
  by_cases hT : 1 ≤ x2 ∧ x2 ≤ 30
  · rcases okN_em (s := 0) (by decide) cn x1 with ⟨kk, hx⟩ | hx
    · obtain ⟨nn, z, t, pr, S⟩ := V.2.2.1.2.2.1 kk x1 hx
      obtain ⟨T, eT, h1, h30⟩ := rgN (lo := 1) (hi := 30) hT (by decide)
      rw [eT]
      refine tp_sameV C cn hx S h1 h30 (fun h' C' sm => ⟨w1, w2, rm, ?_⟩) (fun h' C' sm => ⟨w1, w2, rm, ?_⟩)
      · rw [hx.1]
        exact sp_same oks hx.2.2 hx.2.1 S h1 h30 (fun g2 ms _ => lfin rfl (ih _ _ _ _ _ (IV_q0 V C' ms))) (fun g2 ms c => absurd sm c)
      · rw [hx.1]
        exact sp_same oks hx.2.2 hx.2.1 S h1 h30 (fun g2 ms c => absurd c sm) (fun g2 ms _ => lfin rfl (ih _ _ _ _ _ (IV_q0 V C' ms)))
    · exact tp_same0 C cn (Or.inl hx) ⟨w1, w2, rm, sp_same0 oks (Or.inl hx) (fun g2 ms => lfin rfl (ih _ _ _ _ _ (IV_q0 V C ms)))⟩
  · exact tp_same0 C cn (Or.inr hT) ⟨w1, w2, rm, sp_same0 oks (Or.inr hT) (fun g2 ms => lfin rfl (ih _ _ _ _ _ (IV_q0 V C ms)))⟩
theorem lw_8 {X : lg_X} {a : Nat} {R : Int32 → Nat → Nat → xg_Y → xg_H → mg_H → Prop} {y3 : Int32} {k n : Nat} {Y : xg_Y} {h : xg_H} {g : mg_H} {nm b : Nat → Nat} {sv : Nat → Bool} (V : IVx a k n Y h g nm b sv) (hv : vps X y3) (ih : ∀ k n Y h g, INV a k n Y h g → R (y3 + 6) k n Y h g) : wp_law_8 X a R y3 k n Y h g := by
  obtain ⟨w1, w2, w3, w4, w5⟩ := hv
  have C := V.2.1
  have cn := V.2.2.1.1
  have CC := C.co cn
  have hn := C.1
  obtain ⟨oks, okd, okl, oko⟩ := IV_shs V
  have rm := IV_room V
  unfold wp_law_8
  refine ⟨w1, w2, w3, IV_is V, ?_⟩
  generalize lg_xs X (y3 + 1).toNatClampNeg = x1
  generalize lg_xs X (y3 + 2).toNatClampNeg = x2
  generalize lg_xs X (y3 + 3).toNatClampNeg = x3
  rw [← V.1]
  by_cases hT : 1 ≤ x2 ∧ x2 ≤ 30
  · rcases okN_em (s := 0) (by decide) cn x1 with ⟨kk, hx⟩ | hx
    · obtain ⟨nn, z, t, pr, S⟩ := V.2.2.1.2.2.1 kk x1 hx
      obtain ⟨T, eT, h1, h30⟩ := rgN (lo := 1) (hi := 30) hT (by decide)
      refine ⟨40 * dB b kk nn, 120000 * dB b kk nn, IV_br V hx.2.1 S.1, ?_⟩
      rw [eT]
      refine tp_tellV C cn hx S h1 h30 (Nat.le_refl _) (Nat.le_refl _) (fun nm' Y' h' v C' e0 L => ⟨w1, w2, w3, IV_br V hx.2.1 S.1, ?_⟩)
      rw [hx.1]
      exact sp_tell oks hx.2.2 hx.2.1 S h1 h30 (fun v2 g2 ms L2 => lfin (TE_one h30 L L2) (ih _ _ _ _ _ (IV_b V hx.2.1 S.1 C' e0 ms)))
    · exact ⟨0, 0, rm, tp_tell0 C cn (Or.inl hx) ⟨w1, w2, w3, rm, sp_tell0 oks (Or.inl hx) (fun g2 ms => lfin rfl (ih _ _ _ _ _ (IV_q1 V ms)))⟩⟩
  · exact ⟨0, 0, rm, tp_tell0 C cn (Or.inr hT) ⟨w1, w2, w3, rm, sp_tell0 oks (Or.inr hT) (fun g2 ms => lfin rfl (ih _ _ _ _ _ (IV_q1 V ms)))⟩⟩
theorem lw_9 {X : lg_X} {a : Nat} {R : Int32 → Nat → Nat → xg_Y → xg_H → mg_H → Prop} {y3 : Int32} {k n : Nat} {Y : xg_Y} {h : xg_H} {g : mg_H} {nm b : Nat → Nat} {sv : Nat → Bool} (V : IVx a k n Y h g nm b sv) (hv : vps X y3) (ih : ∀ k n Y h g, INV a k n Y h g → R (y3 + 6) k n Y h g) : wp_law_9 X a R y3 k n Y h g := by
  obtain ⟨w1, w2, w3, w4, w5⟩ := hv
  have C := V.2.1
  have cn := V.2.2.1.1
  have CC := C.co cn
  have hn := C.1
  obtain ⟨oks, okd, okl, oko⟩ := IV_shs V
  have rm := IV_room V
  unfold wp_law_9
  refine ⟨w1, w2, IV_is V, ?_⟩
  generalize lg_xs X (y3 + 1).toNatClampNeg = x1
  generalize lg_xs X (y3 + 2).toNatClampNeg = x2
  rw [← V.1]
  by_cases hT : 0 ≤ x2 ∧ x2 ≤ 99
  · rcases okN_em (s := 0) (by decide) cn x1 with ⟨kk, hx⟩ | hx
    · obtain ⟨nn, z, t, pr, S⟩ := V.2.2.1.2.2.1 kk x1 hx
      obtain ⟨T, eT, h1, h30⟩ := rgN (lo := 0) (hi := 99) hT (by decide)
      refine ⟨40 * dB b kk nn, 120000 * dB b kk nn, IV_br V hx.2.1 S.1, ?_⟩
      rw [eT]
      refine tp_purseV C cn hx S h30 (Nat.le_refl _) (Nat.le_refl _) (fun nm' Y' h' v C' e0 L => ⟨w1, w2, IV_br V hx.2.1 S.1, ?_⟩)
      rw [hx.1]
      exact sp_purse oks hx.2.2 hx.2.1 S h30 (fun v2 g2 ms L2 => lfin (isB_one L L2 (fun _ => Iff.rfl)) (ih _ _ _ _ _ (IV_b V hx.2.1 S.1 C' e0 ms)))
    · exact ⟨0, 0, rm, tp_purse0 C cn (Or.inl hx) ⟨w1, w2, rm, sp_purse0 oks (Or.inl hx) (fun g2 ms => lfin rfl (ih _ _ _ _ _ (IV_q1 V ms)))⟩⟩
  · exact ⟨0, 0, rm, tp_purse0 C cn (Or.inr hT) ⟨w1, w2, rm, sp_purse0 oks (Or.inr hT) (fun g2 ms => lfin rfl (ih _ _ _ _ _ (IV_q1 V ms)))⟩⟩
theorem lw_11 {X : lg_X} {a : Nat} {R : Int32 → Nat → Nat → xg_Y → xg_H → mg_H → Prop} {y3 : Int32} {k n : Nat} {Y : xg_Y} {h : xg_H} {g : mg_H} {nm b : Nat → Nat} {sv : Nat → Bool} (V : IVx a k n Y h g nm b sv) (hv : vps X y3) (ih : ∀ k n Y h g, INV a k n Y h g → R (y3 + 6) k n Y h g) : wp_law_11 X a R y3 k n Y h g := by
  obtain ⟨w1, w2, w3, w4, w5⟩ := hv
  have C := V.2.1
  have cn := V.2.2.1.1
  have CC := C.co cn
  have hn := C.1
  obtain ⟨oks, okd, okl, oko⟩ := IV_shs V
  have rm := IV_room V
  unfold wp_law_11
  refine ⟨w1, w2, IV_is V, ?_⟩
  generalize lg_xs X (y3 + 1).toNatClampNeg = x1
  generalize lg_xs X (y3 + 2).toNatClampNeg = x2
  rw [← V.1]
  by_cases hT : 1 ≤ x2 ∧ x2 ≤ 30
  · rcases okN_em (s := 0) (by decide) cn x1 with ⟨kk, hx⟩ | hx
    · obtain ⟨nn, z, t, pr, S⟩ := V.2.2.1.2.2.1 kk x1 hx
      obtain ⟨T, eT, h1, h30⟩ := rgN (lo := 1) (hi := 30) hT (by decide)
      refine ⟨40 * dB b kk nn, 120000 * dB b kk nn, IV_br V hx.2.1 S.1, ?_⟩
      rw [eT]
      refine tp_spanV C cn hx S h1 h30 (Nat.le_refl _) (Nat.le_refl _) (fun nm' Y' h' v C' e0 L => ⟨w1, w2, IV_br V hx.2.1 S.1, ?_⟩)
      rw [hx.1]
      exact sp_span oks hx.2.2 hx.2.1 S h1 h30 (fun v2 g2 ms L2 => lfin (lst_one L L2 (fun _ => Iff.rfl)) (ih _ _ _ _ _ (IV_b V hx.2.1 S.1 C' e0 ms)))
    · exact ⟨0, 0, rm, tp_span0 C cn (Or.inl hx) ⟨w1, w2, rm, sp_span0 oks (Or.inl hx) (fun g2 ms => lfin rfl (ih _ _ _ _ _ (IV_q1 V ms)))⟩⟩
  · exact ⟨0, 0, rm, tp_span0 C cn (Or.inr hT) ⟨w1, w2, rm, sp_span0 oks (Or.inr hT) (fun g2 ms => lfin rfl (ih _ _ _ _ _ (IV_q1 V ms)))⟩⟩
theorem lw_23 {X : lg_X} {a : Nat} {R : Int32 → Nat → Nat → xg_Y → xg_H → mg_H → Prop} {y3 : Int32} {k n : Nat} {Y : xg_Y} {h : xg_H} {g : mg_H} {nm b : Nat → Nat} {sv : Nat → Bool} (V : IVx a k n Y h g nm b sv) (hv : vps X y3) (ih : ∀ k n Y h g, INV a k n Y h g → R (y3 + 6) k n Y h g) : wp_law_23 X a R y3 k n Y h g := by
  obtain ⟨w1, w2, w3, w4, w5⟩ := hv
  have C := V.2.1
  have cn := V.2.2.1.1
  have CC := C.co cn
  have hn := C.1
  obtain ⟨oks, okd, okl, oko⟩ := IV_shs V
  have rm := IV_room V
  unfold wp_law_23
  refine ⟨w1, w2, IV_is V, ?_⟩
  generalize lg_xs X (y3 + 1).toNatClampNeg = x1
  generalize lg_xs X (y3 + 2).toNatClampNeg = x2
  rw [← V.1]
  by_cases hT : 1 ≤ x2 ∧ x2 ≤ 30
  · rcases okN_em (s := 0) (by decide) cn x1 with ⟨kk, hx⟩ | hx
    · obtain ⟨nn, z, t, pr, S⟩ := V.2.2.1.2.2.1 kk x1 hx
      obtain ⟨T, eT, h1, h30⟩ := rgN (lo := 1) (hi := 30) hT (by decide)
      refine ⟨40 * dB b kk nn, 120000 * dB b kk nn, IV_br V hx.2.1 S.1, ?_⟩
      rw [eT]
      refine tp_couplesV C cn hx S h1 h30 (Nat.le_refl _) (Nat.le_refl _) (fun nm' Y' h' C' e0 => ⟨w1, w2, IV_br V hx.2.1 S.1, ?_⟩)
      rw [hx.1]
      exact sp_couples oks hx.2.2 hx.2.1 S h1 h30 (fun g2 ms => lfin rfl (ih _ _ _ _ _ (IV_b V hx.2.1 S.1 C' e0 ms)))
    · exact ⟨0, 0, rm, tp_couples0 C cn (Or.inl hx) ⟨w1, w2, rm, sp_couples0 oks (Or.inl hx) (fun g2 ms => lfin rfl (ih _ _ _ _ _ (IV_q1 V ms)))⟩⟩
  · exact ⟨0, 0, rm, tp_couples0 C cn (Or.inr hT) ⟨w1, w2, rm, sp_couples0 oks (Or.inr hT) (fun g2 ms => lfin rfl (ih _ _ _ _ _ (IV_q1 V ms)))⟩⟩
theorem lw_24 {X : lg_X} {a : Nat} {R : Int32 → Nat → Nat → xg_Y → xg_H → mg_H → Prop} {y3 : Int32} {k n : Nat} {Y : xg_Y} {h : xg_H} {g : mg_H} {nm b : Nat → Nat} {sv : Nat → Bool} (V : IVx a k n Y h g nm b sv) (hv : vps X y3) (ih : ∀ k n Y h g, INV a k n Y h g → R (y3 + 6) k n Y h g) : wp_law_24 X a R y3 k n Y h g := by
  obtain ⟨w1, w2, w3, w4, w5⟩ := hv
  have C := V.2.1
  have cn := V.2.2.1.1
  have CC := C.co cn
  have hn := C.1
  obtain ⟨oks, okd, okl, oko⟩ := IV_shs V
  have rm := IV_room V
  unfold wp_law_24
  refine ⟨w1, w2, IV_is V, ?_⟩
  generalize lg_xs X (y3 + 1).toNatClampNeg = x1
  generalize lg_xs X (y3 + 2).toNatClampNeg = x2
  rw [← V.1]
  by_cases hT : 0 ≤ x2 ∧ x2 ≤ 30
  · rcases okN_em (s := 0) (by decide) cn x1 with ⟨kk, hx⟩ | hx
    · obtain ⟨nn, z, t, pr, S⟩ := V.2.2.1.2.2.1 kk x1 hx
      obtain ⟨T, eT, h1, h30⟩ := rgN (lo := 0) (hi := 30) hT (by decide)
      refine ⟨40 * dB b kk nn, 120000 * dB b kk nn, IV_br V hx.2.1 S.1, ?_⟩
      rw [eT]
      refine tp_crowdV C cn hx S h30 (Nat.le_refl _) (Nat.le_refl _) (fun nm' Y' h' C' e0 => ⟨w1, w2, IV_br V hx.2.1 S.1, ?_⟩)
      rw [hx.1]
      exact sp_crowd oks hx.2.2 hx.2.1 S h30 (fun g2 ms => lfin rfl (ih _ _ _ _ _ (IV_b V hx.2.1 S.1 C' e0 ms)))
    · exact ⟨0, 0, rm, tp_crowd0 C cn (Or.inl hx) ⟨w1, w2, rm, sp_crowd0 oks (Or.inl hx) (fun g2 ms => lfin rfl (ih _ _ _ _ _ (IV_q1 V ms)))⟩⟩
  · exact ⟨0, 0, rm, tp_crowd0 C cn (Or.inr hT) ⟨w1, w2, rm, sp_crowd0 oks (Or.inr hT) (fun g2 ms => lfin rfl (ih _ _ _ _ _ (IV_q1 V ms)))⟩⟩
theorem lw_12 {X : lg_X} {a : Nat} {R : Int32 → Nat → Nat → xg_Y → xg_H → mg_H → Prop} {y3 : Int32} {k n : Nat} {Y : xg_Y} {h : xg_H} {g : mg_H} {nm b : Nat → Nat} {sv : Nat → Bool} (V : IVx a k n Y h g nm b sv) (hv : vps X y3) (ih : ∀ k n Y h g, INV a k n Y h g → R (y3 + 6) k n Y h g) : wp_law_12 X a R y3 k n Y h g := by
  obtain ⟨w1, w2, w3, w4, w5⟩ := hv
  have C := V.2.1
  have cn := V.2.2.1.1
  have CC := C.co cn
  have hn := C.1
  obtain ⟨oks, okd, okl, oko⟩ := IV_shs V
  have rm := IV_room V
  unfold wp_law_12
  refine ⟨w1, w2, w3, ?_⟩
  generalize lg_xs X (y3 + 1).toNatClampNeg = x1
  generalize lg_xs X (y3 + 2).toNatClampNeg = x2
  generalize lg_xs X (y3 + 3).toNatClampNeg = x3
  have is := IV_is V
  rw [← V.1] at is ⊢
  refine ⟨fun c => ?_, fun c => ?_⟩
  · by_cases hT : 1 ≤ x2 ∧ x2 ≤ 30
    · rcases okN_em (s := 0) (by decide) cn x1 with ⟨kk, hx⟩ | hx
      · obtain ⟨nn, z, t, pr, S⟩ := V.2.2.1.2.2.1 kk x1 hx
        obtain ⟨T, eT, h1, h30⟩ := rgN (lo := 1) (hi := 30) hT (by decide)
        refine ⟨is, 40 * dB b kk nn, 120000 * dB b kk nn, IV_br V hx.2.1 S.1, ?_⟩
        rw [eT]
        refine tp_needV C cn hx S h1 h30 (Nat.le_refl _) (Nat.le_refl _) (fun nm' Y' h' v C' e0 L => ⟨w1, w2, w3, fun _ => ⟨IV_br V hx.2.1 S.1, ?_⟩, fun c' => absurd c c'⟩)
        rw [hx.1]
        exact sp_need oks hx.2.2 hx.2.1 S h1 h30 (fun v2 g2 ms L2 => lfin (ND_one L L2) (ih _ _ _ _ _ (IV_b V hx.2.1 S.1 C' e0 ms)))
      · exact ⟨is, 0, 0, rm, tp_need0 C cn (Or.inl hx) ⟨w1, w2, w3, fun _ => ⟨rm, sp_need0 oks (Or.inl hx) (fun g2 ms => lfin rfl (ih _ _ _ _ _ (IV_q1 V ms)))⟩, fun c' => absurd c c'⟩⟩
    · exact ⟨is, 0, 0, rm, tp_need0 C cn (Or.inr hT) ⟨w1, w2, w3, fun _ => ⟨rm, sp_need0 oks (Or.inr hT) (fun g2 ms => lfin rfl (ih _ _ _ _ _ (IV_q1 V ms)))⟩, fun c' => absurd c c'⟩⟩
  · by_cases hT : 1 ≤ x2 ∧ x2 ≤ 30
    · rcases okN_em (s := 0) (by decide) cn x1 with ⟨kk, hx⟩ | hx
      · obtain ⟨nn, z, t, pr, S⟩ := V.2.2.1.2.2.1 kk x1 hx
        obtain ⟨T, eT, h1, h30⟩ := rgN (lo := 1) (hi := 30) hT (by decide)
        refine ⟨is, 40 * dB b kk nn, 120000 * dB b kk nn, IV_br V hx.2.1 S.1, ?_⟩
        rw [eT]
        refine tp_needV C cn hx S h1 h30 (Nat.le_refl _) (Nat.le_refl _) (fun nm' Y' h' v C' e0 L => ⟨w1, w2, w3, fun c' => absurd c' c, fun _ => ⟨IV_br V hx.2.1 S.1, ?_⟩⟩)
        rw [hx.1]
        exact sp_need oks hx.2.2 hx.2.1 S h1 h30 (fun v2 g2 ms L2 => lfin (ND_one L L2) (ih _ _ _ _ _ (IV_b V hx.2.1 S.1 C' e0 ms)))
      · exact ⟨is, 0, 0, rm, tp_need0 C cn (Or.inl hx) ⟨w1, w2, w3, fun c' => absurd c' c, fun _ => ⟨rm, sp_need0 oks (Or.inl hx) (fun g2 ms => lfin rfl (ih _ _ _ _ _ (IV_q1 V ms)))⟩⟩⟩
    · exact ⟨is, 0, 0, rm, tp_need0 C cn (Or.inr hT) ⟨w1, w2, w3, fun c' => absurd c' c, fun _ => ⟨rm, sp_need0 oks (Or.inr hT) (fun g2 ms => lfin rfl (ih _ _ _ _ _ (IV_q1 V ms)))⟩⟩⟩
theorem lw_16 {X : lg_X} {a : Nat} {R : Int32 → Nat → Nat → xg_Y → xg_H → mg_H → Prop} {y3 : Int32} {k n : Nat} {Y : xg_Y} {h : xg_H} {g : mg_H} {nm b : Nat → Nat} {sv : Nat → Bool} (V : IVx a k n Y h g nm b sv) (hv : vps X y3) (ih : ∀ k n Y h g, INV a k n Y h g → R (y3 + 6) k n Y h g) : wp_law_16 X a R y3 k n Y h g := by
  obtain ⟨w1, w2, w3, w4, w5⟩ := hv
  have C := V.2.1
  have cn := V.2.2.1.1
  have CC := C.co cn
  have hn := C.1
  obtain ⟨oks, okd, okl, oko⟩ := IV_shs V
  have rm := IV_room V
  unfold wp_law_16
  refine ⟨w1, w2, w3, ?_⟩
  generalize lg_xs X (y3 + 1).toNatClampNeg = x1
  generalize lg_xs X (y3 + 2).toNatClampNeg = x2
  generalize lg_xs X (y3 + 3).toNatClampNeg = x3
  have is := IV_is V
  rw [← V.1] at is ⊢
  refine ⟨fun c => ?_, fun c => ?_⟩
  · by_cases hT : 1 ≤ x2 ∧ x2 ≤ 10
    · rcases okN_em (s := 0) (by decide) cn x1 with ⟨kk, hx⟩ | hx
      · obtain ⟨nn, z, t, pr, S⟩ := V.2.2.1.2.2.1 kk x1 hx
        obtain ⟨T, eT, h1, h30⟩ := rgN (lo := 1) (hi := 10) hT (by decide)
        refine ⟨is, 40 * dB b kk nn, 120000 * dB b kk nn, IV_br V hx.2.1 S.1, ?_⟩
        rw [eT]
        refine tp_luckV C cn hx S h1 h30 (Nat.le_refl _) (Nat.le_refl _) (fun nm' Y' h' C' e0 => ⟨w1, w2, w3, fun _ => ⟨IV_br V hx.2.1 S.1, ?_⟩, fun c' => absurd c c'⟩)
        rw [hx.1]
        exact sp_luck oks hx.2.2 hx.2.1 S h1 h30 (fun g2 ms => lfinL rfl (ih _ _ _ _ _ (IV_b V hx.2.1 S.1 C' e0 ms)))
      · exact ⟨is, 0, 0, rm, tp_luck0 C cn (Or.inl hx) ⟨w1, w2, w3, fun _ => ⟨rm, sp_luck0 oks (Or.inl hx) (fun g2 ms => lfinL rfl (ih _ _ _ _ _ (IV_q1 V ms)))⟩, fun c' => absurd c c'⟩⟩
    · exact ⟨is, 0, 0, rm, tp_luck0 C cn (Or.inr hT) ⟨w1, w2, w3, fun _ => ⟨rm, sp_luck0 oks (Or.inr hT) (fun g2 ms => lfinL rfl (ih _ _ _ _ _ (IV_q1 V ms)))⟩, fun c' => absurd c c'⟩⟩
  · by_cases hT : 1 ≤ x2 ∧ x2 ≤ 10
    · rcases okN_em (s := 0) (by decide) cn x1 with ⟨kk, hx⟩ | hx
      · obtain ⟨nn, z, t, pr, S⟩ := V.2.2.1.2.2.1 kk x1 hx
        obtain ⟨T, eT, h1, h30⟩ := rgN (lo := 1) (hi := 10) hT (by decide)
        refine ⟨is, 40 * dB b kk nn, 120000 * dB b kk nn, IV_br V hx.2.1 S.1, ?_⟩
        rw [eT]
        refine tp_luckV C cn hx S h1 h30 (Nat.le_refl _) (Nat.le_refl _) (fun nm' Y' h' C' e0 => ⟨w1, w2, w3, fun c' => absurd c' c, fun _ => ⟨IV_br V hx.2.1 S.1, ?_⟩⟩)
        rw [hx.1]
        exact sp_luck oks hx.2.2 hx.2.1 S h1 h30 (fun g2 ms => lfinL rfl (ih _ _ _ _ _ (IV_b V hx.2.1 S.1 C' e0 ms)))
      · exact ⟨is, 0, 0, rm, tp_luck0 C cn (Or.inl hx) ⟨w1, w2, w3, fun c' => absurd c' c, fun _ => ⟨rm, sp_luck0 oks (Or.inl hx) (fun g2 ms => lfinL rfl (ih _ _ _ _ _ (IV_q1 V ms)))⟩⟩⟩
    · exact ⟨is, 0, 0, rm, tp_luck0 C cn (Or.inr hT) ⟨w1, w2, w3, fun c' => absurd c' c, fun _ => ⟨rm, sp_luck0 oks (Or.inr hT) (fun g2 ms => lfinL rfl (ih _ _ _ _ _ (IV_q1 V ms)))⟩⟩⟩
theorem lw_26 {X : lg_X} {a : Nat} {R : Int32 → Nat → Nat → xg_Y → xg_H → mg_H → Prop} {y3 : Int32} {k n : Nat} {Y : xg_Y} {h : xg_H} {g : mg_H} {nm b : Nat → Nat} {sv : Nat → Bool} (V : IVx a k n Y h g nm b sv) (hv : vps X y3) (ih : ∀ k n Y h g, INV a k n Y h g → R (y3 + 6) k n Y h g) : wp_law_26 X a R y3 k n Y h g := by
  obtain ⟨w1, w2, w3, w4, w5⟩ := hv
  have C := V.2.1
  have cn := V.2.2.1.1
  have CC := C.co cn
  have hn := C.1
  obtain ⟨oks, okd, okl, oko⟩ := IV_shs V
  have rm := IV_room V
  unfold wp_law_26
  refine ⟨w1, w2, w3, ?_⟩
  generalize lg_xs X (y3 + 1).toNatClampNeg = x1
  generalize lg_xs X (y3 + 2).toNatClampNeg = x2
  generalize lg_xs X (y3 + 3).toNatClampNeg = x3
  have is := IV_is V
  rw [← V.1] at is ⊢
  refine ⟨fun c => ?_, fun c => ?_⟩
  · by_cases hT : 0 ≤ x2 ∧ x2 ≤ 20
    · rcases okN_em (s := 0) (by decide) cn x1 with ⟨kk, hx⟩ | hx
      · obtain ⟨nn, z, t, pr, S⟩ := V.2.2.1.2.2.1 kk x1 hx
        obtain ⟨T, eT, h1, h30⟩ := rgN (lo := 0) (hi := 20) hT (by decide)
        refine ⟨is, 40 * dB b kk nn, 120000 * dB b kk nn, IV_br V hx.2.1 S.1, ?_⟩
        rw [eT]
        refine tp_earlyV C cn hx S h30 (Nat.le_refl _) (Nat.le_refl _) (fun nm' Y' h' v C' e0 L G => ⟨w1, w2, w3, fun _ => ⟨IV_br V hx.2.1 S.1, ?_⟩, fun c' => absurd c c'⟩)
        rw [hx.1]
        exact sp_early oks hx.2.2 hx.2.1 S h30 (fun v2 g2 ms L2 G2 => lfin (ely 0 L G L2 G2) (ih _ _ _ _ _ (IV_b V hx.2.1 S.1 C' e0 ms)))
      · exact ⟨is, 0, 0, rm, tp_early0 C cn (Or.inl hx) ⟨w1, w2, w3, fun _ => ⟨rm, sp_early0 oks (Or.inl hx) (fun g2 ms => lfin rfl (ih _ _ _ _ _ (IV_q1 V ms)))⟩, fun c' => absurd c c'⟩⟩
    · exact ⟨is, 0, 0, rm, tp_early0 C cn (Or.inr hT) ⟨w1, w2, w3, fun _ => ⟨rm, sp_early0 oks (Or.inr hT) (fun g2 ms => lfin rfl (ih _ _ _ _ _ (IV_q1 V ms)))⟩, fun c' => absurd c c'⟩⟩
  · by_cases hT : 0 ≤ x2 ∧ x2 ≤ 20
    · rcases okN_em (s := 0) (by decide) cn x1 with ⟨kk, hx⟩ | hx
      · obtain ⟨nn, z, t, pr, S⟩ := V.2.2.1.2.2.1 kk x1 hx
        obtain ⟨T, eT, h1, h30⟩ := rgN (lo := 0) (hi := 20) hT (by decide)
        refine ⟨is, 40 * dB b kk nn, 120000 * dB b kk nn, IV_br V hx.2.1 S.1, ?_⟩
        rw [eT]
        refine tp_earlyV C cn hx S h30 (Nat.le_refl _) (Nat.le_refl _) (fun nm' Y' h' v C' e0 L G => ⟨w1, w2, w3, fun c' => absurd c' c, fun _ => ⟨IV_br V hx.2.1 S.1, ?_⟩⟩)
        rw [hx.1]
        exact sp_early oks hx.2.2 hx.2.1 S h30 (fun v2 g2 ms L2 G2 => lfin (ely 1 L G L2 G2) (ih _ _ _ _ _ (IV_b V hx.2.1 S.1 C' e0 ms)))
      · exact ⟨is, 0, 0, rm, tp_early0 C cn (Or.inl hx) ⟨w1, w2, w3, fun c' => absurd c' c, fun _ => ⟨rm, sp_early0 oks (Or.inl hx) (fun g2 ms => lfin rfl (ih _ _ _ _ _ (IV_q1 V ms)))⟩⟩⟩
    · exact ⟨is, 0, 0, rm, tp_early0 C cn (Or.inr hT) ⟨w1, w2, w3, fun c' => absurd c' c, fun _ => ⟨rm, sp_early0 oks (Or.inr hT) (fun g2 ms => lfin rfl (ih _ _ _ _ _ (IV_q1 V ms)))⟩⟩⟩
theorem lw_17 {X : lg_X} {a : Nat} {R : Int32 → Nat → Nat → xg_Y → xg_H → mg_H → Prop} {y3 : Int32} {k n : Nat} {Y : xg_Y} {h : xg_H} {g : mg_H} {nm b : Nat → Nat} {sv : Nat → Bool} (V : IVx a k n Y h g nm b sv) (hv : vps X y3) (ih : ∀ k n Y h g, INV a k n Y h g → R (y3 + 6) k n Y h g) : wp_law_17 X a R y3 k n Y h g := by
  obtain ⟨w1, w2, w3, w4, w5⟩ := hv
  have C := V.2.1
  have cn := V.2.2.1.1
  have CC := C.co cn
  have hn := C.1
  obtain ⟨oks, okd, okl, oko⟩ := IV_shs V
  have rm := IV_room V
  unfold wp_law_17
  refine ⟨w1, w2, w3, ?_⟩
  generalize lg_xs X (y3 + 1).toNatClampNeg = x1
  generalize lg_xs X (y3 + 2).toNatClampNeg = x2
  generalize lg_xs X (y3 + 3).toNatClampNeg = x3
  have is := IV_is V
  rw [← V.1] at is ⊢
  refine ⟨fun c => ?_, fun c => ?_⟩
  · by_cases hT : 0 ≤ x2 ∧ x2 ≤ 4
    · rcases okN_em (s := 0) (by decide) cn x1 with ⟨kk, hx⟩ | hx
      · obtain ⟨nn, z, t, pr, S⟩ := V.2.2.1.2.2.1 kk x1 hx
        obtain ⟨T, eT, _, h30⟩ := rgN (lo := 0) (hi := 4) hT (by decide)
        refine ⟨is, rm, ?_⟩
        rw [eT]
        refine tp_duelV C cn hx S h30 (fun h' C' => ⟨w1, w2, w3, fun _ => ⟨rm, ?_⟩, fun c' => absurd c c'⟩)
        rw [hx.1]
        exact sp_duel oks hx.2.2 hx.2.1 S h30 (fun g2 ms => lfin rfl (ih _ _ _ _ _ (IV_q0 V C' ms)))
      · exact ⟨is, rm, tp_duel0 C cn (Or.inl hx) ⟨w1, w2, w3, fun _ => ⟨rm, sp_duel0 oks (Or.inl hx) (fun g2 ms => lfin rfl (ih _ _ _ _ _ (IV_q0 V C ms)))⟩, fun c' => absurd c c'⟩⟩
    · exact ⟨is, rm, tp_duel0 C cn (Or.inr hT) ⟨w1, w2, w3, fun _ => ⟨rm, sp_duel0 oks (Or.inr hT) (fun g2 ms => lfin rfl (ih _ _ _ _ _ (IV_q0 V C ms)))⟩, fun c' => absurd c c'⟩⟩
  · by_cases hT : 0 ≤ x2 ∧ x2 ≤ 4
    · rcases okN_em (s := 0) (by decide) cn x1 with ⟨kk, hx⟩ | hx
      · obtain ⟨nn, z, t, pr, S⟩ := V.2.2.1.2.2.1 kk x1 hx
        obtain ⟨T, eT, _, h30⟩ := rgN (lo := 0) (hi := 4) hT (by decide)
        refine ⟨is, rm, ?_⟩
        rw [eT]
        refine tp_duelV C cn hx S h30 (fun h' C' => ⟨w1, w2, w3, fun c' => absurd c' c, fun _ => ⟨rm, ?_⟩⟩)
        rw [hx.1]
        exact sp_duel oks hx.2.2 hx.2.1 S h30 (fun g2 ms => lfin rfl (ih _ _ _ _ _ (IV_q0 V C' ms)))
      · exact ⟨is, rm, tp_duel0 C cn (Or.inl hx) ⟨w1, w2, w3, fun c' => absurd c' c, fun _ => ⟨rm, sp_duel0 oks (Or.inl hx) (fun g2 ms => lfin rfl (ih _ _ _ _ _ (IV_q0 V C ms)))⟩⟩⟩
    · exact ⟨is, rm, tp_duel0 C cn (Or.inr hT) ⟨w1, w2, w3, fun c' => absurd c' c, fun _ => ⟨rm, sp_duel0 oks (Or.inr hT) (fun g2 ms => lfin rfl (ih _ _ _ _ _ (IV_q0 V C ms)))⟩⟩⟩
theorem lw_18 {X : lg_X} {a : Nat} {R : Int32 → Nat → Nat → xg_Y → xg_H → mg_H → Prop} {y3 : Int32} {k n : Nat} {Y : xg_Y} {h : xg_H} {g : mg_H} {nm b : Nat → Nat} {sv : Nat → Bool} (V : IVx a k n Y h g nm b sv) (hv : vps X y3) (ih : ∀ k n Y h g, INV a k n Y h g → R (y3 + 6) k n Y h g) : wp_law_18 X a R y3 k n Y h g := by
  obtain ⟨w1, w2, w3, w4, w5⟩ := hv
  have C := V.2.1
  have cn := V.2.2.1.1
  have CC := C.co cn
  have hn := C.1
  obtain ⟨oks, okd, okl, oko⟩ := IV_shs V
  have rm := IV_room V
  unfold wp_law_18
  refine ⟨w1, w2, w3, w4, ?_⟩
  generalize lg_xs X (y3 + 1).toNatClampNeg = x1
  generalize lg_xs X (y3 + 2).toNatClampNeg = x2
  generalize lg_xs X (y3 + 3).toNatClampNeg = x3
  generalize lg_xs X (y3 + 4).toNatClampNeg = x4
  have is := IV_is V
  rw [← V.1] at is ⊢
  refine ⟨fun c => ?_, fun c => ?_⟩
  · by_cases hT : 0 ≤ x2 ∧ x2 ≤ 10
    · by_cases hU : 0 ≤ x3 ∧ x3 ≤ 7
      · rcases okN_em (s := 0) (by decide) cn x1 with ⟨kk, hx⟩ | hx
        · obtain ⟨nn, z, t, pr, S⟩ := V.2.2.1.2.2.1 kk x1 hx
          obtain ⟨T, eT, _, h30⟩ := rgN (lo := 0) (hi := 10) hT (by decide)
          obtain ⟨U, eU, _, h7⟩ := rgN (lo := 0) (hi := 7) hU (by decide)
          refine ⟨is, rm, ?_⟩
          rw [eT, eU]
          refine tp_chanceV C cn hx S h30 h7 (fun h' C' => ⟨w1, w2, w3, w4, fun _ => ⟨rm, ?_⟩, fun c' => absurd c c'⟩)
          rw [hx.1]
          exact sp_chance oks hx.2.2 hx.2.1 S h30 h7 (fun g2 ms => lfin rfl (ih _ _ _ _ _ (IV_q0 V C' ms)))
        · exact ⟨is, rm, tp_chance0 C cn (Or.inl hx) ⟨w1, w2, w3, w4, fun _ => ⟨rm, sp_chance0 oks (Or.inl hx) (fun g2 ms => lfin rfl (ih _ _ _ _ _ (IV_q0 V C ms)))⟩, fun c' => absurd c c'⟩⟩
      · exact ⟨is, rm, tp_chance0 C cn (Or.inr (Or.inr hU)) ⟨w1, w2, w3, w4, fun _ => ⟨rm, sp_chance0 oks (Or.inr (Or.inr hU)) (fun g2 ms => lfin rfl (ih _ _ _ _ _ (IV_q0 V C ms)))⟩, fun c' => absurd c c'⟩⟩
    · exact ⟨is, rm, tp_chance0 C cn (Or.inr (Or.inl hT)) ⟨w1, w2, w3, w4, fun _ => ⟨rm, sp_chance0 oks (Or.inr (Or.inl hT)) (fun g2 ms => lfin rfl (ih _ _ _ _ _ (IV_q0 V C ms)))⟩, fun c' => absurd c c'⟩⟩
  · by_cases hT : 0 ≤ x2 ∧ x2 ≤ 10
    · by_cases hU : 0 ≤ x3 ∧ x3 ≤ 7
      · rcases okN_em (s := 0) (by decide) cn x1 with ⟨kk, hx⟩ | hx
        · obtain ⟨nn, z, t, pr, S⟩ := V.2.2.1.2.2.1 kk x1 hx
          obtain ⟨T, eT, _, h30⟩ := rgN (lo := 0) (hi := 10) hT (by decide)
          obtain ⟨U, eU, _, h7⟩ := rgN (lo := 0) (hi := 7) hU (by decide)
          refine ⟨is, rm, ?_⟩
          rw [eT, eU]
          refine tp_chanceV C cn hx S h30 h7 (fun h' C' => ⟨w1, w2, w3, w4, fun c' => absurd c' c, fun _ => ⟨rm, ?_⟩⟩)
          rw [hx.1]
          exact sp_chance oks hx.2.2 hx.2.1 S h30 h7 (fun g2 ms => lfin rfl (ih _ _ _ _ _ (IV_q0 V C' ms)))
        · exact ⟨is, rm, tp_chance0 C cn (Or.inl hx) ⟨w1, w2, w3, w4, fun c' => absurd c' c, fun _ => ⟨rm, sp_chance0 oks (Or.inl hx) (fun g2 ms => lfin rfl (ih _ _ _ _ _ (IV_q0 V C ms)))⟩⟩⟩
      · exact ⟨is, rm, tp_chance0 C cn (Or.inr (Or.inr hU)) ⟨w1, w2, w3, w4, fun c' => absurd c' c, fun _ => ⟨rm, sp_chance0 oks (Or.inr (Or.inr hU)) (fun g2 ms => lfin rfl (ih _ _ _ _ _ (IV_q0 V C ms)))⟩⟩⟩
    · exact ⟨is, rm, tp_chance0 C cn (Or.inr (Or.inl hT)) ⟨w1, w2, w3, w4, fun c' => absurd c' c, fun _ => ⟨rm, sp_chance0 oks (Or.inr (Or.inl hT)) (fun g2 ms => lfin rfl (ih _ _ _ _ _ (IV_q0 V C ms)))⟩⟩⟩
theorem lw_10 {X : lg_X} {a : Nat} {R : Int32 → Nat → Nat → xg_Y → xg_H → mg_H → Prop} {y3 : Int32} {k n : Nat} {Y : xg_Y} {h : xg_H} {g : mg_H} {nm b : Nat → Nat} {sv : Nat → Bool} (V : IVx a k n Y h g nm b sv) (hv : vps X y3) (ih : ∀ k n Y h g, INV a k n Y h g → R (y3 + 6) k n Y h g) : wp_law_10 X a R y3 k n Y h g := by
  obtain ⟨w1, w2, w3, w4, w5⟩ := hv
  have C := V.2.1
  have cn := V.2.2.1.1
  have CC := C.co cn
  have hn := C.1
  obtain ⟨oks, okd, okl, oko⟩ := IV_shs V
  have rm := IV_room V
  unfold wp_law_10
  refine ⟨w1, w2, IV_is V, ?_⟩
  generalize lg_xs X (y3 + 1).toNatClampNeg = x1
  generalize lg_xs X (y3 + 2).toNatClampNeg = x2
  rw [← V.1]
  have bad : (noN (mg_i g) 0 x1 ∨ noN (mg_i g) 0 x2) → _ := fun hb => (⟨0, 0, rm, tp_apart0 C cn hb ⟨w1, w2, rm, sp_apart0 oks hb (fun g2 ms => lfin rfl (ih _ _ _ _ _ (IV_q1 V ms)))⟩⟩ : ∃ mc3 ms3 : Nat, (k + mc3 ≤ 600000 ∧ n + ms3 ≤ 7302250) ∧ wp_X11_apart mc3 ms3 Y (fun r1 Y4 h2 => vp_in (y3 + 1) (lg_L X) ∧ (vp_in (y3 + 2) (lg_L X) ∧ (((k + mc3) ≤ 600000 ∧ (n + ms3) ≤ 7302250) ∧ wp_apart (fun r5 g6 => (((r1 = r5) → ∀ z7 : Int32, z7 = y3 + 6 → R z7 (k + mc3) (n + ms3) Y4 h2 g6) ∧ ((¬ r1 = r5) → False))) x1 x2 g))) (nm 0) x1 x2 h)
  rcases okN_em (s := 0) (by decide) cn x1 with ⟨kk, hx⟩ | hx
  · rcases okN_em (s := 0) (by decide) cn x2 with ⟨k2, hy⟩ | hy
    · obtain ⟨nn, z, t, pr, S⟩ := V.2.2.1.2.2.1 kk x1 hx
      obtain ⟨n2, z2, t2, pr2, S2⟩ := V.2.2.1.2.2.1 k2 x2 hy
      have V2 : ∀ Y' h' nm' g2, CW Y' h' nm' (mg_i g) (pkf g) sv (upB (upB b kk (mB b kk nn)) k2 (mB (upB b kk (mB b kk nn)) k2 n2)) → nm' 0 = nm 0 → mp_same g g2 → INV a (k + (40 * dB b kk nn + 40 * dB (upB b kk (mB b kk nn)) k2 n2)) (n + (120000 * dB b kk nn + 120000 * dB (upB b kk (mB b kk nn)) k2 n2)) Y' h' g2 := fun Y' h' nm' g2 C' e0 ms => IV_q V C' e0 ms (up_le (up_le V.2.2.2.2.2.1 hx.2.1 S.1) hy.2.1 S2.1) (ap_C V hx.2.1 hy.2.1) (ap_S V hx.2.1 hy.2.1)
      have rm2 : k + (40 * dB b kk nn + 40 * dB (upB b kk (mB b kk nn)) k2 n2) ≤ 600000 ∧ n + (120000 * dB b kk nn + 120000 * dB (upB b kk (mB b kk nn)) k2 n2) ≤ 7302250 := by
        have r := rm_le (sv := sv) (up_le (b := upB b kk (mB b kk nn)) (up_le (b := b) V.2.2.2.2.2.1 hx.2.1 S.1) hy.2.1 S2.1)
        have c1 := ap_C (n2 := n2) (n1 := nn) V hx.2.1 hy.2.1
        have c2 := ap_S (n2 := n2) (n1 := nn) V hx.2.1 hy.2.1
        omega
      refine ⟨_, _, rm2, tp_apartV C cn hx S hy S2 (Nat.le_refl _) (Nat.le_refl _) (fun nm' Y' h' v C' e0 L => ⟨w1, w2, rm2, ?_⟩)⟩
      rw [hx.1, hy.1]
      exact sp_apart oks hx.2.2 hx.2.1 S hy.2.2 hy.2.1 S2 (fun v2 g2 ms L2 => lfin (isB_one L L2 (fun _ => Iff.rfl)) (ih _ _ _ _ _ (V2 Y' h' nm' g2 C' e0 ms)))
    · exact bad (Or.inr hy)
  · exact bad (Or.inl hx)
theorem lw_14 {X : lg_X} {a : Nat} {R : Int32 → Nat → Nat → xg_Y → xg_H → mg_H → Prop} {y3 : Int32} {k n : Nat} {Y : xg_Y} {h : xg_H} {g : mg_H} {nm b : Nat → Nat} {sv : Nat → Bool} (V : IVx a k n Y h g nm b sv) (hv : vps X y3) (ih : ∀ k n Y h g, INV a k n Y h g → R (y3 + 6) k n Y h g) : wp_law_14 X a R y3 k n Y h g := by
  obtain ⟨w1, w2, w3, w4, w5⟩ := hv
  have C := V.2.1
  have cn := V.2.2.1.1
  have CC := C.co cn
  have hn := C.1
  obtain ⟨oks, okd, okl, oko⟩ := IV_shs V
  have rm := IV_room V
  unfold wp_law_14
  refine ⟨w1, w2, w3, IV_is V, ?_⟩
  generalize lg_xs X (y3 + 1).toNatClampNeg = x1
  generalize lg_xs X (y3 + 2).toNatClampNeg = x2
  generalize lg_xs X (y3 + 3).toNatClampNeg = x3
  rw [← V.1]
  rcases okN_em (s := 0) (by decide) cn x1 with ⟨kk, hx⟩ | hx
  · rcases okN_em (s := 3) (by decide) cn x2 with ⟨oo, hy⟩ | hy
    · obtain ⟨nn, z, t, pr, S⟩ := V.2.2.1.2.2.1 kk x1 hx
      obtain ⟨no, sp, O⟩ := V.2.2.1.2.2.2.2.2 oo x2 hy
      have hno := O.1
      by_cases hK : 0 ≤ x3 ∧ x3 ≤ nI no
      · obtain ⟨K, eK, _, hK2⟩ := rgN (lo := 0) hK (by omega)
        refine ⟨40 * dB b kk nn, 120000 * dB b kk nn, IV_br V hx.2.1 S.1, ?_⟩
        rw [eK]
        refine tp_planV C cn hx S hy O hK2 (Nat.le_refl _) (Nat.le_refl _) (fun nm' Y' h' v C' e0 L => ⟨w1, w2, w3, IV_br V hx.2.1 S.1, ?_⟩)
        rw [hx.1, hy.1]
        exact sp_plan oks hx.2.2 hx.2.1 S hy.2.2 hy.2.1 O hK2 (fun v2 g2 ms L2 => lfin (lst_one L L2 (fun _ => Iff.rfl)) (ih _ _ _ _ _ (IV_b V hx.2.1 S.1 C' e0 ms)))
      · exact ⟨0, 0, rm, tp_plan0 C cn (Or.inr (Or.inr ⟨oo, no, sp, hy, O, hK⟩)) ⟨w1, w2, w3, rm, sp_plan0 oks (Or.inr ⟨oo, no, sp, hy, O, Or.inr hK⟩) (fun g2 ms => lfin rfl (ih _ _ _ _ _ (IV_q1 V ms)))⟩⟩
    · exact ⟨0, 0, rm, tp_plan0 C cn (Or.inr (Or.inl hy)) ⟨w1, w2, w3, rm, sp_plan0 oks (Or.inl hy) (fun g2 ms => lfin rfl (ih _ _ _ _ _ (IV_q1 V ms)))⟩⟩
  · rcases okN_em (s := 3) (by decide) cn x2 with ⟨oo, hy⟩ | hy
    · obtain ⟨no, sp, O⟩ := V.2.2.1.2.2.2.2.2 oo x2 hy
      exact ⟨0, 0, rm, tp_plan0 C cn (Or.inl hx) ⟨w1, w2, w3, rm, sp_plan0 oks (Or.inr ⟨oo, no, sp, hy, O, Or.inl hx⟩) (fun g2 ms => lfin rfl (ih _ _ _ _ _ (IV_q1 V ms)))⟩⟩
    · exact ⟨0, 0, rm, tp_plan0 C cn (Or.inl hx) ⟨w1, w2, w3, rm, sp_plan0 oks (Or.inl hy) (fun g2 ms => lfin rfl (ih _ _ _ _ _ (IV_q1 V ms)))⟩⟩
theorem lw_15 {X : lg_X} {a : Nat} {R : Int32 → Nat → Nat → xg_Y → xg_H → mg_H → Prop} {y3 : Int32} {k n : Nat} {Y : xg_Y} {h : xg_H} {g : mg_H} {nm b : Nat → Nat} {sv : Nat → Bool} (V : IVx a k n Y h g nm b sv) (hv : vps X y3) (ih : ∀ k n Y h g, INV a k n Y h g → R (y3 + 6) k n Y h g) : wp_law_15 X a R y3 k n Y h g := by
  obtain ⟨w1, w2, w3, w4, w5⟩ := hv
  have C := V.2.1
  have cn := V.2.2.1.1
  have CC := C.co cn
  have hn := C.1
  obtain ⟨oks, okd, okl, oko⟩ := IV_shs V
  have rm := IV_room V
  unfold wp_law_15
  refine ⟨w1, w2, IV_is V, ?_⟩
  generalize lg_xs X (y3 + 1).toNatClampNeg = x1
  generalize lg_xs X (y3 + 2).toNatClampNeg = x2
  rw [← V.1]
  rcases okN_em (s := 0) (by decide) cn x1 with ⟨kk, hx⟩ | hx
  · obtain ⟨nn, z, t, pr, S⟩ := V.2.2.1.2.2.1 kk x1 hx
    by_cases hT : 0 ≤ x2 ∧ x2 ≤ 3
    · obtain ⟨w, ew, _, h3⟩ := rgN (lo := 0) (hi := 3) hT (by decide)
      rcases Nat.eq_zero_or_pos w with e0 | e0
      · rw [e0] at ew
        refine ⟨40 * dB b kk nn, 120000 * dB b kk nn, IV_br V hx.2.1 S.1, ?_⟩
        rw [ew]
        refine tp_wheelA C cn hx S (Nat.le_refl _) (Nat.le_refl _) (fun nm' Y' h' v C' e0 L => ⟨w1, w2, IV_br V hx.2.1 S.1, ?_⟩)
        rw [hx.1]
        exact sp_wheel oks hx.2.2 hx.2.1 S (Nat.zero_le _) (fun v2 g2 ms L2 => lfin (WHL_one (Nat.zero_le _) L L2) (ih _ _ _ _ _ (IV_b V hx.2.1 S.1 C' e0 ms)))
      · refine ⟨0, 0, rm, ?_⟩
        rw [ew]
        refine tp_wheelB C cn hx S e0 h3 (fun h' v C' L => ⟨w1, w2, rm, ?_⟩)
        rw [hx.1]
        exact sp_wheel oks hx.2.2 hx.2.1 S h3 (fun v2 g2 ms L2 => lfin (WHL_one h3 L L2) (ih _ _ _ _ _ (IV_q0 V C' ms)))
    · exact ⟨0, 0, rm, tp_wheel0 C cn (V.2.2.1.2.2.1 · x1) (Or.inr hT) (fun h' C' => ⟨w1, w2, rm, sp_wheel0 oks (Or.inr ⟨kk, nn, z, t, pr, hx, S, hT⟩) (fun g2 ms => lfin rfl (ih _ _ _ _ _ (IV_q0 V C' ms)))⟩)⟩
  · exact ⟨0, 0, rm, tp_wheel0 C cn (V.2.2.1.2.2.1 · x1) (Or.inl hx) (fun h' C' => ⟨w1, w2, rm, sp_wheel0 oks (Or.inl hx) (fun g2 ms => lfin rfl (ih _ _ _ _ _ (IV_q0 V C' ms)))⟩)⟩
theorem lw_22 {X : lg_X} {a : Nat} {R : Int32 → Nat → Nat → xg_Y → xg_H → mg_H → Prop} {y3 : Int32} {k n : Nat} {Y : xg_Y} {h : xg_H} {g : mg_H} {nm b : Nat → Nat} {sv : Nat → Bool} (V : IVx a k n Y h g nm b sv) (hv : vps X y3) (ih : ∀ k n Y h g, INV a k n Y h g → R (y3 + 6) k n Y h g) : wp_law_22 X a R y3 k n Y h g := by
  obtain ⟨w1, w2, w3, w4, w5⟩ := hv
  have C := V.2.1
  have cn := V.2.2.1.1
  have CC := C.co cn
  have hn := C.1
  obtain ⟨oks, okd, okl, oko⟩ := IV_shs V
  have rm := IV_room V
  unfold wp_law_22
  refine ⟨w1, w2, IV_is V, ?_⟩
  generalize lg_xs X (y3 + 1).toNatClampNeg = x1
  generalize lg_xs X (y3 + 2).toNatClampNeg = x2
  rw [← V.1]
  rcases okN_em (s := 0) (by decide) cn x1 with ⟨kk, hx⟩ | hx
  · obtain ⟨nn, z, t, pr, S⟩ := V.2.2.1.2.2.1 kk x1 hx
    by_cases hT : tmB nn x2
    · refine ⟨40 * dB b kk nn, 120000 * dB b kk nn, IV_br V hx.2.1 S.1, ?_⟩
      refine tp_timesA C cn hx S hT (Nat.le_refl _) (Nat.le_refl _) (fun nm' Y' h' v C' e0 L => ⟨w1, w2, IV_br V hx.2.1 S.1, ?_⟩)
      rw [hx.1]
      exact sp_times oks hx.2.2 hx.2.1 S (fun v2 g2 ms L2 => lfin (TI_one L L2) (ih _ _ _ _ _ (IV_b V hx.2.1 S.1 C' e0 ms)))
    · refine ⟨0, 0, rm, tp_timesB C cn hx S hT (fun v L => ⟨w1, w2, rm, ?_⟩)⟩
      rw [hx.1]
      exact sp_times oks hx.2.2 hx.2.1 S (fun v2 g2 ms L2 => lfin (TI_one L L2) (ih _ _ _ _ _ (IV_q1 V ms)))
  · exact ⟨0, 0, rm, tp_times0 C cn hx ⟨w1, w2, rm, sp_times0 oks hx (fun g2 ms => lfin rfl (ih _ _ _ _ _ (IV_q1 V ms)))⟩⟩
