/-! text: the round of the law -/
theorem IV_r {a k n : Nat} {Y : xg_Y} {h h' : xg_H} {g g2 : mg_H} {nm b : Nat → Nat} {sv : Nat → Bool} {u : fS} {L : List Nat} (V : IVx a k n Y h g nm b sv) (hL : ∀ c, c ∈ L → c = 100 ∨ (50 ≤ c ∧ c < 100)) (e : xw nm L h h') (X : X1c h' nm u) (T : T1 g g2 u) : INV a k n Y h' g2 := by
  have C := V.2.1
  have R0 := C.2.2.1.2
  obtain ⟨md1, t1, t2, t3, t4⟩ := T
  obtain ⟨x1, x2, x3⟩ := X
  have mo : ∀ c j, c ≠ 0 → (c < 2 ∨ (4 < c ∧ c < 19) ∨ 20 < c) → mg_i g2 c j = mg_i g c j := fun c j h0 h1 => md1.1 c h0 (by simp; omega) j
  have ec : ∀ c, c ≠ 100 → (c < 50 ∨ 100 ≤ c) → ∀ j, xg_i h' (nm c) j = xg_i h (nm c) j ∧ xg_l h' (nm c) j = xg_l h (nm c) j := fun c h1 h2 j => e.1 c (fun m => by have := hL c m; omega) j
  refine IV_t V (CW_told C (fun c j hn => e.2 c j (fun q => hn (Or.inl q))) (fun c hc j => ec c (by omega) (by omega) j) (REL_w R0 (x1.trans t2.symm) (x2.trans t3.symm) (x3.trans t4.symm) (fun j hj => ?_) (fun d hd d1 d2 j => (ec d d1 (by have := dt_ge hd; omega) j).1) (fun c h5 h9 j _ => mo c j (by omega) (by omega)))) (VAL_w (L := 0) (by omega) t2 (fun c h5 h9 j _ => mo c j (by omega) (by omega)) V.2.2.1) (fun i _ => ag_k (fun j _ => mo 1 j (by decide) (by omega)) (fun c h2 h9 j hj => ?_)) (fun i _ => mo 60 i (by decide) (by omega))
  · rw [(ec 101 (by decide) (by decide) j).1, mo 1 j (by decide) (by decide)]; exact R0.2.1 j hj
  · have hp := rsz_p c h9
    rcases (show c = 2 ∨ c = 3 ∨ c = 4 ∨ 5 ≤ c by omega) with ec' | ec' | ec' | ec'
    · rw [ec']; exact (t1 j (by omega)).1
    · rw [ec']; exact (t1 j (by omega)).2.1
    · rw [ec']; exact (t1 j (by omega)).2.2
    · exact mo c j (by omega) (by omega)
theorem twd_r : ∀ s, s < 4 → rsz (6 + s) = 2 * twd s ∧ 7 ≤ twd s := by decide
set_option maxHeartbeats 4000000 in
theorem IV_acc {a k n : Nat} {Y : xg_Y} {h h' : xg_H} {g g1 g2 : mg_H} {nm b : Nat → Nat} {sv : Nat → Bool} {u : fS} {s m kk N : Nat} {D : dS} (V : IVx a k n Y h g nm b sv) (hs : s < 4) (hm : m ≤ 2) (em : mg_i g 5 s = nI m) (hk : kk < 2) (hkm : kk ≤ m) (e : xw nm (lTX s (2 * s + kk)) h h') (X : X1c h' nm u) (ecn : ∀ j, xg_i h' (nm 102) j = if j = s then nI (if kk = m then m + 1 else m) else xg_i h (nm 102) j) (hN : N ≤ xt_room s) (c0 : xg_i h' (nm (111 + (2 * s + kk))) 0 = nI N) (c1 : ∀ q, q < N → xg_i h' (nm (111 + (2 * s + kk) + 10)) q = D.1 q ∧ xg_i h' (nm (111 + (2 * s + kk) + 20)) q = D.2.1 q) (c2 : s = 0 → ∀ g, g < 4 → xg_i h' (nm (111 + (2 * s + kk) + 30)) g = nI (D.2.2.1 g)) (T : T1 g g1 u) (e19 : mg_i g1 19 0 = nI N) (RT1 : RT g1 s N D) (VD1 : VD s N D) (e5 : md [5, 6 + s] [] g1 g2) (e5' : ∀ j, mg_i g2 5 j = if j = s then nI (if kk = m then m + 1 else m) else mg_i g 5 j) (er : ∀ j, j < twd s → mg_i g2 (6 + s) (twd s * kk + j) = mg_i g1 19 j) (eo : ∀ j, ¬ (twd s * kk ≤ j ∧ j < twd s * kk + twd s) → mg_i g2 (6 + s) j = mg_i g (6 + s) j) : INV a k n Y h' g2 := by
  have C := V.2.1
  have R0 := C.2.2.1.2
  obtain ⟨md1, t1, t2, t3, t4⟩ := T
  obtain ⟨x1, x2, x3⟩ := X
  have mo : ∀ c j, c ≠ 0 → (c < 2 ∨ (5 < c ∧ c < 19) ∨ 20 < c) → c ≠ 6 + s → mg_i g2 c j = mg_i g c j := fun c j h0 h1 h2 => (e5.1 c h0 (by simp; omega) j).trans (md1.1 c h0 (by simp; omega) j)
  have m1 : ∀ c j, c ≠ 0 → c < 5 → mg_i g2 c j = mg_i g1 c j := fun c j h0 h1 => e5.1 c h0 (by simp; omega) j
  have cc : (if kk = m then m + 1 else m) ≤ 2 ∧ kk < (if kk = m then m + 1 else m) := by
    by_cases c : kk = m
    · rw [if_pos c]; omega
    · rw [if_neg c]; omega
  have ec : ∀ c, (c = 31 ∨ c = 32 ∨ c = 101 ∨ 150 ≤ c) → ∀ j, xg_i h' (nm c) j = xg_i h (nm c) j ∧ xg_l h' (nm c) j = xg_l h (nm c) j := fun c hc j => e.1 c (by unfold lTX; simp; omega) j
  have cj : ∀ j', j' < 8 → j' ≠ 2 * s + kk → cjs h h' (fun i => nm (100 + 1 + i)) j' := fun j' h8 hne q => ⟨(e.1 (100 + 1 + (10 + j')) (by unfold lTX; simp; omega) q).1, (e.1 (100 + 1 + (20 + j')) (by unfold lTX; simp; omega) q).1, (e.1 (100 + 1 + (30 + j')) (by unfold lTX; simp; omega) q).1, (e.1 (100 + 1 + (40 + j')) (by unfold lTX; simp; omega) q).1⟩
  have rq : ∀ s' k', s' < 4 → ¬ (s' = s ∧ k' = kk) → ∀ x, x < twd s' → mg_i g2 (6 + s') (twd s' * k' + x) = mg_i g (6 + s') (twd s' * k' + x) := fun s' k' h4 hne x hx => by
    by_cases es : s' = s
    · rw [es] at hne hx ⊢
      have hk' : k' ≠ kk := fun c => hne ⟨rfl, c⟩
      have := mp_mul (n := twd s) hk'
      exact eo _ (fun c => by omega)
    · exact mo (6 + s') _ (by omega) (by omega) (by omega)
  have R1 : REL h' nm 100 (mg_i g2) := by
    refine ⟨⟨x1.trans (t2.symm.trans (m1 2 0 (by decide) (by decide)).symm), x2.trans (t3.symm.trans (m1 3 0 (by decide) (by decide)).symm), x3.trans (t4.symm.trans (m1 4 0 (by decide) (by decide)).symm)⟩, fun j hj => ?_, fun s' hs' => ?_, fun k' hk' => ⟨?_, ?_, ?_, ?_⟩⟩
    · show xg_i h' (nm 101) j = mg_i g2 1 j &&& 255
      rw [(ec 101 (by omega) j).1, mo 1 j (by decide) (by omega) (by omega)]; exact R0.2.1 j hj
    · show xg_i h' (nm 102) s' = mg_i g2 5 s'
      rw [ecn, e5']
      by_cases es : s' = s
      · rw [if_pos es, if_pos es]
      · rw [if_neg es, if_neg es]; exact R0.2.2.1 s' hs'
    · show T0c h' (fun i => nm (100 + 1 + i)) (mg_i g2) k'
      by_cases c : 0 = s ∧ k' = kk
      · obtain ⟨es, ek⟩ := c
        rw [ek]
        have c2 := c2 es.symm
        rw [← es] at c0 c1 c2 er RT1 hN
        obtain ⟨r1, r2, _⟩ := RT1.1 rfl
        have er : ∀ j, j < 13 → mg_i g2 6 (13 * kk + j) = mg_i g1 19 j := er
        have hN : N ≤ 4 := hN
        refine ⟨N, hN, (er 0 (by decide)).trans e19, ⟨?_, fun q hq => ⟨?_, ?_⟩⟩, fun q hq => ?_⟩
        · show xg_i h' (nm (100 + 1 + (10 + (0 + kk)))) 0 = nI N
          rw [show 100 + 1 + (10 + (0 + kk)) = 111 + (2 * 0 + kk) by omega]; exact c0
        · show xg_i h' (nm (100 + 1 + (20 + (0 + kk)))) q = mg_i g2 6 (13 * kk + (1 + q))
          rw [show 100 + 1 + (20 + (0 + kk)) = 111 + (2 * 0 + kk) + 10 by omega, er (1 + q) (by omega)]; exact (c1 q hq).1.trans (r1 q hq).1.symm
        · show xg_i h' (nm (100 + 1 + (30 + (0 + kk)))) q = mg_i g2 6 (13 * kk + (5 + q))
          rw [show 100 + 1 + (30 + (0 + kk)) = 111 + (2 * 0 + kk) + 20 by omega, er (5 + q) (by omega)]; exact (c1 q hq).2.trans (r1 q hq).2.symm
        · show xg_i h' (nm (100 + 1 + (40 + (0 + kk)))) q = mg_i g2 6 (13 * kk + (9 + q))
          rw [show 100 + 1 + (40 + (0 + kk)) = 111 + (2 * 0 + kk) + 30 by omega, er (9 + q) (by omega)]; exact (c2 q (by omega)).trans (r2 q (by omega)).symm
      · exact T0_k (cj (0 + k') (by omega) (by omega)) (rq 0 k' (by decide) c) (R0.2.2.2 k' hk').1
    · show T1c h' (fun i => nm (100 + 1 + i)) (mg_i g2) k'
      by_cases c : 1 = s ∧ k' = kk
      · obtain ⟨es, ek⟩ := c
        rw [ek]
        rw [← es] at c0 c1 er RT1 hN
        have r1 := RT1.2.1 (Or.inl rfl)
        have er : ∀ j, j < 81 → mg_i g2 7 (81 * kk + j) = mg_i g1 19 j := er
        have hN : N ≤ 40 := hN
        refine ⟨N, hN, (er 0 (by decide)).trans e19, ?_, fun q hq => ⟨?_, ?_⟩⟩
        · show xg_i h' (nm (100 + 1 + (10 + (2 + kk)))) 0 = nI N
          rw [show 100 + 1 + (10 + (2 + kk)) = 111 + (2 * 1 + kk) by omega]; exact c0
        · show xg_i h' (nm (100 + 1 + (20 + (2 + kk)))) q = mg_i g2 7 (81 * kk + (1 + 2 * q))
          rw [show 100 + 1 + (20 + (2 + kk)) = 111 + (2 * 1 + kk) + 10 by omega, er (1 + 2 * q) (by omega)]; exact (c1 q hq).1.trans (r1 q hq).1.symm
        · show xg_i h' (nm (100 + 1 + (30 + (2 + kk)))) q = mg_i g2 7 (81 * kk + (2 + 2 * q))
          rw [show 100 + 1 + (30 + (2 + kk)) = 111 + (2 * 1 + kk) + 20 by omega, er (2 + 2 * q) (by omega)]; exact (c1 q hq).2.trans (r1 q hq).2.symm
      · exact T1_k (cj (2 + k') (by omega) (by omega)) (rq 1 k' (by decide) c) (R0.2.2.2 k' hk').2.1
    · show T2c h' (fun i => nm (100 + 1 + i)) (mg_i g2) k'
      by_cases c : 2 = s ∧ k' = kk
      · obtain ⟨es, ek⟩ := c
        rw [ek]
        rw [← es] at c0 c1 er RT1 hN
        have r1 := RT1.2.1 (Or.inr rfl)
        have er : ∀ j, j < 17 → mg_i g2 8 (17 * kk + j) = mg_i g1 19 j := er
        have hN : N ≤ 8 := hN
        refine ⟨N, hN, (er 0 (by decide)).trans e19, ?_, fun q hq => ⟨?_, ?_⟩⟩
        · show xg_i h' (nm (100 + 1 + (10 + (4 + kk)))) 0 = nI N
          rw [show 100 + 1 + (10 + (4 + kk)) = 111 + (2 * 2 + kk) by omega]; exact c0
        · show xg_i h' (nm (100 + 1 + (20 + (4 + kk)))) q = mg_i g2 8 (17 * kk + (1 + 2 * q))
          rw [show 100 + 1 + (20 + (4 + kk)) = 111 + (2 * 2 + kk) + 10 by omega, er (1 + 2 * q) (by omega)]; exact (c1 q hq).1.trans (r1 q hq).1.symm
        · show xg_i h' (nm (100 + 1 + (30 + (4 + kk)))) q = mg_i g2 8 (17 * kk + (2 + 2 * q))
          rw [show 100 + 1 + (30 + (4 + kk)) = 111 + (2 * 2 + kk) + 20 by omega, er (2 + 2 * q) (by omega)]; exact (c1 q hq).2.trans (r1 q hq).2.symm
      · exact T2_k (cj (4 + k') (by omega) (by omega)) (rq 2 k' (by decide) c) (R0.2.2.2 k' hk').2.2.1
    · show T3c h' (fun i => nm (100 + 1 + i)) (mg_i g2) k'
      by_cases c : 3 = s ∧ k' = kk
      · obtain ⟨es, ek⟩ := c
        rw [ek]
        rw [← es] at c0 c1 er RT1 hN
        have r1 := RT1.2.2 rfl
        have er : ∀ j, j < 7 → mg_i g2 9 (7 * kk + j) = mg_i g1 19 j := er
        have hN : N ≤ 6 := hN
        refine ⟨N, hN, (er 0 (by decide)).trans e19, ?_, fun q hq => ?_⟩
        · show xg_i h' (nm (100 + 1 + (10 + (6 + kk)))) 0 = nI N
          rw [show 100 + 1 + (10 + (6 + kk)) = 111 + (2 * 3 + kk) by omega]; exact c0
        · show xg_i h' (nm (100 + 1 + (20 + (6 + kk)))) q = mg_i g2 9 (7 * kk + (1 + q))
          rw [show 100 + 1 + (20 + (6 + kk)) = 111 + (2 * 3 + kk) + 10 by omega, er (1 + q) (by omega)]; exact (c1 q hq).1.trans (r1 q hq).symm
      · exact T3_k (cj (6 + k') (by omega) (by omega)) (rq 3 k' (by decide) c) (R0.2.2.2 k' hk').2.2.2
  have okk : ∀ s' k' x, s' < 4 → ¬ (s' = s ∧ k' = kk) → okN (mg_i g2) s' x k' → okN (mg_i g) s' x k' := fun s' k' x h4 hne hx => by
    by_cases es : s' = s
    · rw [es] at hne hx ⊢
      have hlt := okN_lt (m := if kk = m then m + 1 else m) cc.1 (by rw [e5', if_pos rfl]) hx
      have hk' : k' ≠ kk := fun c => hne ⟨rfl, c⟩
      have hm' : k' < m := by
        by_cases c : kk = m
        · rw [if_pos c] at hlt; omega
        · rw [if_neg c] at hlt; exact hlt
      have := okN_of (k := k') hm em hm'
      rw [← hx.1] at this
      exact this
    · exact okN_b (by rw [e5', if_neg es]) hx
  obtain ⟨v1, _, v3, v4, v5, v6⟩ := V.2.2.1
  have W : VAL (mg_i g2) := by
    refine ⟨fun s' hs' => ?_, ⟨0, by decide, (m1 2 0 (by decide) (by decide)).trans t2⟩, fun k' x hx => ?_, fun k' x hx => ?_, fun k' x hx => ?_, fun k' x hx => ?_⟩
    · by_cases es : s' = s
      · exact ⟨_, cc.1, by rw [e5', if_pos es]⟩
      · obtain ⟨m', hm', em'⟩ := v1 s' hs'
        exact ⟨m', hm', by rw [e5', if_neg es]; exact em'⟩
    · by_cases c : 0 = s ∧ k' = kk
      · obtain ⟨es, ek⟩ := c
        rw [ek]
        rw [← es] at VD1 RT1 er
        exact SR_new VD1 RT1 e19 er
      · obtain ⟨n', z, t, pr, S⟩ := v3 k' x (okk 0 k' x (by decide) c hx)
        exact ⟨n', z, t, pr, SR_k (rq 0 k' (by decide) c) S⟩
    · by_cases c : 1 = s ∧ k' = kk
      · obtain ⟨es, ek⟩ := c
        rw [ek]
        rw [← es] at VD1 RT1 er
        exact DY_new VD1 RT1 e19 er
      · obtain ⟨n', z, t, S⟩ := v4 k' x (okk 1 k' x (by decide) c hx)
        exact ⟨n', z, t, DY_k (rq 1 k' (by decide) c) S⟩
    · by_cases c : 2 = s ∧ k' = kk
      · obtain ⟨es, ek⟩ := c
        rw [ek]
        rw [← es] at VD1 RT1 er
        exact LG_new VD1 RT1 e19 er
      · obtain ⟨n', z, t, S⟩ := v5 k' x (okk 2 k' x (by decide) c hx)
        exact ⟨n', z, t, LG_k (rq 2 k' (by decide) c) S⟩
    · by_cases c : 3 = s ∧ k' = kk
      · obtain ⟨es, ek⟩ := c
        rw [ek]
        rw [← es] at VD1 RT1 er
        exact OR_new VD1 RT1 e19 er
      · obtain ⟨n', z, S⟩ := v6 k' x (okk 3 k' x (by decide) c hx)
        exact ⟨n', z, OR_k (rq 3 k' (by decide) c) S⟩
  refine IV_t V (CW_told C (fun c j hn => e.2 c j (fun q => hn (Or.inl q))) (fun c hc j => ec c (by omega) j) R1) W (fun i _ => ag_k (fun j _ => mo 1 j (by decide) (by omega) (by omega)) (fun c h2 h9 j hj => ?_)) (fun i _ => mo 60 i (by decide) (by omega) (by omega))
  have hp := rsz_p c h9
  rcases (show c = 2 ∨ c = 3 ∨ c = 4 ∨ c = 5 ∨ c = 6 + s ∨ (6 ≤ c ∧ c ≠ 6 + s) by omega) with ec' | ec' | ec' | ec' | ec' | ec'
  · rw [ec']; exact (m1 2 j (by decide) (by decide)).trans (t1 j (by omega)).1
  · rw [ec']; exact (m1 3 j (by decide) (by decide)).trans (t1 j (by omega)).2.1
  · rw [ec']; exact (m1 4 j (by decide) (by decide)).trans (t1 j (by omega)).2.2
  · rw [ec'] at hj ⊢
    have hj : 4 ≤ j := hj
    rw [e5', if_neg (by omega)]
  · rw [ec'] at hj ⊢
    have tw := twd_r s hs
    rw [tw.1] at hj
    refine eo j (fun c => ?_)
    have h1 : twd s * kk ≤ twd s * 1 := Nat.mul_le_mul_left _ (by omega)
    omega
  · exact mo c j (by omega) (by omega) ec'.2
set_option maxHeartbeats 1000000 in
theorem lw_2 {X : lg_X} {a : Nat} {R : Int32 → Nat → Nat → xg_Y → xg_H → mg_H → Prop} {y3 : Int32} {k n : Nat} {Y : xg_Y} {h : xg_H} {g : mg_H} {nm b : Nat → Nat} {sv : Nat → Bool} (V : IVx a k n Y h g nm b sv) (hv : vps X y3) (ih : ∀ k n Y h g, INV a k n Y h g → R (y3 + 6) k n Y h g) : wp_law_2 X a R y3 k n Y h g := by
  obtain ⟨w1, w2, w3, w4, w5⟩ := hv
  have C := V.2.1
  have hn := C.1
  have rm := IV_room V
  have cn := V.2.2.1.1
  have R0 := C.2.2.1.2
  obtain ⟨L, hL, eL⟩ := V.2.2.1.2.1
  obtain ⟨f, hf⟩ : ∃ f : Nat → Nat, ∀ i, mg_i g 1 i &&& 255 = nI (f i) ∧ f i < 256 := by
    refine ⟨fun i => (mg_i g 1 i &&& 255).toNatClampNeg, fun i => ?_⟩
    obtain ⟨m, hm, e⟩ := and255 (mg_i g 1 i)
    show mg_i g 1 i &&& 255 = nI (mg_i g 1 i &&& 255).toNatClampNeg ∧ (mg_i g 1 i &&& 255).toNatClampNeg < 256
    rw [e, nI_clamp (by omega)]
    exact ⟨rfl, hm⟩
  unfold wp_law_2
  refine ⟨w1, w2, IV_is V, rm, ?_⟩
  generalize lg_xs X (y3 + 1).toNatClampNeg = x1
  generalize lg_xs X (y3 + 2).toNatClampNeg = x2
  rw [← V.1]
  have c5 : ∀ s, s < 4 → xg_i h (nm 102) s = mg_i g 5 s := fun s hs => R0.2.2.1 s hs
  have cnX : ∀ s, s < 4 → ∃ m, m ≤ 2 ∧ xg_i h (nm 102) s = nI m := fun s hs => by rw [c5 s hs]; exact cn s hs
  have hfX : ∀ i, i < 600 → xg_i h (nm 101) i = nI (f i) ∧ f i < 256 := fun i hi => ⟨(R0.2.1 i hi).trans (hf i).1, (hf i).2⟩
  have same : ∀ s s' m m', s < 4 → s' < 4 → m ≤ 2 → m' ≤ 2 → x1 = nI s → x1 = nI s' → xg_i h (nm 102) s = nI m → mg_i g 5 s' = nI m' → s' = s ∧ m' = m := fun s s' m m' hs hs' hm hm' e1 e2 e3 e4 => by
    have es : s' = s := (nI_eq (by omega) (by omega)).mp (e2.symm.trans e1)
    refine ⟨es, ?_⟩
    rw [es, ← c5 s hs, e3] at e4
    exact ((nI_eq (by omega) (by omega)).mp e4).symm
  refine sp_X11_text (L := L) (f := f) hn C.2.1.1 C.2.1.2.1 C.2.1.2.2.2.1 C.2.2.1.1 C.2.2.2.1.2.2 (R0.1.1.trans eL) hL hfX cnX (fun hno h' e X1 => ⟨w1, w2, rm, ?_⟩) (fun s m kk hs hm e1 em tn hF h' e X1 => ⟨w1, w2, rm, ?_⟩) (fun s m kk hs hm e1 em tn hF h' e X1 ecn hN c0 c1 c2 => ⟨w1, w2, rm, ?_⟩)
  · refine sp_text (L := L) (f := f) eL hL (fun i _ => hf i) cn (fun _ g2 T => lfin rfl (ih _ _ _ _ _ (IV_r V (fun c hc => Or.inl (List.mem_singleton.mp hc)) e X1 T))) (fun s' m' k' hs' hm' e1' em' tn' => ?_) (fun s' m' k' hs' hm' e1' em' tn' => ?_)
    · exact absurd tn' (hno s' m' hs' e1' ((c5 s' hs').trans em') hm' k')
    · exact absurd tn' (hno s' m' hs' e1' ((c5 s' hs').trans em') hm' k')
  · refine sp_text (L := L) (f := f) eL hL (fun i _ => hf i) cn (fun hno => absurd tn (hno s m hs e1 ((c5 s hs).symm.trans em) hm kk)) (fun s' m' k' hs' hm' e1' em' tn' hF' g2 T => ?_) (fun s' m' k' hs' hm' e1' em' tn' hF' => ?_)
    · obtain ⟨es, _⟩ := same s s' m m' hs hs' hm hm' e1 e1' em em'
      rw [es] at T
      exact lfin rfl (ih _ _ _ _ _ (IV_r V (fun c hc => by
        rcases List.mem_cons.mp hc with c' | c'
        · exact Or.inl c'
        · unfold lRR at c'
          simp at c'
          omega) e X1 T))
    · obtain ⟨es, _⟩ := same s s' m m' hs hs' hm hm' e1 e1' em em'
      rw [es] at hF'
      exact absurd hF' hF
  · refine sp_text (L := L) (f := f) eL hL (fun i _ => hf i) cn (fun hno => absurd tn (hno s m hs e1 ((c5 s hs).symm.trans em) hm kk)) (fun s' m' k' hs' hm' e1' em' tn' hF' => ?_) (fun s' m' k' hs' hm' e1' em' tn' hF' g1 g2 T e19 RT1 md2 e5' er eo => ?_)
    · obtain ⟨es, _⟩ := same s s' m m' hs hs' hm hm' e1 e1' em em'
      rw [es] at hF'
      exact absurd hF hF'
    · obtain ⟨es, emm⟩ := same s s' m m' hs hs' hm hm' e1 e1' em em'
      rw [emm] at tn' e5'
      have ekk := tNo_one hm tn' tn
      rw [ekk] at e5' er eo ⊢
      rw [es] at T e19 RT1 md2 e5' er eo
      have tl := tNo_lt hm tn
      exact lfin rfl (ih _ _ _ _ _ (IV_acc V hs hm ((c5 s hs).symm.trans em) tl.1 tl.2 e X1 ecn hN c0 c1 c2 T e19 RT1 (PRF_ok hF).2.2 md2 e5' er eo))
