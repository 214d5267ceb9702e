/-! the constructor of Bench -/
def XBk (Y : xg_Y) (h : xg_H) (nm : Nat → Nat) (k : Nat) : Prop := xg_is Y (nm 10) 0 ∧ xg_o h (nm 10) 5 = some (nm 11) ∧ xk Y nm 11 26 4 ∧ ∀ g, g < k → xg_o h (nm 11) g = some (nm (12 + g)) ∧ xg_is Y (nm (12 + g)) 5
set_option maxHeartbeats 1000000 in
theorem sp_X0_init {P : Nat → Prop} {MC MS : Nat} {Y : xg_Y} {Q : xg_Y → xg_H → Prop} {h : xg_H} {nm : Nat → Nat} (hn : inj nm) (l : liv P nm Y) (k0 : xg_is Y (nm 10) 0) (hP : ∀ d, 10 ≤ d → d ≤ 15 → ¬ P d) (hMC : 5 ≤ MC) (hMS : 20 ≤ MS) (q : ∀ nm' Y' h', inj nm' → gro P nm Y h nm' Y' h' → nm' 10 = nm 10 → XB Y' h' nm' → Q Y' h') : wp_X0_init MC MS Y Q (nm 10) h := by
  have z4 : (4 : Int32).toNatClampNeg = 4 := rfl
  unfold wp_X0_init
  rw [z4]
  refine ⟨k0, fun R14 c14 => ⟨by decide, by decide, by omega, by omega, ?_⟩⟩
  intro q1 ca2 f1 Y3 eY3 h4 eh4
  have W1 := NW_step (j := 5) (c := 11) (k := 26) (n := 4) (ca := ca2) (NW_0 (h := h) hn l k0) (hP 10 (by decide) (by decide)) (hP 11 (by decide) (by decide)) (by decide) (fun f hf => absurd hf (by simp)) f1
  rw [← eY3, ← eh4] at W1
  have e1 := W1.2.2.1
  have kk := W1.2.2.2.1
  rw [e1] at kk
  refine ⟨kk, fun h6 eh6 => ?_⟩
  rw [← eh6] at W1
  obtain ⟨i1, g1, _, k1, _, F1⟩ := W1
  obtain ⟨o1, x1, _⟩ := F1 (5, 11, 26, 4) (by simp)
  refine lp (σ := (Nat → Nat) × xg_Y × xg_H) (R := fun k s => R14 (nI k) (1 + k) (0 + 4 + 4 * k) s.2.1 s.2.2) (fun k s => inj s.1 ∧ gro P nm Y h s.1 s.2.1 s.2.2 ∧ s.1 10 = nm 10 ∧ XBk s.2.1 s.2.2 s.1 k) 0 4 (by decide) ?_ ?_ (_, Y3, h6) ⟨i1, g1, e1, k1, o1, x1, fun g hg => absurd hg (Nat.not_lt_zero g)⟩
  · rintro ⟨nk, Yk, hk⟩ ⟨ik, gk, bk, Tk⟩
    dsimp only at ik gk bk Tk ⊢
    exact c14 _ _ _ _ _ (bq_t (by decide) ⟨⟨by omega, by omega⟩, q nk Yk hk ik gk bk Tk⟩)
  · rintro k ⟨nk, Yk, hk⟩ _ hk4 ⟨ik, gk, bk, ⟨t0, t1, t2, t3⟩⟩ ih
    dsimp only at ik gk bk t0 t1 t2 t3 ⊢
    refine c14 _ _ _ _ _ (bq_f (nI_ge (b := 4) hk4 (by decide)) ⟨by rw [← bk]; exact t0, by omega, by omega, ?_⟩)
    intro q8 f8 Y9 eY9 h10 eh10
    refine ⟨0, 0, ⟨by omega, by omega⟩, ?_⟩
    have l' : liv (fun d => P d ∨ d = 10 ∨ d = 11 ∨ ∃ g, g < k ∧ d = 12 + g) nk Yk := by
      rintro d (hd | hd | hd | ⟨g, hg, hd⟩)
      · exact gro_liv gk d hd
      · rw [hd]; exact t0.1
      · rw [hd]; exact t2.1.1
      · rw [hd]; exact (t3 g hg).2.1
    have nd : ¬ (P (12 + k) ∨ 12 + k = 10 ∨ 12 + k = 11 ∨ ∃ g, g < k ∧ 12 + k = 12 + g) := by
      rintro (hd | hd | hd | ⟨g, hg, hd⟩)
      · exact hP (12 + k) (by omega) (by omega) hd
      · omega
      · omega
      · omega
    have nt : nm1 nk (12 + k) q8 (12 + k) = q8 := nm1_at
    have i' := nm1_inj ik (12 + k) q8
    have g' : gro (fun d => P d ∨ d = 10 ∨ d = 11 ∨ ∃ g, g < k ∧ d = 12 + g) nk Yk hk (nm1 nk (12 + k) q8) Y9 h10 := by rw [eY9, eh10]; exact gro_new l' nd f8
    have k8 : xg_is Y9 q8 5 := by rw [eY9]; exact is_new
    generalize nm1 nk (12 + k) q8 = n2 at nt i' g'
    have p10 : P 10 ∨ (10 : Nat) = 10 ∨ (10 : Nat) = 11 ∨ ∃ g, g < k ∧ 10 = 12 + g := Or.inr (Or.inl rfl)
    have p11 : P 11 ∨ (11 : Nat) = 10 ∨ (11 : Nat) = 11 ∨ ∃ g, g < k ∧ 11 = 12 + g := Or.inr (Or.inr (Or.inl rfl))
    have e10 : n2 10 = nk 10 := (g' 10 p10).1
    have e11 : n2 11 = nk 11 := (g' 11 p11).1
    have x2 : xk Y9 n2 11 26 4 := gro_xk g' p11 t2
    refine sp_X5_init k8 ⟨n2 11, by rw [← bk, e11]; exact t1, x2.1, k8, ?_⟩
    rw [x2.2, nI_clamp (by omega)]
    refine ⟨vp_in_nI hk4 (by decide), ?_⟩
    rintro _ rfl _ rfl
    rw [nI_1, show 1 + k + 1 + 0 = 1 + (k + 1) by omega, show 0 + 4 + 4 * k + 4 + 0 = 0 + 4 + 4 * (k + 1) by omega]
    have O : ∀ d i, ¬ (d = 11 ∧ i = k) → xg_o (xg_uo h10 (n2 11) k (some q8)) (n2 d) i = xg_o h10 (n2 d) i := fun d i hd => by rw [xo_uo, if_neg (fun e => hd ⟨i' _ _ e.1, e.2⟩)]
    refine ih (n2, Y9, xg_uo h10 (n2 11) k (some q8)) ⟨i', gro_uo i' (gk.tr (g'.sub (fun d hd => Or.inl hd))) (hP 11 (by decide) (by decide)), e10.trans bk, gro_is g' p10 t0, (O 10 5 (by omega)).trans (gro_o g' p10 p11 t1), x2, fun g hg => ?_⟩
    by_cases eg : g = k
    · rw [eg]
      show xg_o (xg_uo h10 (n2 11) k (some q8)) (n2 11) k = some (n2 (12 + k)) ∧ xg_is Y9 (n2 (12 + k)) 5
      rw [xo_uo, if_pos ⟨rfl, rfl⟩, nt]
      exact ⟨rfl, k8⟩
    · obtain ⟨u0, u1⟩ := t3 g (by omega)
      have pg : P (12 + g) ∨ 12 + g = 10 ∨ 12 + g = 11 ∨ ∃ g', g' < k ∧ 12 + g = 12 + g' := Or.inr (Or.inr (Or.inr ⟨g, by omega, rfl⟩))
      exact ⟨(O 11 g (fun e => eg e.2)).trans (gro_o g' p11 pg u0), gro_is g' pg u1⟩
