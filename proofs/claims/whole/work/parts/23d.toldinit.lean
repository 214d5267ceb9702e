/-! the constructor of Told -/
theorem TB_uo {Y : xg_Y} {h : xg_H} {nm : Nat → Nat} {b k : Nat} (hn : inj nm) (T : TBn Y h nm b k) (X : TXn Y h nm (b + 11 + k) (xt_room (k / 2)) (if k / 2 = 0 then 4 else 0)) (x0 : xg_i h (nm (b + 11 + k)) 0 = 0) (xz : ∀ q, xg_i h (nm (b + 11 + k + 10)) q = 0 ∧ xg_i h (nm (b + 11 + k + 20)) q = 0 ∧ xg_i h (nm (b + 11 + k + 30)) q = 0) : TBn Y (xg_uo h (nm (b + 3)) k (some (nm (b + 11 + k)))) nm b (k + 1) := by
  have O : ∀ c j, ¬ (c = b + 3 ∧ j = k) → xg_o (xg_uo h (nm (b + 3)) k (some (nm (b + 11 + k)))) (nm c) j = xg_o h (nm c) j := fun c j hc => by rw [xo_uo, if_neg (fun e => hc ⟨hn _ _ e.1, e.2⟩)]
  obtain ⟨⟨t0, ⟨t1, t2⟩, ⟨t3, t4⟩, ⟨t5, t6⟩⟩, ti, tx⟩ := T
  have TX : ∀ t n n3, t ≠ b + 3 → TXn Y h nm t n n3 → TXn Y (xg_uo h (nm (b + 3)) k (some (nm (b + 11 + k)))) nm t n n3 := fun t n n3 ht x => by
    obtain ⟨y0, ⟨y1, y2⟩, ⟨y3, y4⟩, ⟨y5, y6⟩⟩ := x
    exact ⟨y0, ⟨(O t 1 (fun e => ht e.1)).trans y1, y2⟩, ⟨(O t 2 (fun e => ht e.1)).trans y3, y4⟩, ⟨(O t 3 (fun e => ht e.1)).trans y5, y6⟩⟩
  refine ⟨⟨t0, ⟨(O b 0 (by omega)).trans t1, t2⟩, ⟨(O b 4 (by omega)).trans t3, t4⟩, ⟨(O b 5 (by omega)).trans t5, t6⟩⟩, ti, fun j hj => ?_⟩
  by_cases ej : j = k
  · rw [ej]
    exact ⟨by rw [xo_uo, if_pos ⟨rfl, rfl⟩], TX _ _ _ (by omega) X, x0, xz⟩
  · obtain ⟨u0, u1, u2, u3⟩ := tx j (by omega)
    exact ⟨(O (b + 3) j (fun e => ej e.2)).trans u0, TX _ _ _ (by omega) u1, u2, u3⟩
set_option maxHeartbeats 1000000 in
theorem sp_X9_init {P : Nat → Prop} {MC MS : Nat} {Y : xg_Y} {Q : xg_Y → xg_H → Prop} {h : xg_H} {nm : Nat → Nat} {b : Nat} (hn : inj nm) (l : liv P nm Y) (k9 : xg_is Y (nm b) 9) (z : ∀ j, xg_i h (nm b) j = 0) (hP : ∀ d, DT b 8 d → ¬ P d) (hMC : 35 ≤ MC) (hMS : 884 ≤ MS)
    (q : ∀ nm' Y' h', inj nm' → gro P nm Y h nm' Y' h' → nm' b = nm b → TBn Y' h' nm' b 8 → Q Y' h') : wp_X9_init MC MS Y Q (nm b) h := by
  have pb : ¬ P b := hP _ (Or.inl rfl)
  have pb1 : ¬ P (b + 1) := hP _ (Or.inr (Or.inl rfl))
  have pb2 : ¬ P (b + 2) := hP _ (Or.inr (Or.inr (Or.inl rfl)))
  have pb3 : ¬ P (b + 3) := hP _ (Or.inr (Or.inr (Or.inr (Or.inl rfl))))
  have z6 : (600 : Int32).toNatClampNeg = 600 := rfl
  have z4 : (4 : Int32).toNatClampNeg = 4 := rfl
  have z8 : (8 : Int32).toNatClampNeg = 8 := rfl
  unfold wp_X9_init
  refine ⟨k9, fun R36 c36 => ?_⟩
  rw [z6, z4, z8]
  refine ⟨by decide, by decide, by omega, by omega, ?_⟩
  intro q1 ca2 f1 Y3 eY3 h4 eh4
  have a1 : nm b ≠ q1 := fun e => f1 (by rw [← e]; exact k9.1)
  have k93 : xg_is Y3 (nm b) 9 := by rw [eY3]; exact is_old f1 k9
  refine ⟨k93, fun h6 eh6 h7 eh7 => ⟨by decide, by decide, by omega, by omega, ?_⟩⟩
  have n1b : nm1 nm (b + 1) q1 b = nm b := nm1_old (by omega) a1
  have n1a : nm1 nm (b + 1) q1 (b + 1) = q1 := nm1_at
  have i1 := nm1_inj hn (b + 1) q1
  have g1 : gro P nm Y h (nm1 nm (b + 1) q1) Y3 h7 := by
    have : gro P nm Y h (nm1 nm (b + 1) q1) Y3 h4 := by rw [eY3, eh4]; exact gro_new l pb1 f1
    rw [eh7, eh6, ← n1b]
    exact gro_ui i1 (gro_uo i1 this pb) pb
  generalize nm1 nm (b + 1) q1 = nm1' at n1b n1a i1 g1
  intro q8 ca9 f8 Y10 eY10 h11 eh11
  have a8 : nm b ≠ q8 := fun e => f8 (by rw [← e]; exact k93.1)
  have m1 : q1 ∈ Y3.1 := by rw [eY3]; exact is_new.1
  have q18 : q1 ≠ q8 := fun e => f8 (by rw [← e]; exact m1)
  have k910 : xg_is Y10 (nm b) 9 := by rw [eY10]; exact is_old f8 k93
  refine ⟨k910, fun h13 eh13 => ⟨by decide, by decide, by omega, by omega, ?_⟩⟩
  have n2b : nm1 nm1' (b + 2) q8 b = nm b := (nm1_old (by omega) (by rw [n1b]; exact a8)).trans n1b
  have n2a : nm1 nm1' (b + 2) q8 (b + 1) = q1 := (nm1_old (by omega) (by rw [n1a]; exact q18)).trans n1a
  have n2c : nm1 nm1' (b + 2) q8 (b + 2) = q8 := nm1_at
  have i2 := nm1_inj i1 (b + 2) q8
  have g2 : gro P nm Y h (nm1 nm1' (b + 2) q8) Y10 h13 := by
    have : gro P nm1' Y3 h7 (nm1 nm1' (b + 2) q8) Y10 h11 := by rw [eY10, eh11]; exact gro_new (gro_liv g1) pb2 f8
    rw [eh13, ← n2b]
    exact gro_uo i2 (g1.tr this) pb
  generalize nm1 nm1' (b + 2) q8 = nm2 at n2b n2a n2c i2 g2
  intro q14 ca15 f14 Y16 eY16 h17 eh17
  have a14 : nm b ≠ q14 := fun e => f14 (by rw [← e]; exact k910.1)
  have m110 : q1 ∈ Y10.1 := by rw [eY10]; exact mem_old m1
  have m810 : q8 ∈ Y10.1 := by rw [eY10]; exact is_new.1
  have q114 : q1 ≠ q14 := fun e => f14 (by rw [← e]; exact m110)
  have q814 : q8 ≠ q14 := fun e => f14 (by rw [← e]; exact m810)
  have k916 : xg_is Y16 (nm b) 9 := by rw [eY16]; exact is_old f14 k910
  refine ⟨k916, fun h19 eh19 => ?_⟩
  have n3b : nm1 nm2 (b + 3) q14 b = nm b := (nm1_old (by omega) (by rw [n2b]; exact a14)).trans n2b
  have n3a : nm1 nm2 (b + 3) q14 (b + 1) = q1 := (nm1_old (by omega) (by rw [n2a]; exact q114)).trans n2a
  have n3c : nm1 nm2 (b + 3) q14 (b + 2) = q8 := (nm1_old (by omega) (by rw [n2c]; exact q814)).trans n2c
  have n3d : nm1 nm2 (b + 3) q14 (b + 3) = q14 := nm1_at
  have i3 := nm1_inj i2 (b + 3) q14
  have g3 : gro P nm Y h (nm1 nm2 (b + 3) q14) Y16 h19 := by
    have : gro P nm2 Y10 h13 (nm1 nm2 (b + 3) q14) Y16 h17 := by rw [eY16, eh17]; exact gro_new (gro_liv g2) pb3 f14
    rw [eh19, ← n3b]
    exact gro_uo i3 (g2.tr this) pb
  generalize nm1 nm2 (b + 3) q14 = nm3 at n3b n3a n3c n3d i3 g3
  have T0 : TBn Y16 h19 nm3 b 0 := by
    unfold TBn xk
    rw [n3b, n3a, n3c, n3d]
    have o0 : xg_o h19 (nm b) 0 = some q1 := by rw [eh19, xo_uo, if_neg (fun c => absurd c.2 (by decide)), eh17, (ih_old a14).2.2, eh13, xo_uo, if_neg (fun c => absurd c.2 (by decide)), eh11, (ih_old a8).2.2, eh7, xo_ui, eh6, xo_uo, if_pos ⟨rfl, rfl⟩]
    have o4 : xg_o h19 (nm b) 4 = some q8 := by rw [eh19, xo_uo, if_neg (fun c => absurd c.2 (by decide)), eh17, (ih_old a14).2.2, eh13, xo_uo, if_pos ⟨rfl, rfl⟩]
    have o5 : xg_o h19 (nm b) 5 = some q14 := by rw [eh19, xo_uo, if_pos ⟨rfl, rfl⟩]
    have zi : ∀ j, xg_i h19 (nm b) j = xg_i h7 (nm b) j := fun j => by rw [eh19, xi_uo, eh17, (ih_old a14).1, eh13, xi_uo, eh11, (ih_old a8).1]
    have z7 : ∀ j, j ≠ 3 → xg_i h7 (nm b) j = 0 := fun j hj => by rw [eh7, xi_place hj, eh6, xi_uo, eh4, (ih_old a1).1]; exact z j
    refine ⟨⟨k916, ⟨o0, ?_, ?_⟩, ⟨o4, ?_, ?_⟩, ⟨o5, ?_, ?_⟩⟩, ⟨(zi 1).trans (z7 1 (by decide)), (zi 2).trans (z7 2 (by decide)), ?_, fun j => ?_, fun j => ?_⟩, fun j hj => absurd hj (Nat.not_lt_zero j)⟩
    · rw [eY16, eY10, eY3]
      exact is_old (by rw [← eY3, ← eY10]; exact f14) (is_old (by rw [← eY3]; exact f8) is_new)
    · rw [eY16, n_old q114, eY10, n_old q18, eY3, n_new]
    · rw [eY16, eY10]
      exact is_old (by rw [← eY10]; exact f14) is_new
    · rw [eY16, n_old q814, eY10, n_new]
    · rw [eY16]; exact is_new
    · rw [eY16, n_new]
    · rw [zi, eh7, xi_same]; rfl
    · rw [eh19, xi_uo, eh17, (ih_old q114).1, eh13, xi_uo, eh11, (ih_old q18).1, eh7, xi_ui, if_neg (fun c => a1 c.1.symm), eh6, xi_uo, eh4, ih_new.1]
    · rw [eh19, xi_uo, eh17, (ih_old q814).1, eh13, xi_uo, eh11, ih_new.1]
  refine lp (σ := (Nat → Nat) × xg_Y × xg_H) (R := fun k s => R36 (nI k) (3 + 4 * k) (sl k) s.2.1 s.2.2) (fun k s => inj s.1 ∧ gro P nm Y h s.1 s.2.1 s.2.2 ∧ s.1 b = nm b ∧ TBn s.2.1 s.2.2 s.1 b k) 0 8 (by decide) ?_ ?_ (nm3, Y16, h19) ⟨i3, g3, n3b, T0⟩
  · rintro ⟨nk, Yk, hk⟩ ⟨ik, gk, bk, Tk⟩
    dsimp only at ik gk bk Tk ⊢
    have t0 := Tk.1.1
    have t5 := Tk.1.2.2.2.1
    rw [bk] at t0 t5
    refine c36 _ _ _ _ _ ⟨t0, nk (b + 3), t5, Tk.1.2.2.2.2.1, ?_⟩
    rw [Tk.1.2.2.2.2.2]
    have s8 := sl_8 8 (by decide)
    exact bq_t (by decide) ⟨⟨by omega, by omega⟩, q nk Yk hk ik gk bk Tk⟩
  · rintro k ⟨nk, Yk, hk⟩ _ hk8 ⟨ik, gk, bk, Tk⟩ ih
    dsimp only at ik gk bk Tk ⊢
    have t0 := Tk.1.1
    have t5 := Tk.1.2.2.2.1
    rw [bk] at t0 t5
    have s8 := sl_8 (k + 1) (by omega)
    have es : sl (k + 1) = sl k + 4 + (2 * xt_room (k / 2) + (if k / 2 = 0 then 4 else 0)) := rfl
    refine c36 _ _ _ _ _ ⟨t0, nk (b + 3), t5, Tk.1.2.2.2.2.1, ?_⟩
    rw [Tk.1.2.2.2.2.2]
    refine bq_f (nI_ge (b := 8) hk8 (by decide)) ⟨by omega, by omega, ?_⟩
    intro q22 f22 Y23 eY23 h24 eh24
    refine ⟨3, 2 * xt_room (k / 2) + (if k / 2 = 0 then 4 else 0), ⟨by omega, by omega⟩, ?_⟩
    have e2 : nI k / 2 = nI (k / 2) := by rw [nl_2, pk_div (by omega) (by decide) (by decide)]
    rw [e2]
    have l' : liv (fun d => P d ∨ DT b k d) nk Yk := fun d hd => hd.elim (gro_liv gk d) (TB_liv Tk d)
    have dn : ∀ i, i = 0 ∨ i = 10 ∨ i = 20 ∨ i = 30 → ¬ (P (b + 11 + k + i) ∨ DT b k (b + 11 + k + i)) := fun i hi hd => by
      rcases hd with hd | hd
      · refine hP (b + 11 + k + i) (Or.inr (Or.inr (Or.inr (Or.inr ⟨k, hk8, ?_⟩)))) hd
        omega
      · rcases hd with e | e | e | e | ⟨j, hj, e⟩ <;> omega
    have nt : nm1 nk (b + 11 + k) q22 (b + 11 + k) = q22 := nm1_at
    have i' := nm1_inj ik (b + 11 + k) q22
    have g' : gro (fun d => P d ∨ DT b k d) nk Yk hk (nm1 nk (b + 11 + k) q22) Y23 h24 := by rw [eY23, eh24]; exact gro_new l' (dn 0 (Or.inl rfl)) f22
    have k22 : xg_is Y23 q22 8 := by rw [eY23]; exact is_new
    have z22 : xg_i h24 q22 0 = 0 := by rw [eh24]; exact ih_new.1
    generalize nm1 nk (b + 11 + k) q22 = n' at nt i' g'
    rw [← nt] at k22 z22 ⊢
    refine sp_X8_init (P := fun d => P d ∨ DT b k d) i' (gro_liv g') k22 (by omega) (dn 0 (Or.inl rfl)) (dn 10 (by omega)) (dn 20 (by omega)) (dn 30 (by omega)) (by decide) (Nat.le_refl _) (fun n2 Y2 h2 in2 gr2 et X2 zt zz => ?_)
    have G := g'.tr gr2
    have T2 := TB_g G Tk (fun d hd => Or.inr hd)
    have b3 : n2 (b + 3) = nk (b + 3) := (G (b + 3) (Or.inr (Or.inr (Or.inr (Or.inr (Or.inl rfl)))))).1
    have bb : n2 b = nk b := (G b (Or.inr (Or.inl rfl))).1
    rw [← et, ← b3]
    refine ⟨T2.1.2.2.2.2.1, X2.1, ?_⟩
    rw [T2.1.2.2.2.2.2, nI_clamp (by omega)]
    refine ⟨vp_in_nI hk8 (by decide), ?_⟩
    rintro _ rfl _ rfl
    rw [nI_1, show 3 + 4 * k + 1 + 3 = 3 + 4 * (k + 1) by omega]
    refine ih (n2, Y2, xg_uo h2 (n2 (b + 3)) k (some (n2 (b + 11 + k)))) ⟨in2, ?_, bb.trans bk, ?_⟩
    · exact gro_uo in2 (gk.tr (G.sub (fun d hd => Or.inl hd))) pb3
    · exact TB_uo in2 T2 X2 ((zt 0).trans z22) zz
