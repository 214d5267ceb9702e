/-! the reference: layRow, ofRow, tell, purse -/
/-- left by a set, and at best, are alike just at the best sets -/
theorem OPT_lst {z : Nat → Nat} {m c T s : Nat} {v u : Int32} (hT : T ≤ 30) (hu : lst (TL z m c on4 T) u) (hex : ∃ x, TL z m c on4 T x) (hv : lst (fun w => (sb s m ∧ 0 < dl z c s ∧ dl z c s ≤ T) ∧ ∃ w', TL z m (nc z c s) on4 (T - dl z c s) w' ∧ w = on4 s + w') v) : v = u ↔ OPT z m c T s := by
  rcases hu with ⟨_, b⟩ | ⟨x, ex, px, lx⟩
  · obtain ⟨x, hx⟩ := hex; exact absurd hx (b x)
  · have bx := TL_b hT px
    subst ex
    rcases hv with ⟨ev, hno⟩ | ⟨x', ev, ⟨⟨a1, a2, a3⟩, w', a4, a5⟩, b⟩
    · subst ev
      refine ⟨fun e => ?_, fun ⟨a1, a2, a3, y, a4, a5⟩ => absurd ⟨⟨a1, a2, a3⟩, y, a4.1, rfl⟩ (hno _)⟩
      rw [nM_eqI (by omega)] at e; exact e.elim
    · subst ev
      have bw := TL_b (by omega) a4
      have bo := on4_le s
      rw [nI_eq (by omega) (by omega)]
      constructor
      · rintro rfl
        refine ⟨a1, a2, a3, w', ⟨a4, fun j hj => ?_⟩, by rw [← a5]; exact ⟨px, lx⟩⟩
        have := b (on4 s + j) ⟨⟨a1, a2, a3⟩, j, hj, rfl⟩
        omega
      · rintro ⟨c1, c2, c3, y, c4, c5⟩
        have e1 := lsN_one ⟨px, lx⟩ c5
        have e2 := c4.2 w' a4
        have e3 := b (on4 s + y) ⟨⟨c1, c2, c3⟩, y, c4.1, rfl⟩
        omega
theorem sp_layRow {Q : mg_H → Prop} {h : mg_H} {z t0 : Nat → Nat} {n A : Nat} (H : HS h z (2 ^ n - 1) (c4 t0)) (SHh : SH n z t0) (hA1 : 1 ≤ A) (hA : A ≤ 30) (hex : ∃ b, rc z (2 ^ n - 1) (c4 t0) A b) (hL : ∀ t c, t ≤ A → c < 4096 → LQ z (2 ^ n - 1) (c4 t0) A h t c) (q : ∀ h' Ln rs rm, md [41, 42] [39, 43] h h' → mg_i h' 0 43 = nI Ln → Ln ≤ 30 → ROW z (2 ^ n - 1) (c4 t0) A Ln rs rm → (∀ k, k < Ln → (mg_i h' 41 k = nI (rs k) ∧ rs k ≤ 2 ^ n - 1) ∧ mg_i h' 42 k = nI (rm k) ∧ rm k ≤ 30) → Q h') : wp_layRow Q (nI A) h := by
  have hz := SHh.zok
  have hn := SHh.1
  have hm := SHh.m
  have hc0 := SHh.ok
  unfold wp_layRow
  intro R12 R20 c12 c20
  rintro _ rfl _ rfl
  rw [mi_place (by decide), H.2.2]
  have I : ∃ I : Nat → (Nat × Nat × mg_H) → Prop, ∀ k u, I k u ↔ (md [41, 42] [39, 43] h u.2.2 ∧ mg_i u.2.2 0 43 = nI k ∧ rc z (2 ^ n - 1) (c4 t0) u.1 u.2.1 ∧ ∃ rs rm cc : Nat → Nat, (cc 0 = c4 t0 ∧ rm 0 = 0) ∧ (∀ k', k' < k → rm k' < A ∧ OPT z (2 ^ n - 1) (cc k') (A - rm k') (rs k') ∧ (∀ s, s < rs k' → ¬ OPT z (2 ^ n - 1) (cc k') (A - rm k') s) ∧ cc (k' + 1) = nc z (cc k') (rs k') ∧ rm (k' + 1) = rm k' + dl z (cc k') (rs k')) ∧ u.2.1 = cc k ∧ u.1 = rm k ∧ rm k ≤ A ∧ k ≤ rm k ∧ (∃ b, rc z (2 ^ n - 1) (cc k) (A - rm k) b) ∧ ∀ k', k' < k → (mg_i u.2.2 41 k' = nI (rs k') ∧ rs k' ≤ 2 ^ n - 1) ∧ mg_i u.2.2 42 k' = nI (rm k') ∧ rm k' ≤ 30) := ⟨_, fun _ _ => Iff.rfl⟩
  obtain ⟨I, hI⟩ := I
  have out : ∀ k u, k ≤ 30 → I k u → A ≤ u.1 → Q u.2.2 := by
    intro k u hk hu hT9
    obtain ⟨e, g10, g11, rs, rm, cc, g0, g1, g2, g3, g4, g5, g6, g7⟩ := (hI _ _).mp hu
    exact q u.2.2 k rs rm e g10 hk ⟨cc, g0.1, g0.2, by omega, g1⟩ g7
  refine lp (σ := Nat × Nat × mg_H) (R := fun k u => R12 (nI u.1) (nI u.2.1) u.2.2) I 0 30 (by decide) ?_ ?_ (0, c4 t0, mg_ui h 0 43 0) ((hI _ _).mpr ⟨md.u0 md.rf (by decide), rfl, ⟨0, 0, rfl, rfl, rfl⟩, fun _ => 0, fun _ => 0, fun _ => c4 t0, ⟨rfl, rfl⟩, fun k' hk' => absurd hk' (Nat.not_lt_zero k'), rfl, rfl, Nat.zero_le _, Nat.le_refl _, hex, fun k' hk' => absurd hk' (Nat.not_lt_zero k')⟩)
  · intro u hu
    obtain ⟨e, g10, g11, rs, rm, cc, g0, g1, g2, g3, g4, g5, g6, g7⟩ := (hI _ _).mp hu
    exact c12 _ _ _ (bq_t (nI_le (by omega) (by omega)) (out 30 u (by decide) hu (by omega)))
  · intro k u _ hk hu ih
    by_cases hTm : A ≤ u.1
    · have : u.1 ≤ A := by
        obtain ⟨e, g10, g11, rs, rm, cc, g0, g1, g2, g3, g4, g5, g6, g7⟩ := (hI _ _).mp hu
        omega
      exact c12 _ _ _ (bq_t (nI_le hTm (by omega)) (out k u (by omega) hu hTm))
    · obtain ⟨mi, c, s⟩ := u
      obtain ⟨e, g10, g11, rs, rm, cc, g0, g1, g2, g3, g4, g5, g6, g7⟩ := (hI _ _).mp hu
      simp only at e g10 g11 g2 g3 g7 hTm ⊢
      subst g3
      have hokc : okc z c := by obtain ⟨k', w, hp⟩ := g11; exact pt_ok hz hp hc0
      have hcl := hokc.1
      have hexT : ∃ x, TL z (2 ^ n - 1) c on4 (A - rm k) x := TL_rc.mpr (by rw [g2]; exact g6)
      obtain ⟨s0, hs0, hopt0⟩ := OPT_ex (z := z) (m := 2 ^ n - 1) (c := c) (T := A - rm k) (by omega) (by rw [g2]; exact g6)
      -- a set is taken
      have take : ∀ s2 sx, md [41, 42] [39, 43] h s2 → (∀ c9 j, c9 ≠ 0 → mg_i s2 c9 j = mg_i s c9 j) → mg_i s2 0 43 = nI k → sx ≤ 2 ^ n - 1 → OPT z (2 ^ n - 1) c (A - rm k) sx → (∀ s', s' < sx → ¬ OPT z (2 ^ n - 1) c (A - rm k) s') → vp_in (mg_i s2 0 43) (mg_len 41) ∧ (∀ h5 : mg_H, h5 = mg_ui s2 41 (mg_i s2 0 43).toNatClampNeg (nI sx) → vp_in (mg_i h5 0 43) (mg_len 42) ∧ (∀ h6 : mg_H, h6 = mg_ui h5 42 (mg_i h5 0 43).toNatClampNeg (nI (rm k)) → ∀ h7 : mg_H, h7 = mg_ui h6 0 43 ((mg_i h6 0 43) + 1) → wp_next (fun r9 h8 => ∀ z10 : Int32, z10 = nI (rm k) + r9 → ∀ z11 : Int32, z11 = mg_i h8 0 39 → R12 z10 z11 h8) (nI c) (nI sx) h7)) := by
        intro s2 sx a1 a2 a3 hsx hopt hleast
        have hd7 := dl_le (c := c) (s := sx) hz
        have hnc := nc_lt (c := c) (s := sx) hz
        have hdt := hopt.2.2.1
        rw [a3, nI_clamp (by omega)]
        refine ⟨vp_in_nI (show k < 30 from hk) (by decide), ?_⟩
        rintro _ rfl
        rw [mi_cell (by decide), a3, nI_clamp (by omega)]
        refine ⟨vp_in_nI (show k < 30 from hk) (by decide), ?_⟩
        rintro _ rfl _ rfl
        rw [mi_cell (by decide), mi_cell (by decide), a3, nI_1]
        refine sp_next hz (fun j hj => ?_) hokc (by omega) (fun d0 => by have := hopt.2.1; omega) (fun d0 => ?_)
        · rw [mi_cell (by decide), mi_cell (by decide), mi_cell (by decide), a1.1 27 (by decide) (by decide)]; exact H.1 j hj
        · rintro _ rfl _ rfl
          rw [mi_same, nI_add]
          have fin9 : ∀ s9, s9 = mg_ui (mg_ui (mg_ui (mg_ui s2 41 k (nI sx)) 42 k (nI (rm k))) 0 43 (nI (k + 1))) 0 39 (nI (nc z c sx)) → R12 (nI (rm k + dl z c sx)) (nI (nc z c sx)) s9 := by
            intro s9 e9
            have q1 : md [41, 42] [39, 43] h s9 := by rw [e9]; exact md.u0 (md.u0 (md.ui (md.ui a1 (by decide) (by decide)) (by decide) (by decide)) (by decide)) (by decide)
            have q2 : mg_i s9 0 43 = nI (k + 1) := by rw [e9, mi_place (by decide), mi_same]
            have q4 : ∀ k', k' < k + 1 → (mg_i s9 41 k' = nI (if k' = k then sx else rs k') ∧ (if k' = k then sx else rs k') ≤ 2 ^ n - 1) ∧ mg_i s9 42 k' = nI (if k' = k + 1 then rm k + dl z c sx else rm k') ∧ (if k' = k + 1 then rm k + dl z c sx else rm k') ≤ 30 := by
              intro k' hk'
              have e7 : ¬ k' = k + 1 := by omega
              have w1 : mg_i s9 41 k' = if k' = k then nI sx else mg_i s 41 k' := by
                rw [e9, mi_cell (by decide), mi_cell (by decide), mi_cell (by decide), mi_ui]
                by_cases e8 : k' = k
                · rw [if_pos ⟨rfl, e8⟩, if_pos e8]
                · rw [if_neg (fun q => e8 q.2), if_neg e8]; exact a2 41 k' (by decide)
              have w2 : mg_i s9 42 k' = if k' = k then nI (rm k) else mg_i s 42 k' := by
                rw [e9, mi_cell (by decide), mi_cell (by decide), mi_ui]
                by_cases e8 : k' = k
                · rw [if_pos ⟨rfl, e8⟩, if_pos e8]
                · rw [if_neg (fun q => e8 q.2), if_neg e8, mi_cell (by decide)]; exact a2 42 k' (by decide)
              rw [w1, w2]
              by_cases e8 : k' = k
              · subst e8
                simp only [e7, if_true, if_false, true_and]
                exact ⟨hsx, by omega⟩
              · simp only [e7, e8, if_false]
                exact g7 k' (by omega)
            refine ih (rm k + dl z c sx, nc z c sx, s9) ((hI _ _).mpr ⟨q1, q2, rc_step g11 hopt.1 hopt.2.1, fun k' => if k' = k then sx else rs k', fun k' => if k' = k + 1 then rm k + dl z c sx else rm k', fun k' => if k' = k + 1 then nc z c sx else cc k', ⟨(if_neg (by omega)).trans g0.1, (if_neg (by omega)).trans g0.2⟩, fun k' hk' => ?_, (if_pos rfl).symm, (if_pos rfl).symm, ?_, ?_, ?_, q4⟩)
            · simp only [if_neg (show ¬ k' = k + 1 by omega)]
              by_cases e8 : k' = k
              · subst e8
                simp only [if_true]
                rw [← g2]
                exact ⟨by omega, hopt, hleast, rfl, rfl⟩
              · simp only [if_neg e8, if_neg (show ¬ k' + 1 = k + 1 by omega)]
                exact g1 k' (by omega)
            · simp only [if_true]; omega
            · simp only [if_true]; have := hopt.2.1; omega
            · simp only [if_true]
              obtain ⟨x, hx, _⟩ := hopt.2.2.2
              rw [show A - (rm k + dl z c sx) = A - rm k - dl z c sx by omega]
              exact TL_rc.mp ⟨x, hx.1⟩
          exact fin9 _ rfl
      refine c12 _ _ _ (bq_f (nI_ge (by omega) (by omega)) ?_)
      -- the first best set
      refine lp (σ := mg_H) (R := fun sx s2 => R20 (nI (rm k)) (nI c) (nI sx) s2) (fun sx s2 => md [41, 42] [39, 43] h s2 ∧ (∀ c9 j, c9 ≠ 0 → mg_i s2 c9 j = mg_i s c9 j) ∧ mg_i s2 0 43 = nI k ∧ ∀ s', s' < sx → ¬ OPT z (2 ^ n - 1) c (A - rm k) s') 0 (s0 + 1) (Nat.zero_le _) ?_ ?_ s ⟨e, fun _ _ _ => rfl, g10, fun s' hs' => absurd hs' (Nat.not_lt_zero s')⟩
      · rintro s2 ⟨_, _, _, hno⟩
        exact absurd hopt0 (hno s0 (by omega))
      · rintro sx s2 _ hsx ⟨a1, a2, a3, hno⟩ ih2
        have hL2 : ∀ t c, t ≤ A → c < 4096 → LQ z (2 ^ n - 1) (c4 t0) A s2 t c := fun t c h1 h2 => by
          unfold LQ
          rw [a1.1 40 (by decide) (by decide)]; exact hL t c h1 h2
        refine c20 _ _ _ _ (sp_leftBy (n := n) (c0 := c4 t0) hz hn hA (fun j hj => (a1.1 27 (by decide) (by decide) j).trans (H.1 j hj)) hc0 g11 (by omega) (by omega) (fun t' c' _ b2 b3 => hL2 t' c' b2 b3) (fun s3 v b1 b2 => ?_))
        have d1 : md [41, 42] [39, 43] h s3 := by
          rcases b1 with rfl | rfl
          · exact a1
          · exact md.u0 a1 (by decide)
        have d2 : ∀ c9 j, c9 ≠ 0 → mg_i s3 c9 j = mg_i s c9 j := fun c9 j h9 => by
          rcases b1 with rfl | rfl
          · exact a2 c9 j h9
          · rw [mi_cell h9]; exact a2 c9 j h9
        have d3 : mg_i s3 0 43 = nI k := by
          rcases b1 with rfl | rfl
          · exact a3
          · rw [mi_place (by decide)]; exact a3
        have hu2 : lst (TL z (2 ^ n - 1) c on4 (A - rm k)) (mg_i s3 40 (4096 * rm k + c)) := by
          have : mg_i s3 40 (4096 * rm k + c) = mg_i s2 40 (4096 * rm k + c) := by rw [d2 40 _ (by decide), a2 40 _ (by decide)]
          rw [this]
          exact lst_congr (hL2 (rm k) c (by omega) hcl) (fun w => ⟨fun a => a.2, fun a => ⟨g11, a⟩⟩)
        have key := OPT_lst (by omega) hu2 hexT b2
        rw [nl_4096, pk_mul, nI_add, nI_clamp (by omega)]
        refine ⟨vp_in_nI (show 4096 * rm k + c < 126976 by omega) (by decide), fun c9 => take s3 sx d1 d2 d3 (by omega) (key.mp c9) hno, fun c9 => ?_⟩
        rintro _ rfl
        rw [nI_1]
        refine ih2 s3 ⟨d1, d2, d3, fun s' hs' ho => ?_⟩
        rcases Nat.lt_or_ge s' sx with h9 | h9
        · exact hno s' h9 ho
        · rw [show s' = sx by omega] at ho
          exact c9 (key.mpr ho)
