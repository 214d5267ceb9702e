/-! the class: Bench -/
def XB (Y : xg_Y) (h : xg_H) (nm : Nat → Nat) : Prop := xg_is Y (nm 10) 0 ∧ xg_o h (nm 10) 5 = some (nm 11) ∧ xk Y nm 11 26 4 ∧ ∀ g, g < 4 → xg_o h (nm 11) g = some (nm (12 + g)) ∧ xg_is Y (nm (12 + g)) 5
theorem XB.mv {Y : xg_Y} {h h2 : xg_H} {nm : Nat → Nat} {L : List Nat} (a : XB Y h nm) (e : xd nm L h h2) : XB Y h2 nm := ⟨a.1, (e.2 _ _).trans a.2.1, a.2.2.1, fun g hg => ⟨(e.2 _ _).trans (a.2.2.2 g hg).1, (a.2.2.2 g hg).2⟩⟩
def BR (h : xg_H) (nm : Nat → Nat) (n : Nat) (w : wS) : Prop := xg_i h (nm 10) 6 = nI n ∧ xg_i h (nm 10) 7 = nI w.2.1 ∧ xg_i h (nm 10) 0 = nI w.2.2.1 ∧ xg_i h (nm 10) 4 = nI w.2.2.2.1 ∧ xg_i h (nm 10) 1 = frI w.2.2.2.2.1 ∧ xg_i h (nm 10) 2 = nI w.2.2.2.2.2.1 ∧ xg_i h (nm 10) 3 = nI w.2.2.2.2.2.2.1 ∧ ∀ g, g < n → GL h nm (12 + g) (w.1 g)
/-- the cells of the bench -/
def lB : List Nat := [10, 12, 13, 14, 15]
theorem lB_g {g : Nat} (hg : g < 4) : 12 + g ∈ lB := by
  unfold lB
  rcases (show g = 0 ∨ g = 1 ∨ g = 2 ∨ g = 3 by omega) with rfl | rfl | rfl | rfl <;> simp
theorem lB_10 : 10 ∈ lB := by unfold lB; simp
theorem sp_X0_begin {Y : xg_Y} {Q : xg_H → Prop} {h : xg_H} {nm : Nat → Nat} {tx n : Nat} {z t pr : Nat → Nat} (hn : inj nm) (B : XB Y h nm) (X : XS Y h nm tx n z t pr) (hn4 : n ≤ 4) (q : ∀ h', xd nm lB h h' → BR h' nm n (w0 z t) → Q h') : wp_X0_begin Y Q (nm 10) (some (nm tx)) h := by
  obtain ⟨x1, x2, x3, x4, x5, x6, x7, x8, x9⟩ := X
  unfold wp_X0_begin
  refine ⟨B.1, fun R14 c14 => ⟨nm tx, rfl, x1, ?_⟩⟩
  rw [x5]
  have e4 : (if (4 : Int32) < nI n then 4 else nI n) = nI n := if_neg (nI_nlt (b := n) (a := 4) hn4 (by decide))
  rw [e4]
  rintro _ rfl _ rfl
  refine lp (σ := xg_H) (R := fun k s => R14 (nI k) s) (fun k s => xd nm lB h s ∧ xg_i s (nm 10) 6 = nI n ∧ ∀ g, g < k → GL s nm (12 + g) (z g, t g, false, 0)) 0 n (Nat.zero_le n) ?_ ?_ _ ⟨xd.ui hn xd.rf lB_10, xi_same, fun g hg => absurd hg (Nat.not_lt_zero g)⟩
  · rintro s ⟨e, e6, hg⟩
    refine c14 _ _ (bq_t (by rw [e6]; exact nI_le (Nat.le_refl n) (by omega)) ?_)
    rintro _ rfl _ rfl _ rfl _ rfl _ rfl _ rfl
    have ee : xd nm lB h (xg_ui (xg_ui (xg_ui (xg_ui (xg_ui (xg_ui s (nm 10) 7 0) (nm 10) 0 0) (nm 10) 1 (-1)) (nm 10) 2 0) (nm 10) 3 0) (nm 10) 4 0) := xd.ui hn (xd.ui hn (xd.ui hn (xd.ui hn (xd.ui hn (xd.ui hn e lB_10) lB_10) lB_10) lB_10) lB_10) lB_10
    refine q _ ee ⟨?_, ?_, ?_, ?_, ?_, ?_, ?_, fun g h9 => ?_⟩
    · rw [xu_p hn (by decide), xu_p hn (by decide), xu_p hn (by decide), xu_p hn (by decide), xu_p hn (by decide), xu_p hn (by decide)]; exact e6
    · rw [xu_p hn (by decide), xu_p hn (by decide), xu_p hn (by decide), xu_p hn (by decide), xu_p hn (by decide), xi_same]; rfl
    · rw [xu_p hn (by decide), xu_p hn (by decide), xu_p hn (by decide), xu_p hn (by decide), xi_same]; rfl
    · rw [xi_same]; rfl
    · rw [xu_p hn (by decide), xu_p hn (by decide), xu_p hn (by decide), xi_same]; rfl
    · rw [xu_p hn (by decide), xu_p hn (by decide), xi_same]; rfl
    · rw [xu_p hn (by decide), xi_same]; rfl
    · have h1 := hg g h9
      exact ⟨by rw [xu_c hn (by omega), xu_c hn (by omega), xu_c hn (by omega), xu_c hn (by omega), xu_c hn (by omega), xu_c hn (by omega)]; exact h1.1, by rw [xu_c hn (by omega), xu_c hn (by omega), xu_c hn (by omega), xu_c hn (by omega), xu_c hn (by omega), xu_c hn (by omega)]; exact h1.2.1, by rw [xu_c hn (by omega), xu_c hn (by omega), xu_c hn (by omega), xu_c hn (by omega), xu_c hn (by omega), xu_c hn (by omega)]; exact h1.2.2.1, by rw [xu_c hn (by omega), xu_c hn (by omega), xu_c hn (by omega), xu_c hn (by omega), xu_c hn (by omega), xu_c hn (by omega)]; exact h1.2.2.2⟩
  · rintro k s _ hk ⟨e, e6, hg⟩ ih
    have Bs := B.mv e
    refine c14 _ _ (bq_f (by rw [e6]; exact nI_ge hk (by omega)) ⟨nm 11, Bs.2.1, Bs.2.2.1.1, ?_⟩)
    rw [Bs.2.2.1.2, nI_clamp (by omega)]
    have E1 : xg_i s (nm (tx + 10)) k = nI (z k) := (e.i _ (by unfold lB; simp <;> omega) k).trans (x6 k hk).1
    have E2 : xg_i s (nm (tx + 20)) k = nI (t k) := (e.i _ (by unfold lB; simp <;> omega) k).trans (x6 k hk).2.1
    refine ⟨vp_in_nI (by omega) (by decide), nm tx, rfl, x1, nm (tx + 10), (e.2 _ _).trans x2.1, x2.2.1, ?_⟩
    rw [x2.2.2]
    refine ⟨vp_in_nI (by omega) (by decide), nm (tx + 20), (e.2 _ _).trans x3.1, x3.2.1, ?_⟩
    rw [x3.2.2]
    refine ⟨vp_in_nI (by omega) (by decide), nm (12 + k), (Bs.2.2.2 k (by omega)).1, (Bs.2.2.2 k (by omega)).2, ?_⟩
    rw [E1, E2]
    refine sp_X5_put hn (Bs.2.2.2 k (by omega)).2 (fun s2 e2 g2 => ?_)
    rintro _ rfl
    rw [nI_1]
    refine ih s2 ⟨e.tr (e2.mono (fun c hc => by rw [List.mem_singleton.mp hc]; exact lB_g (by omega))), (e2.i 10 (by simp <;> omega) 6).trans e6, fun g h9 => ?_⟩
    rcases Nat.lt_or_ge g k with h8 | h8
    · exact (hg g h8).mv e2 (by simp <;> omega)
    · rw [show g = k by omega]; exact g2
theorem lt32_ne {b : Bool} : (¬ lt32 b = 0) ↔ b = true := by cases b <;> decide
/-- the frame of the bench, the seed standing -/
def x8 (nm : Nat → Nat) (h h2 : xg_H) : Prop := xd nm lB h h2 ∧ xg_i h2 (nm 10) 8 = xg_i h (nm 10) 8
theorem x8.rf {nm : Nat → Nat} {h : xg_H} : x8 nm h h := ⟨xd.rf, rfl⟩
theorem x8.tr {nm : Nat → Nat} {h h2 h3 : xg_H} (a : x8 nm h h2) (b : x8 nm h2 h3) : x8 nm h h3 := ⟨a.1.tr b.1, b.2.trans a.2⟩
theorem x8.ui {nm : Nat → Nat} {h h2 : xg_H} {j : Nat} {v : Int32} (hn : inj nm) (a : x8 nm h h2) (hj : 8 ≠ j) : x8 nm h (xg_ui h2 (nm 10) j v) := ⟨xd.ui hn a.1 lB_10, by rw [xu_p hn hj]; exact a.2⟩
theorem x8.g {nm : Nat → Nat} {h h2 : xg_H} {g : Nat} (hg : g < 4) (a : xd nm [12 + g] h h2) : x8 nm h h2 := ⟨a.mono (fun c hc => by rw [List.mem_singleton.mp hc]; exact lB_g hg), a.i 10 (by simp <;> omega) 8⟩
theorem sp_X0_passMinute {Y : xg_Y} {Q : xg_H → Prop} {h : xg_H} {nm : Nat → Nat} {n d : Nat} {w : wS} (hn : inj nm) (B : XB Y h nm) (R : BR h nm n w) (K : wK n d w) (hm : w.2.1 < 99) (q : ∀ h', x8 nm h h' → BR h' nm n (wP n w) → Q h') : wp_X0_passMinute Y Q (nm 10) h := by
  obtain ⟨K0, K1, K2, K3, K4, K5, K6, K7, K8, K9⟩ := K
  obtain ⟨r6, r7, r0, r4, r1, r2, r3, rg⟩ := R
  unfold wp_X0_passMinute
  refine ⟨B.1, fun R16 R74 R39 R94 R54 c16 c74 c39 c94 c54 => ?_⟩
  rintro _ rfl
  rw [r7, nI_1]
  have hoc := csm_le (fun g => gO (w.1 g)) n
  have hrc := csm_le (fun g => gR (w.1 g)) n
  -- what stands while the glasses pass
  refine lp (σ := xg_H) (R := fun k s => R16 (nI (csm (fun g => gR (w.1 g)) k)) (nI (csm (fun g => gO (w.1 g)) k)) (nI k) s) (fun k s => x8 nm h s ∧ (∀ j, j ≠ 7 → xg_i s (nm 10) j = xg_i h (nm 10) j) ∧ xg_i s (nm 10) 7 = nI (w.2.1 + 1) ∧ (∀ g, g < n → GL s nm (12 + g) (if g < k then gP (w.1 g) else w.1 g))) 0 n (Nat.zero_le n) ?_ ?_ _ ⟨x8.ui hn x8.rf (by decide), fun j hj => xu_p hn hj, xi_same, fun g hg => ?_⟩
  · rintro s ⟨e, e0, e7, eg⟩
    refine c16 _ _ _ _ (bq_t (by rw [e0 6 (by decide), r6]; exact nI_le (Nat.le_refl n) (by omega)) ?_)
    -- the end: ran, most
    have last : ∀ s2, x8 nm h s2 → xg_i s2 (nm 10) 6 = nI n → xg_i s2 (nm 10) 7 = nI (w.2.1 + 1) → xg_i s2 (nm 10) 0 = nI w.2.2.1 → xg_i s2 (nm 10) 4 = nI w.2.2.2.1 → xg_i s2 (nm 10) 1 = frI (wP n w).2.2.2.2.1 → xg_i s2 (nm 10) 2 = nI w.2.2.2.2.2.1 → xg_i s2 (nm 10) 3 = nI (wP n w).2.2.2.2.2.2.1 → (∀ g, g < n → GL s2 nm (12 + g) ((wP n w).1 g)) → R94 (nI (csm (fun g => gO (w.1 g)) n)) s2 := by
      intro s2 f f6 f7 f0 f4 f1 f2 f3 fg
      refine c94 _ _ ?_
      rintro _ rfl
      rw [f0, nI_add, xu_p hn (by decide), f2]
      have em : (if nI w.2.2.2.2.2.1 < nI (csm (fun g => gO (w.1 g)) n) then nI (csm (fun g => gO (w.1 g)) n) else nI w.2.2.2.2.2.1) = nI (wP n w).2.2.2.2.2.1 := by
        show _ = nI (max w.2.2.2.2.2.1 (wo w n))
        unfold wo
        by_cases h9 : w.2.2.2.2.2.1 < csm (fun g => gO (w.1 g)) n
        · rw [if_pos (nI_lt h9 (by omega)), Nat.max_eq_right (by omega)]
        · rw [if_neg (nI_nlt (by omega) (by omega)), Nat.max_eq_left (by omega)]
      rw [em]
      rintro _ rfl _ rfl
      refine q _ (x8.ui hn (x8.ui hn f (by decide)) (by decide)) ⟨?_, ?_, ?_, ?_, ?_, xi_same, ?_, fun g h9 => ?_⟩
      · rw [xu_p hn (by decide), xu_p hn (by decide)]; exact f6
      · rw [xu_p hn (by decide), xu_p hn (by decide)]; exact f7
      · rw [xu_p hn (by decide), xi_same]; rfl
      · rw [xu_p hn (by decide), xu_p hn (by decide)]; exact f4
      · rw [xu_p hn (by decide), xu_p hn (by decide)]; exact f1
      · rw [xu_p hn (by decide), xu_p hn (by decide)]; exact f3
      · have h1 := fg g h9
        exact ⟨by rw [xu_c hn (by omega), xu_c hn (by omega)]; exact h1.1, by rw [xu_c hn (by omega), xu_c hn (by omega)]; exact h1.2.1, by rw [xu_c hn (by omega), xu_c hn (by omega)]; exact h1.2.2.1, by rw [xu_c hn (by omega), xu_c hn (by omega)]; exact h1.2.2.2⟩
    have gl : ∀ g, g < n → GL s nm (12 + g) ((wP n w).1 g) := fun g h9 => by
      show GL s nm (12 + g) (if g < n then gP (w.1 g) else w.1 g)
      exact eg g h9
    -- the first that ran
    have mid : ∀ s2, x8 nm h s2 → xg_i s2 (nm 10) 6 = nI n → xg_i s2 (nm 10) 7 = nI (w.2.1 + 1) → xg_i s2 (nm 10) 0 = nI w.2.2.1 → xg_i s2 (nm 10) 4 = nI w.2.2.2.1 → xg_i s2 (nm 10) 1 = frI w.2.2.2.2.1 → xg_i s2 (nm 10) 2 = nI w.2.2.2.2.2.1 → xg_i s2 (nm 10) 3 = nI (wP n w).2.2.2.2.2.2.1 → (∀ g, g < n → GL s2 nm (12 + g) ((wP n w).1 g)) → R74 (nI (csm (fun g => gO (w.1 g)) n)) s2 := by
      intro s2 f f6 f7 f0 f4 f1 f2 f3 fg
      have ef : (wP n w).2.2.2.2.1 = if w.2.2.2.2.1 = 0 ∧ 0 < csm (fun g => gO (w.1 g)) n then w.2.1 + 1 else w.2.2.2.2.1 := rfl
      refine c74 _ _ ?_
      by_cases h0 : csm (fun g => gO (w.1 g)) n = 0
      · refine bq_t (by rw [h0]; decide) (last s2 f f6 f7 f0 f4 ?_ f2 f3 fg)
        rw [ef, if_neg (by omega)]; exact f1
      · refine bq_f (nI_ge (a := 0) (by omega) (by omega)) ?_
        rw [f1]
        by_cases h1 : w.2.2.2.2.1 = 0
        · refine bq_nf (by rw [h1]; rfl) ?_
          rintro _ rfl
          rw [f7]
          refine last _ (x8.ui hn f (by decide)) ?_ ?_ ?_ ?_ ?_ ?_ ?_ (fun g h9 => ?_)
          · rw [xu_p hn (by decide)]; exact f6
          · rw [xu_p hn (by decide)]; exact f7
          · rw [xu_p hn (by decide)]; exact f0
          · rw [xu_p hn (by decide)]; exact f4
          · rw [xi_same, ef, if_pos ⟨h1, by omega⟩]; unfold frI; rw [if_neg (by omega)]
          · rw [xu_p hn (by decide)]; exact f2
          · rw [xu_p hn (by decide)]; exact f3
          · have h1 := fg g h9
            exact ⟨by rw [xu_c hn (by omega)]; exact h1.1, by rw [xu_c hn (by omega)]; exact h1.2.1, by rw [xu_c hn (by omega)]; exact h1.2.2.1, by rw [xu_c hn (by omega)]; exact h1.2.2.2⟩
        · refine bq_nt (by unfold frI; rw [if_neg h1, nl_m1, nI_eqM (by omega)]; exact id) (last s2 f f6 f7 f0 f4 ?_ f2 f3 fg)
          rw [ef, if_neg (by omega)]; exact f1
    have ei : (wP n w).2.2.2.2.2.2.1 = w.2.2.2.2.2.2.1 + (if csm (fun g => gR (w.1 g)) n = 0 then 1 else 0) := rfl
    by_cases h0 : csm (fun g => gR (w.1 g)) n = 0
    · refine bq_nf (by rw [h0]; rfl) ?_
      rintro _ rfl
      rw [e0 3 (by decide), r3, nI_1]
      refine mid _ (x8.ui hn e (by decide)) ?_ ?_ ?_ ?_ ?_ ?_ ?_ (fun g h9 => ?_)
      · rw [xu_p hn (by decide), e0 6 (by decide)]; exact r6
      · rw [xu_p hn (by decide)]; exact e7
      · rw [xu_p hn (by decide), e0 0 (by decide)]; exact r0
      · rw [xu_p hn (by decide), e0 4 (by decide)]; exact r4
      · rw [xu_p hn (by decide), e0 1 (by decide)]; exact r1
      · rw [xu_p hn (by decide), e0 2 (by decide)]; exact r2
      · rw [xi_same, ei, if_pos h0]
      · have h1 := gl g h9
        exact ⟨by rw [xu_c hn (by omega)]; exact h1.1, by rw [xu_c hn (by omega)]; exact h1.2.1, by rw [xu_c hn (by omega)]; exact h1.2.2.1, by rw [xu_c hn (by omega)]; exact h1.2.2.2⟩
    · refine bq_nt (fun c => h0 ((nI_eq (b := 0) (by omega) (by decide)).mp c)) (mid s e ?_ e7 ?_ ?_ ?_ ?_ ?_ gl)
      · rw [e0 6 (by decide)]; exact r6
      · rw [e0 0 (by decide)]; exact r0
      · rw [e0 4 (by decide)]; exact r4
      · rw [e0 1 (by decide)]; exact r1
      · rw [e0 2 (by decide)]; exact r2
      · rw [e0 3 (by decide), ei, if_neg h0, Nat.add_zero]; exact r3
  · rintro k s _ hk ⟨e, e0, e7, eg⟩ ih
    have Bs := B.mv e.1
    have gk := eg k hk
    rw [if_neg (Nat.lt_irrefl k)] at gk
    refine c16 _ _ _ _ (bq_f (by rw [e0 6 (by decide), r6]; exact nI_ge hk (by omega)) ⟨nm 11, Bs.2.1, Bs.2.2.1.1, ?_⟩)
    rw [Bs.2.2.1.2, nI_clamp (by omega)]
    refine ⟨vp_in_nI (by omega) (by decide), nm (12 + k), (Bs.2.2.2 k (by omega)).1, (Bs.2.2.2 k (by omega)).2, ?_⟩
    have pass : R39 (nI (csm (fun g => gR (w.1 g)) (k + 1))) (nI (csm (fun g => gO (w.1 g)) k)) (nI k) s := by
      refine c39 _ _ _ _ ⟨nm 11, Bs.2.1, Bs.2.2.1.1, ?_⟩
      rw [Bs.2.2.1.2, nI_clamp (by omega)]
      refine ⟨vp_in_nI (by omega) (by decide), nm (12 + k), (Bs.2.2.2 k (by omega)).1, (Bs.2.2.2 k (by omega)).2, ?_⟩
      refine sp_X5_passMinute hn (Bs.2.2.2 k (by omega)).2 gk (K1 k hk) (fun s2 e2 g2 => ?_)
      have fin : R54 (nI (csm (fun g => gR (w.1 g)) (k + 1))) (nI (csm (fun g => gO (w.1 g)) (k + 1))) (nI k) s2 := by
        refine c54 _ _ _ _ ?_
        rintro _ rfl
        rw [nI_1]
        refine ih s2 ⟨e.tr (x8.g (by omega) e2), fun j hj => (e2.i 10 (by simp <;> omega) j).trans (e0 j hj), (e2.i 10 (by simp <;> omega) 7).trans e7, fun g h9 => ?_⟩
        by_cases h8 : g = k
        · rw [h8, if_pos (by omega)]; exact g2
        · have := (eg g h9).mv e2 (by simp <;> omega)
          by_cases h7 : g < k
          · rw [if_pos h7] at this; rw [if_pos (by omega)]; exact this
          · rw [if_neg h7] at this; rw [if_neg (by omega)]; exact this
      have ec : csm (fun g => gO (w.1 g)) (k + 1) = csm (fun g => gO (w.1 g)) k + (if gO (w.1 k) = true then 1 else 0) := rfl
      cases ho : gO (w.1 k)
      · refine bq_t rfl ?_
        rw [ec, ho, if_neg (by decide), Nat.add_zero] at fin
        exact fin
      · refine bq_f (by decide) ?_
        rintro _ rfl
        rw [ec, ho, if_pos rfl, ← nI_1] at fin
        exact fin
    have ec : csm (fun g => gR (w.1 g)) (k + 1) = csm (fun g => gR (w.1 g)) k + (if gR (w.1 k) = true then 1 else 0) := rfl
    refine sp_X5_runs (Bs.2.2.2 k (by omega)).2 gk (K1 k hk) ?_
    cases ho : gR (w.1 k)
    · refine bq_t rfl ?_
      rw [ec, ho, if_neg (by decide), Nat.add_zero] at pass
      exact pass
    · refine bq_f (by decide) ?_
      rintro _ rfl
      rw [ec, ho, if_pos rfl, ← nI_1] at pass
      exact pass
  · have h1 := rg g hg
    rw [if_neg (Nat.not_lt_zero g)]
    exact ⟨by rw [xu_c hn (by omega)]; exact h1.1, by rw [xu_c hn (by omega)]; exact h1.2.1, by rw [xu_c hn (by omega)]; exact h1.2.2.1, by rw [xu_c hn (by omega)]; exact h1.2.2.2⟩
theorem sp_X0_tried {Y : xg_Y} {Q : Int32 → xg_H → Prop} {h : xg_H} {nm : Nat → Nat} {n d kd y : Nat} {w : wS} (hn : inj nm) (B : XB Y h nm) (R : BR h nm n w) (K : wK n d w) (hd : d < 1000) (hkd : kd ≤ 4) (hy : y < 1000) (q : ∀ h', x8 nm h h' → BR h' nm n (wD n kd y w).2 → Q (lt32 (wD n kd y w).1) h') : wp_X0_tried Y Q (nm 10) (nI kd) (nI y) h := by
  have hn4 := K.1
  have hm99 := K.2.2.1
  have r7 := R.2.1
  unfold wp_X0_tried
  refine ⟨B.1, fun R19 c19 => ?_⟩
  unfold wD at q
  by_cases hk : kd = 0
  · rw [if_pos hk] at q
    refine bq_nf (by rw [hk]; rfl) ?_
    rw [r7, nI_add]
    by_cases h9 : w.2.1 + y ≤ 99
    · rw [if_pos h9] at q
      refine bq_t (nI_le (b := 99) h9 (by decide)) ?_
      refine lp (σ := xg_H) (R := fun j s => R19 (nI j) s) (fun j s => x8 nm h s ∧ BR s nm n (wI n w j)) 0 y (Nat.zero_le y) ?_ ?_ h ⟨x8.rf, R⟩
      · rintro s ⟨e, Rs⟩
        exact c19 _ _ (bq_t (nI_le (Nat.le_refl y) (by omega)) (q s e Rs))
      · rintro j s _ hj ⟨e, Rs⟩ ih
        refine c19 _ _ (bq_f (nI_ge hj (by omega)) ?_)
        refine sp_X0_passMinute hn (B.mv e.1) Rs (wI_K K j (by omega)) (by rw [wI_m]; omega) (fun s2 e2 R2 => ?_)
        rintro _ rfl
        rw [nI_1]
        exact ih s2 ⟨e.tr e2, R2⟩
    · rw [if_neg h9] at q
      exact bq_f (nI_ge (a := 99) (by omega) (by omega)) (q h x8.rf R)
  · rw [if_neg hk] at q
    refine bq_nt (fun c => hk ((nI_eq (b := 0) (by omega) (by decide)).mp c)) (bq_f (nI_nlt (b := 0) (Nat.zero_le y) (by omega)) ?_)
    rw [R.1]
    by_cases hyn : y < n
    · refine bq_f (nI_ge hyn (by omega)) ⟨nm 11, B.2.1, B.2.2.1.1, ?_⟩
      rw [B.2.2.1.2, nI_clamp (by omega)]
      have Gy := R.2.2.2.2.2.2.2 y hyn
      have Ky := K.2.1 y hyn
      refine ⟨vp_in_nI (by omega) (by decide), nm (12 + y), (B.2.2.2 y (by omega)).1, (B.2.2.2 y (by omega)).2, ?_⟩
      refine sp_X5_may (B.2.2.2 y (by omega)).2 Gy Ky hkd ?_
      cases hmay : gM kd (w.1 y)
      · rw [if_neg (fun c => by rw [hmay] at c; cases c.2)] at q
        exact bq_nf rfl (q h x8.rf R)
      · rw [if_pos ⟨hyn, hmay⟩] at q
        refine bq_nt (by decide) ⟨nm 11, B.2.1, B.2.2.1.1, ?_⟩
        rw [B.2.2.1.2]
        refine ⟨vp_in_nI (by omega) (by decide), nm (12 + y), (B.2.2.2 y (by omega)).1, (B.2.2.2 y (by omega)).2, ?_⟩
        refine sp_X5_act hn (B.2.2.2 y (by omega)).2 Gy Ky hkd (fun s2 e2 g2 => ?_)
        have e2' : x8 nm h s2 := x8.g (by omega) e2
        have b10 : ∀ j, xg_i s2 (nm 10) j = xg_i h (nm 10) j := fun j => e2.i 10 (by simp <;> omega) j
        have gls : ∀ g, g < n → GL s2 nm (12 + g) ((wA kd y w).1 g) := fun g hg => by
          show GL s2 nm (12 + g) (if g = y then gA kd (w.1 y) else w.1 g)
          by_cases e : g = y
          · rw [if_pos e, e]; exact g2
          · rw [if_neg e]; exact (R.2.2.2.2.2.2.2 g hg).mv e2 (by simp <;> omega)
        obtain ⟨r6, _, r0, r4, r1, r2, r3, rg⟩ := R
        have ht : (wA kd y w).2.2.2.1 = if kd = 1 then w.2.2.2.1 + 1 else w.2.2.2.1 := rfl
        by_cases h1 : kd = 1
        · refine bq_nf (by rw [h1]; rfl) ?_
          rintro _ rfl
          rw [b10 4, r4, nI_1]
          refine q _ (x8.ui hn e2' (by decide)) ⟨?_, ?_, ?_, ?_, ?_, ?_, ?_, fun g h9 => ?_⟩
          · rw [xu_p hn (by decide), b10]; exact r6
          · rw [xu_p hn (by decide), b10]; exact r7
          · rw [xu_p hn (by decide), b10]; exact r0
          · rw [xi_same, ht, if_pos h1]
          · rw [xu_p hn (by decide), b10]; exact r1
          · rw [xu_p hn (by decide), b10]; exact r2
          · rw [xu_p hn (by decide), b10]; exact r3
          · have h1 := gls g h9
            exact ⟨by rw [xu_c hn (by omega)]; exact h1.1, by rw [xu_c hn (by omega)]; exact h1.2.1, by rw [xu_c hn (by omega)]; exact h1.2.2.1, by rw [xu_c hn (by omega)]; exact h1.2.2.2⟩
        · refine bq_nt (fun c => h1 ((nI_eq (b := 1) (by omega) (by decide)).mp c)) (q s2 e2' ⟨(b10 _).trans r6, (b10 _).trans r7, (b10 _).trans r0, ?_, (b10 _).trans r1, (b10 _).trans r2, (b10 _).trans r3, gls⟩)
          rw [b10, ht, if_neg h1]; exact r4
    · rw [if_neg (fun c => hyn c.1)] at q
      exact bq_t (nI_le (by omega) (by omega)) (q h x8.rf R)
/-- a day as a text of the class -/
def XD (Y : xg_Y) (h : xg_H) (nm : Nat → Nat) (tx m : Nat) (kd yy : Nat → Nat) : Prop := xg_is Y (nm tx) 8 ∧ (xg_o h (nm tx) 1 = some (nm (tx + 10)) ∧ xk Y nm (tx + 10) 22 40) ∧ (xg_o h (nm tx) 2 = some (nm (tx + 20)) ∧ xk Y nm (tx + 20) 22 40) ∧ xg_i h (nm tx) 0 = nI m ∧ m ≤ 40 ∧ (∀ j, j < m → xg_i h (nm (tx + 10)) j = nI (kd j) ∧ xg_i h (nm (tx + 20)) j = nI (yy j) ∧ kd j ≤ 4 ∧ yy j ≤ 9) ∧ 100 ≤ tx ∧ tx < 400
theorem XD.mv {Y : xg_Y} {h h2 : xg_H} {nm : Nat → Nat} {tx m : Nat} {kd yy : Nat → Nat} {L : List Nat} (a : XD Y h nm tx m kd yy) (e : xd nm L h h2) (hL : ∀ c, c ∈ L → c < 100) : XD Y h2 nm tx m kd yy := by
  obtain ⟨a1, a2, a3, a4, a5, a6, a7, a8⟩ := a
  have E : ∀ c, 100 ≤ c → ∀ j, xg_i h2 (nm c) j = xg_i h (nm c) j := fun c h1 j => e.i c (fun hc => by have := hL c hc; omega) j
  refine ⟨a1, ⟨(e.2 _ _).trans a2.1, a2.2⟩, ⟨(e.2 _ _).trans a3.1, a3.2⟩, (E tx (by omega) 0).trans a4, a5, fun j hj => ?_, a7, a8⟩
  rw [E _ (by omega), E _ (by omega)]
  exact a6 j hj
theorem lB_lt (c : Nat) (h : c ∈ lB) : c < 100 := by
  unfold lB at h
  simp at h
  omega
theorem sp_X0_play {Y : xg_Y} {Q : Int32 → xg_H → Prop} {h : xg_H} {nm : Nat → Nat} {n tx m k : Nat} {w : wS} {kd yy : Nat → Nat} (hn : inj nm) (B : XB Y h nm) (R : BR h nm n w) (K : wK n 0 w) (D : XD Y h nm tx m kd yy) (hk : k ≤ m) (q : ∀ j h', xd nm lB h h' → wE n kd yy w k j → BR h' nm n (wT n kd yy w j) → Q (nI j) h') : wp_X0_play Y Q (nm 10) (some (nm tx)) (nI k) h := by
  have hm40 := D.2.2.2.2.1
  unfold wp_X0_play
  refine ⟨B.1, fun R2 R42 c2 c42 => ?_⟩
  refine lp (σ := xg_H) (R := fun j s => R2 (nI j) s) (fun j s => xd nm lB h s ∧ (∀ i, i < j → wG n kd yy w i = true) ∧ BR s nm n (wT n kd yy w j)) 0 k (Nat.zero_le k) ?_ ?_ h ⟨xd.rf, fun i hi => absurd hi (Nat.not_lt_zero i), R⟩
  · rintro s ⟨e, hg, Rs⟩
    have Ds := D.mv e lB_lt
    refine c2 _ _ (bq_t (nI_le (Nat.le_refl k) (by omega)) (c42 _ ⟨nm tx, rfl, Ds.1, ?_⟩))
    rw [Ds.2.2.2.1]
    have e1 : (if nI m < nI k then nI m else nI k) = nI k := by rw [if_neg (nI_nlt hk (by omega))]
    rw [e1]
    rintro _ rfl
    exact q k s e ⟨Nat.le_refl k, hg, Or.inl rfl⟩ Rs
  · rintro j s _ hj ⟨e, hg, Rs⟩ ih
    have Ds := D.mv e lB_lt
    have D6 := Ds.2.2.2.2.2.1 j (by omega)
    refine c2 _ _ (bq_f (nI_ge hj (by omega)) ⟨nm tx, rfl, Ds.1, ?_⟩)
    rw [Ds.2.2.2.1]
    refine bq_f (nI_ge (by omega) (by omega)) ⟨nm (tx + 10), Ds.2.1.1, Ds.2.1.2.1, ?_⟩
    rw [Ds.2.1.2.2, nI_clamp (by omega), D6.1]
    refine ⟨vp_in_nI (by omega) (by decide), nm (tx + 20), Ds.2.2.1.1, Ds.2.2.1.2.1, ?_⟩
    rw [Ds.2.2.1.2.2, D6.2.1]
    refine ⟨vp_in_nI (by omega) (by decide), ?_⟩
    refine sp_X0_tried (d := 0 + j) hn (B.mv e) Rs (wT_K K j) (by omega) D6.2.2.1 (by omega) (fun s2 e2 R2' => ?_)
    cases hw : (wD n (kd j) (yy j) (wT n kd yy w j)).1
    · refine bq_nf rfl (q j s2 (e.tr e2.1) ⟨by omega, hg, Or.inr hw⟩ ?_)
      rw [wD_no hw] at R2'
      exact R2'
    · refine bq_nt (by decide) ?_
      rintro _ rfl
      rw [nI_1]
      refine ih s2 ⟨e.tr e2.1, fun i hi => ?_, R2'⟩
      rcases Nat.lt_or_ge i j with h9 | h9
      · exact hg i h9
      · rw [show i = j by omega]; exact hw
