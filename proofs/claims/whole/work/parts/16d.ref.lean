/-! the reference: the day -/
def DR (g : mg_H) (n : Nat) (w : wS) : Prop := mg_i g 0 24 = nI n ∧ mg_i g 0 30 = nI w.2.1 ∧ mg_i g 0 32 = nI w.2.2.1 ∧ mg_i g 0 33 = nI w.2.2.2.1 ∧ mg_i g 0 34 = frI w.2.2.2.2.1 ∧ mg_i g 0 35 = nI w.2.2.2.2.2.1 ∧ mg_i g 0 36 = nI w.2.2.2.2.2.2.1 ∧ mg_i g 0 31 = nI (wl w n) ∧ (∀ j, j < n → mg_i g 27 j = nI (w.1 j).1 ∧ mg_i g 28 j = nI (w.1 j).2.1 ∧ mg_i g 37 j = nI (w.1 j).2.2.2) ∧ ∀ t, t ≤ 99 → mg_i g 38 t = nI (w.2.2.2.2.2.2.2 t)
theorem ones_b {p : Nat → Bool} {n : Nat} (hn : n ≤ 4) : mp_ones (nI (bsm p n)) 4 = nI (csm p n) := by
  have hl := bsm_lt p n
  have hp := pow_n hn
  have key : ∀ k, k ≤ 4 → mp_ones (nI (bsm p n)) k = nI (csm (fun i => decide (i < n) && p i) k) := by
    intro k
    induction k with
    | zero => intro _; rfl
    | succ k ih =>
      intro hk
      have ih := ih (by omega)
      show mp_ones (nI (bsm p n)) k + (if mp_has (nI (bsm p n)) (nI k) then 1 else 0) = _
      rw [ih]
      have hb := has_I (s := bsm p n) (k := k) (by omega) (by omega)
      rw [bsm_bit] at hb
      show _ = nI (csm (fun i => decide (i < n) && p i) k + (if (decide (k < n) && p k) = true then 1 else 0))
      by_cases c : (decide (k < n) && p k) = true
      · rw [if_pos (hb.mpr c), if_pos c, nI_1]
      · rw [if_neg (fun h => c (hb.mp h)), if_neg c, nl_0, nI_add]
  rw [key 4 (Nat.le_refl 4)]
  have cut : ∀ k, csm (fun i => decide (i < n) && p i) (n + k) = csm p n := by
    intro k
    induction k with
    | zero => exact csm_congr n (fun i hi => by rw [decide_eq_true hi, Bool.true_and])
    | succ k ih =>
      show csm (fun i => decide (i < n) && p i) (n + k) + (if (decide (n + k < n) && p (n + k)) = true then 1 else 0) = _
      rw [ih, decide_eq_false (by omega), Bool.false_and, if_neg (by decide), Nat.add_zero]
  have := cut (4 - n)
  rw [show n + (4 - n) = 4 by omega] at this
  rw [this]
theorem sp_goByW {Q : mg_H → Prop} {h : mg_H} {n d : Nat} {w : wS} (D : DR h n w) (K : wK n d w) (hm : w.2.1 < 99) (q : ∀ h', md [28, 37, 38] [30, 32, 34, 35, 36] h h' → DR h' n (wP n w) → Q h') : wp_goBy Q h := by
  obtain ⟨K0, K1, K2, K3, K4, K5, K6, K7, K8, K9⟩ := K
  obtain ⟨d24, d30, d32, d33, d34, d35, d36, d31, dg, d38⟩ := D
  have hoc := csm_le (fun g => gO (w.1 g)) n
  have hlb := bsm_lt (fun g => (w.1 g).2.2.1) n
  have hp := pow_n K0
  unfold wp_goBy
  intro R14 R166 R170 R105 R80 R187 R103 c14 c166 c170 c105 c80 c187 c103
  rintro _ rfl
  rw [d30, nI_1]
  -- while the glasses go by
  refine lp (σ := mg_H) (R := fun k g => R14 (nI (if csm (fun g => gR (w.1 g)) k = 0 then 0 else 1)) (nI k) g) (fun k g => md [28, 37, 38] [30] h g ∧ mg_i g 0 30 = nI (w.2.1 + 1) ∧ (∀ j, j < n → mg_i g 28 j = nI (if j < k then gP (w.1 j) else w.1 j).2.1 ∧ mg_i g 37 j = nI (if j < k then gP (w.1 j) else w.1 j).2.2.2) ∧ (∀ t, t ≤ 99 → mg_i g 38 t = nI (if t = w.2.1 + 1 then bsm (fun g => gO (w.1 g)) k else w.2.2.2.2.2.2.2 t))) 0 n (Nat.zero_le n) ?_ ?_ _ ⟨md.u0 md.rf (by decide), mi_same, fun j hj => ?_, fun t ht => ?_⟩
  · rintro g ⟨e, e30, eg, e38⟩
    refine c14 _ _ _ (bq_t (by rw [e.2 24 (by decide), d24]; exact nI_le (Nat.le_refl n) (by omega)) ?_)
    rw [e30, nI_clamp (by omega), e38 _ (by omega), if_pos rfl]
    refine ⟨vp_in_nI (show w.2.1 + 1 < 100 by omega) (by decide), sp_ones ?_⟩
    rw [ones_b K0]
    rintro _ rfl
    rw [e.2 32 (by decide), d32, nI_add]
    refine sp_greater ?_
    rw [mi_place (by decide), e.2 35 (by decide), d35]
    have em : (if nI w.2.2.2.2.2.1 ≤ nI (csm (fun g => gO (w.1 g)) n) then nI (csm (fun g => gO (w.1 g)) n) else nI w.2.2.2.2.2.1) = nI (wP n w).2.2.2.2.2.1 := by
      show _ = nI (max w.2.2.2.2.2.1 (wo w n))
      unfold wo
      by_cases h9 : w.2.2.2.2.2.1 ≤ csm (fun g => gO (w.1 g)) n
      · rw [if_pos (nI_le h9 (by omega)), Nat.max_eq_right h9]
      · rw [if_neg (nI_ge (by omega) (by omega)), Nat.max_eq_left (by omega)]
    rw [em]
    rintro _ rfl
    obtain ⟨g2, eg2⟩ : ∃ g2, g2 = mg_ui (mg_ui g 0 32 (nI (w.2.2.1 + csm (fun g => gO (w.1 g)) n))) 0 35 (nI (wP n w).2.2.2.2.2.1) := ⟨_, rfl⟩
    rw [← eg2]
    have o2 : ∀ j, j ≠ 32 → j ≠ 35 → mg_i g2 0 j = mg_i g 0 j := fun j h1 h2 => by rw [eg2, mi_place h2, mi_place h1]
    have o3 : ∀ c j, c ≠ 0 → mg_i g2 c j = mg_i g c j := fun c j h1 => by rw [eg2, mi_cell h1, mi_cell h1]
    have e2 : md [28, 37, 38] [30, 32, 34, 35, 36] h g2 := by
      rw [eg2]
      exact ((e.mono (fun c hc => hc) (by simp)).u0 (by decide)).u0 (by decide)
    have f32 : mg_i g2 0 32 = nI (wP n w).2.2.1 := by rw [eg2, mi_place (by decide), mi_same]; rfl
    have f35 : mg_i g2 0 35 = nI (wP n w).2.2.2.2.2.1 := by rw [eg2, mi_same]
    have ef : (wP n w).2.2.2.2.1 = if w.2.2.2.2.1 = 0 ∧ 0 < csm (fun g => gO (w.1 g)) n then w.2.1 + 1 else w.2.2.2.2.1 := rfl
    have ei : (wP n w).2.2.2.2.2.2.1 = w.2.2.2.2.2.2.1 + (if csm (fun g => gR (w.1 g)) n = 0 then 1 else 0) := rfl
    have last : ∀ v : Int32, v = frI (wP n w).2.2.2.2.1 → R170 (nI (if csm (fun g => gR (w.1 g)) n = 0 then 0 else 1)) v g2 := by
      rintro v rfl
      refine c170 _ _ _ ?_
      rintro _ rfl
      have g36 : mg_i (mg_ui g2 0 34 (frI (wP n w).2.2.2.2.1)) 0 36 = nI w.2.2.2.2.2.2.1 := by rw [mi_place (by decide), o2 36 (by decide) (by decide), e.2 36 (by decide)]; exact d36
      rw [g36]
      have fin : ∀ u : Nat, u = (if csm (fun g => gR (w.1 g)) n = 0 then 1 else 0) → R187 (nI u) (nI w.2.2.2.2.2.2.1) (mg_ui g2 0 34 (frI (wP n w).2.2.2.2.1)) := by
        rintro u rfl
        refine c187 _ _ _ ?_
        rintro _ rfl
        rw [nI_add]
        refine q _ ((e2.u0 (by decide)).u0 (by decide)) ⟨?_, ?_, ?_, ?_, ?_, ?_, ?_, ?_, fun j hj => ⟨?_, ?_, ?_⟩, fun t ht => ?_⟩
        · rw [mi_place (by decide), mi_place (by decide), o2 24 (by decide) (by decide), e.2 24 (by decide)]; exact d24
        · rw [mi_place (by decide), mi_place (by decide), o2 30 (by decide) (by decide)]; exact e30
        · rw [mi_place (by decide), mi_place (by decide)]; exact f32
        · rw [mi_place (by decide), mi_place (by decide), o2 33 (by decide) (by decide), e.2 33 (by decide)]; exact d33
        · rw [mi_place (by decide), mi_same]
        · rw [mi_place (by decide), mi_place (by decide)]; exact f35
        · rw [mi_same, ei]
        · rw [mi_place (by decide), mi_place (by decide), o2 31 (by decide) (by decide), e.2 31 (by decide), d31]
          unfold wl
          rw [bsm_congr n (fun i hi => ?_)]
          show (w.1 i).2.2.1 = (if i < n then gP (w.1 i) else w.1 i).2.2.1
          rw [if_pos hi]
          unfold gP
          split <;> rfl
        · rw [mi_cell (by decide), mi_cell (by decide), o3 27 j (by decide), e.1 27 (by decide) (by decide), (dg j hj).1]
          show _ = nI (if j < n then gP (w.1 j) else w.1 j).1
          rw [if_pos hj]
          unfold gP
          split <;> rfl
        · rw [mi_cell (by decide), mi_cell (by decide), o3 28 j (by decide)]; exact (eg j hj).1
        · rw [mi_cell (by decide), mi_cell (by decide), o3 37 j (by decide)]; exact (eg j hj).2
        · rw [mi_cell (by decide), mi_cell (by decide), o3 38 t (by decide)]; exact e38 t ht
      by_cases h0 : csm (fun g => gR (w.1 g)) n = 0
      · have := fin 1 (by rw [if_pos h0])
        rw [if_pos h0]
        exact bq_t rfl this
      · have := fin 0 (by rw [if_neg h0])
        rw [if_neg h0]
        exact bq_f (by decide) this
    rw [o2 34 (by decide) (by decide), e.2 34 (by decide), d34]
    have keep : ¬ (w.2.2.2.2.1 = 0 ∧ 0 < csm (fun g => gO (w.1 g)) n) → R166 (nI (if csm (fun g => gR (w.1 g)) n = 0 then 0 else 1)) g2 := by
      intro hno
      refine c166 _ _ (last _ ?_)
      rw [o2 34 (by decide) (by decide), e.2 34 (by decide), d34, ef, if_neg hno]
    by_cases h1 : w.2.2.2.2.1 = 0
    · refine bq_nf (by rw [h1]; rfl) ?_
      by_cases h0 : csm (fun g => gO (w.1 g)) n = 0
      · exact bq_t (by rw [h0]; decide) (keep (by omega))
      · refine bq_f (nI_ge (a := 0) (by omega) (by omega)) (last _ ?_)
        rw [o2 30 (by decide) (by decide), e30, ef, if_pos ⟨h1, by omega⟩]
        unfold frI
        rw [if_neg (by omega)]
    · exact bq_nt (by unfold frI; rw [if_neg h1, nl_m1, nI_eqM (by omega)]; exact id) (keep (by omega))
  · rintro k g _ hk ⟨e, e30, eg, e38⟩ ih
    have ec : csm (fun g => gR (w.1 g)) (k + 1) = csm (fun g => gR (w.1 g)) k + (if gR (w.1 k) = true then 1 else 0) := rfl
    have eb : bsm (fun g => gO (w.1 g)) (k + 1) = bsm (fun g => gO (w.1 g)) k + (if gO (w.1 k) = true then 2 ^ k else 0) := rfl
    have gk := eg k hk
    rw [if_neg (Nat.lt_irrefl k)] at gk
    obtain ⟨k1, k2, k3, k4⟩ := K1 k hk
    have stay : gR (w.1 k) = false → R105 (nI (if csm (fun g => gR (w.1 g)) k = 0 then 0 else 1)) (nI k) g := by
      intro hr
      have ho : gO (w.1 k) = false := by
        unfold gR at hr
        unfold gO
        cases hl : (w.1 k).2.2.1
        · rw [hl] at hr
          simp at hr
          simp <;> omega
        · rfl
      refine c105 _ _ _ ?_
      rintro _ rfl
      rw [nI_1]
      have := ih g ⟨e, e30, fun j hj => ?_, fun t ht => ?_⟩
      · try dsimp only at this
        have ec0 : csm (fun g => gR (w.1 g)) (k + 1) = csm (fun g => gR (w.1 g)) k := by rw [ec, hr, if_neg (by decide), Nat.add_zero]
        rw [ec0] at this
        exact this
      · have h9 := eg j hj
        by_cases h8 : j = k
        · rw [h8, if_pos (by omega)]
          unfold gP
          rw [if_neg (by rw [hr]; decide)]
          exact gk
        · by_cases h7 : j < k
          · rw [if_pos h7] at h9; rw [if_pos (by omega)]; exact h9
          · rw [if_neg h7] at h9; rw [if_neg (by omega)]; exact h9
      · have eb0 : bsm (fun g => gO (w.1 g)) (k + 1) = bsm (fun g => gO (w.1 g)) k := by rw [eb, ho, if_neg (by decide), Nat.add_zero]
        rw [e38 t ht, eb0]
    refine c14 _ _ _ (bq_f (by rw [e.2 24 (by decide), d24]; exact nI_ge hk (by omega)) ?_)
    rw [e.2 31 (by decide), d31]
    have hbit : (wl w n).testBit k = (w.1 k).2.2.1 := by
      unfold wl
      rw [bsm_bit, decide_eq_true hk, Bool.true_and]
    refine lb_has (by unfold wl; omega) (by omega) (fun hb => bq_nt (by decide) (stay ?_)) (fun hb => bq_nf rfl ?_)
    · unfold gR; rw [← hbit, hb]; rfl
    · rw [hbit] at hb
      rw [nI_clamp (n := k) (by omega), gk.1]
      refine ⟨vp_in_nI (show k < 4 by omega) (by decide), ?_⟩
      by_cases h0 : (w.1 k).2.1 = 0
      · exact bq_t (by rw [h0]; decide) (stay (by unfold gR; rw [h0]; simp))
      · have hr : gR (w.1 k) = true := by unfold gR; rw [hb, decide_eq_true (by omega)]; rfl
        refine bq_f (nI_ge (a := 0) (by omega) (by omega)) ⟨vp_in_nI (show k < 4 by omega) (by decide), vp_in_nI (show k < 4 by omega) (by decide), ?_⟩
        rintro _ rfl
        rw [nl_1, pk_sub (by omega), mi_cell (c := 28) (d := 0) (by decide), e30, mi_same, nI_clamp (n := w.2.1 + 1) (by omega), mi_cell (c := 28) (d := 38) (by decide), e38 _ (by omega), if_pos rfl]
        refine ⟨vp_in_nI (show w.2.1 + 1 < 100 by omega) (by decide), vp_in_nI (show k < 4 by omega) (by decide), ?_⟩
        have flag : ∀ x, (nI (if csm (fun g => gR (w.1 g)) (k + 1) = 0 then 0 else 1)) = x → x = nI 1 := by
          rintro x rfl
          rw [ec, hr, if_pos rfl, if_neg (by omega)]
        have fin : ∀ u v : Nat, u = (if gO (w.1 k) = true then 2 ^ k else 0) → v = (if gO (w.1 k) = true then 1 else 0) → (∀ g9 : mg_H, g9 = mg_ui (mg_ui g 28 k (nI ((w.1 k).2.1 - 1))) 38 (w.2.1 + 1) (nI (bsm (fun g => gO (w.1 g)) k + u)) → R103 1 (nI k) (nI v) (nI (w.1 k).2.2.2) (nI k) g9) := by
          rintro u v rfl rfl g9 rfl
          refine c103 _ _ _ _ _ _ ⟨vp_in_nI (show k < 4 by omega) (by decide), ?_⟩
          rintro _ rfl
          rw [nI_add, nI_clamp (n := k) (by omega)]
          refine c105 _ _ _ ?_
          rintro _ rfl
          rw [nI_1]
          have := ih (mg_ui (mg_ui (mg_ui g 28 k (nI ((w.1 k).2.1 - 1))) 38 (w.2.1 + 1) (nI (bsm (fun g => gO (w.1 g)) k + (if gO (w.1 k) = true then 2 ^ k else 0)))) 37 k (nI ((w.1 k).2.2.2 + (if gO (w.1 k) = true then 1 else 0)))) ⟨((e.ui (by decide) (by decide)).ui (by decide) (by decide)).ui (by decide) (by decide), ?_, fun j hj => ?_, fun t ht => ?_⟩
          · try dsimp only at this
            rw [flag _ rfl] at this
            exact this
          · rw [mi_cell (by decide), mi_cell (by decide), mi_cell (by decide)]; exact e30
          · by_cases h8 : j = k
            · rw [h8, if_pos (show k < k + 1 by omega)]
              unfold gP
              rw [if_pos hr, mi_cell (c := 37) (d := 28) (by decide), mi_cell (c := 38) (d := 28) (by decide), mi_same, mi_same]
              refine ⟨rfl, ?_⟩
              have : gO (w.1 k) = decide ((w.1 k).2.1 = 1) := by unfold gO; rw [hb]; rfl
              rw [this]
              by_cases h6 : (w.1 k).2.1 = 1
              · rw [if_pos h6, decide_eq_true h6, if_pos rfl]
              · rw [if_neg h6, decide_eq_false h6, if_neg (by decide), Nat.add_zero]
            · rw [mi_cell (c := 37) (d := 28) (by decide), mi_cell (c := 38) (d := 28) (by decide), mi_place h8, mi_place h8, mi_cell (c := 38) (d := 37) (by decide), mi_cell (c := 28) (d := 37) (by decide)]
              have h9 := eg j hj
              by_cases h7 : j < k
              · rw [if_pos h7] at h9; rw [if_pos (by omega)]; exact h9
              · rw [if_neg h7] at h9; rw [if_neg (by omega)]; exact h9
          · rw [mi_cell (c := 37) (d := 38) (by decide)]
            by_cases h8 : t = w.2.1 + 1
            · rw [h8, mi_same, if_pos rfl, eb]
            · rw [mi_place h8, mi_cell (c := 28) (d := 38) (by decide), e38 t ht, if_neg h8, if_neg h8]
        have hor : nI (bsm (fun g => gO (w.1 g)) k) ||| nI (2 ^ k) = nI (bsm (fun g => gO (w.1 g)) k + 2 ^ k) := bsm_or (by omega)
        have g37 : ∀ v : Int32, mg_i (mg_ui (mg_ui g 28 k (nI ((w.1 k).2.1 - 1))) 38 (w.2.1 + 1) v) 37 k = nI (w.1 k).2.2.2 := fun v => by rw [mi_cell (by decide), mi_cell (by decide)]; exact gk.2
        have g28 : ∀ v : Int32, mg_i (mg_ui (mg_ui g 28 k (nI ((w.1 k).2.1 - 1))) 38 (w.2.1 + 1) v) 28 k = nI ((w.1 k).2.1 - 1) := fun v => by rw [mi_cell (by decide), mi_same]
        have hoe : gO (w.1 k) = decide ((w.1 k).2.1 = 1) := by unfold gO; rw [hb]; rfl
        by_cases h6 : (w.1 k).2.1 = 1
        · have ho : gO (w.1 k) = true := by rw [hoe, decide_eq_true h6]
          refine bq_nf (by rw [h6]; rfl) (c80 _ _ _ _ _ _ ⟨vp_in_nI (show w.2.1 + 1 < 100 by omega) (by decide), ?_⟩)
          have bI : nI 1 <<< (nI k &&& 31) = nI (2 ^ k) := bit_I (by omega)
          rw [bI, hor, nI_clamp (n := w.2.1 + 1) (by omega)]
          rintro _ rfl
          rw [nI_clamp (n := k) (by omega), g37, g28]
          refine ⟨vp_in_nI (show k < 4 by omega) (by decide), vp_in_nI (show k < 4 by omega) (by decide), bq_nf (by rw [h6]; rfl) (fin (2 ^ k) 1 (by rw [ho, if_pos rfl]) (by rw [ho, if_pos rfl]) _ rfl)⟩
        · have ho : gO (w.1 k) = false := by rw [hoe, decide_eq_false h6]
          have h5 : ¬ nI ((w.1 k).2.1 - 1) = 0 := fun c => by
            have := (nI_eq (b := 0) (by omega) (by decide)).mp c
            omega
          refine bq_nt h5 (c80 _ _ _ _ _ _ ⟨vp_in_nI (show w.2.1 + 1 < 100 by omega) (by decide), ?_⟩)
          rw [nl_0, fa_or, Nat.or_zero, nI_clamp (n := w.2.1 + 1) (by omega)]
          rintro _ rfl
          rw [nI_clamp (n := k) (by omega), g37, g28]
          refine ⟨vp_in_nI (show k < 4 by omega) (by decide), vp_in_nI (show k < 4 by omega) (by decide), bq_nt h5 (fin 0 0 (by rw [ho, if_neg (by decide)]) (by rw [ho, if_neg (by decide)]) _ rfl)⟩
  · rw [if_neg (Nat.not_lt_zero j), mi_cell (by decide), mi_cell (by decide)]
    exact (dg j hj).2
  · rw [mi_cell (by decide), d38 t ht]
    by_cases h8 : t = w.2.1 + 1
    · rw [if_pos h8, h8, K8 _ (by omega)]; rfl
    · rw [if_neg h8]
