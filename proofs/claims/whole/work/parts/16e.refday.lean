/-! the reference: deeds, days -/
theorem wl_lt {w : wS} {n : Nat} (hn : n ≤ 4) : wl w n < 16 := Nat.lt_of_lt_of_le (bsm_lt _ n) (pow_n hn)
theorem msk_I : ∀ L, L < 16 → ∀ y, y < 4 → nI L &&& (nI (2 ^ y) ^^^ (-1)) = nI (L &&& (15 ^^^ 2 ^ y)) := by decide +kernel
theorem msk_b : ∀ L, L < 16 → ∀ y, y < 4 → ∀ i, i < 4 → (L &&& (15 ^^^ 2 ^ y)).testBit i = (L.testBit i && !decide (i = y)) := by decide +kernel
def lD : List Nat := [30, 31, 32, 33, 34, 35, 36]
theorem DR.m24 {g g' : mg_H} {n : Nat} {w : wS} (D : DR g n w) (h : mg_i g' 0 24 = nI n) (a30 : mg_i g' 0 30 = mg_i g 0 30) : mg_i g' 0 30 = nI w.2.1 := a30.trans D.2.1
theorem sp_doesW {Q : Int32 → mg_H → Prop} {h : mg_H} {n d kd y : Nat} {w : wS} (D : DR h n w) (K : wK n d w) (hd : d < 1000) (hkd : kd ≤ 4) (hy : y < 1000) (q : ∀ h', md [27, 28, 37, 38] lD h h' → DR h' n (wD n kd y w).2 → Q (lt32 (wD n kd y w).1) h') : wp_does Q (nI kd) (nI y) h := by
  have D0 := D
  obtain ⟨d24, d30, d32, d33, d34, d35, d36, d31, dg, d38⟩ := D
  have hn4 := K.1
  have hm99 := K.2.2.1
  have hlt := wl_lt (w := w) hn4
  unfold wp_does
  intro R36 R46 c36 c46
  have e1 : nI kd = 1 ↔ kd = 1 := nI_eq (b := 1) (by omega) (by decide)
  have e2 : nI kd = 2 ↔ kd = 2 := nI_eq (b := 2) (by omega) (by decide)
  have e3 : nI kd = 3 ↔ kd = 3 := nI_eq (b := 3) (by omega) (by decide)
  have e4 : nI kd = 4 ↔ kd = 4 := nI_eq (b := 4) (by omega) (by decide)
  unfold wD at q
  by_cases hk : kd = 0
  · rw [if_pos hk] at q
    refine bq_nf (by rw [hk]; rfl) ?_
    unfold wp_waits
    intro R15 c15
    rw [d30, nI_add]
    by_cases h9 : w.2.1 + y ≤ 99
    · rw [if_pos h9] at q
      refine bq_t (nI_le (b := 99) h9 (by decide)) ?_
      refine lp (σ := mg_H) (R := fun j s => R15 (nI j) s) (fun j s => md [27, 28, 37, 38] lD h s ∧ DR s n (wI n w j)) 0 y (Nat.zero_le y) ?_ ?_ h ⟨md.rf, D0⟩
      · rintro s ⟨e, Ds⟩
        exact c15 _ _ (bq_t (nI_le (Nat.le_refl y) (by omega)) ⟨Or.inr rfl, q s e Ds⟩)
      · rintro j s _ hj ⟨e, Ds⟩ ih
        refine c15 _ _ (bq_f (nI_ge hj (by omega)) ?_)
        refine sp_goByW Ds (wI_K K j (by omega)) (by rw [wI_m]; omega) (fun s2 e2 D2 => ?_)
        rintro _ rfl
        rw [nI_1]
        exact ih s2 ⟨e.tr (e2.mono (by simp) (by unfold lD; simp)), D2⟩
    · rw [if_neg h9] at q
      exact bq_f (nI_ge (a := 99) (by omega) (by omega)) ⟨Or.inl rfl, q h md.rf D0⟩
  · rw [if_neg hk] at q
    refine bq_nt (fun c => hk ((nI_eq (b := 0) (by omega) (by decide)).mp c)) ?_
    by_cases hyn : y < n
    · refine sp_isGlass d24 (fun _ _ => bq_f (by decide) ?_) (fun c => absurd (mp_rngI (by omega) hyn) c)
      rw [d31]
      have hbit : (wl w n).testBit y = (w.1 y).2.2.1 := by unfold wl; rw [bsm_bit, decide_eq_true hyn, Bool.true_and]
      obtain ⟨k1, k2, k3, k4⟩ := K.2.1 y hyn
      have dy := dg y hyn
      have no : gM kd (w.1 y) = false → Q 0 h := by
        intro hm
        rw [if_neg (fun c => by rw [hm] at c; cases c.2)] at q
        exact q h md.rf D0
      -- the deed itself
      have ht : (wA kd y w).2.2.2.1 = if kd = 1 then w.2.2.2.1 + 1 else w.2.2.2.1 := rfl
      have hg : ∀ j, (wA kd y w).1 j = if j = y then gA kd (w.1 y) else w.1 j := fun _ => rfl
      have act : (kd = 4 ∨ gM kd (w.1 y) = true) → R46 h := by
        intro hm
        refine c46 _ ⟨fun c => ?_, fun c => ?_, fun c => ?_, fun n1 n2 n3 => ?_⟩
        · have c := e1.mp c
          have hm : gM kd (w.1 y) = true := hm.elim (fun h => by omega) id
          rw [if_pos ⟨hyn, hm⟩] at q
          refine ⟨vp_in_nI (show y < 4 by omega) (by decide), vp_in_nI (show y < 4 by omega) (by decide), vp_in_nI (show y < 4 by omega) (by decide), ?_⟩
          rw [nI_clamp (n := y) (by omega), dy.1, dy.2.1, pk_sub k3]
          rintro _ rfl
          rw [mi_cell (by decide), d33, nI_1]
          rintro _ rfl
          refine q _ ((md.ui md.rf (by decide) (by decide)).u0 (by decide)) ⟨?_, ?_, ?_, ?_, ?_, ?_, ?_, ?_, fun j hj => ⟨?_, ?_, ?_⟩, fun t h9 => ?_⟩
          · rw [mi_place (by decide), mi_cell (by decide)]; exact d24
          · rw [mi_place (by decide), mi_cell (by decide)]; exact d30
          · rw [mi_place (by decide), mi_cell (by decide)]; exact d32
          · rw [mi_same, ht, if_pos c]
          · rw [mi_place (by decide), mi_cell (by decide)]; exact d34
          · rw [mi_place (by decide), mi_cell (by decide)]; exact d35
          · rw [mi_place (by decide), mi_cell (by decide)]; exact d36
          · rw [mi_place (by decide), mi_cell (by decide), d31]
            unfold wl
            rw [bsm_congr n (fun i hi => ?_)]
            rw [hg i]
            by_cases h9 : i = y
            · rw [if_pos h9, h9]; unfold gA; rw [if_pos c]
            · rw [if_neg h9]
          · rw [mi_cell (by decide), mi_cell (by decide), hg j, (dg j hj).1]
            by_cases h9 : j = y
            · rw [if_pos h9, h9]; unfold gA; rw [if_pos c]
            · rw [if_neg h9]
          · rw [mi_cell (by decide), hg j]
            by_cases h9 : j = y
            · rw [if_pos h9, h9, mi_same]; unfold gA; rw [if_pos c]
            · rw [if_neg h9, mi_place h9]; exact (dg j hj).2.1
          · rw [mi_cell (by decide), mi_cell (by decide), hg j, (dg j hj).2.2]
            by_cases h9 : j = y
            · rw [if_pos h9, h9]; unfold gA; rw [if_pos c]
            · rw [if_neg h9]
          · rw [mi_cell (by decide), mi_cell (by decide)]; exact d38 t h9
        · have c := e2.mp c
          have hm : gM kd (w.1 y) = true := hm.elim (fun h => by omega) id
          rw [if_pos ⟨hyn, hm⟩] at q
          rw [d31, bit_I (by omega), fa_or]
          rintro _ rfl
          refine q _ (md.u0 md.rf (by decide)) ⟨?_, ?_, ?_, ?_, ?_, ?_, ?_, ?_, fun j hj => ⟨?_, ?_, ?_⟩, fun t h9 => ?_⟩
          · rw [mi_place (by decide)]; exact d24
          · rw [mi_place (by decide)]; exact d30
          · rw [mi_place (by decide)]; exact d32
          · rw [mi_place (by decide), ht, if_neg (by omega)]; exact d33
          · rw [mi_place (by decide)]; exact d34
          · rw [mi_place (by decide)]; exact d35
          · rw [mi_place (by decide)]; exact d36
          · rw [mi_same]
            refine congrArg nI (bsm_eq (fun i => ?_))
            rw [Nat.testBit_or, Nat.testBit_two_pow, hg i]
            unfold wl
            rw [bsm_bit]
            by_cases h9 : i = y
            · rw [if_pos h9, h9, decide_eq_true hyn]
              unfold gA
              rw [if_neg (by omega), if_pos c]
              simp
            · rw [if_neg h9, decide_eq_false (show ¬ y = i from fun h => h9 h.symm), Bool.or_false]
          · rw [mi_cell (by decide), hg j, (dg j hj).1]
            by_cases h9 : j = y
            · rw [if_pos h9, h9]; unfold gA; rw [if_neg (by omega), if_pos c]
            · rw [if_neg h9]
          · rw [mi_cell (by decide), hg j, (dg j hj).2.1]
            by_cases h9 : j = y
            · rw [if_pos h9, h9]; unfold gA; rw [if_neg (by omega), if_pos c]
            · rw [if_neg h9]
          · rw [mi_cell (by decide), hg j, (dg j hj).2.2]
            by_cases h9 : j = y
            · rw [if_pos h9, h9]; unfold gA; rw [if_neg (by omega), if_pos c]
            · rw [if_neg h9]
          · rw [mi_cell (by decide)]; exact d38 t h9
        · have c := e3.mp c
          have hm : gM kd (w.1 y) = true := hm.elim (fun h => by omega) id
          rw [if_pos ⟨hyn, hm⟩] at q
          rw [d31, bit_I (by omega), msk_I _ hlt y (by omega)]
          rintro _ rfl
          refine q _ (md.u0 md.rf (by decide)) ⟨?_, ?_, ?_, ?_, ?_, ?_, ?_, ?_, fun j hj => ⟨?_, ?_, ?_⟩, fun t h9 => ?_⟩
          · rw [mi_place (by decide)]; exact d24
          · rw [mi_place (by decide)]; exact d30
          · rw [mi_place (by decide)]; exact d32
          · rw [mi_place (by decide), ht, if_neg (by omega)]; exact d33
          · rw [mi_place (by decide)]; exact d34
          · rw [mi_place (by decide)]; exact d35
          · rw [mi_place (by decide)]; exact d36
          · rw [mi_same]
            refine congrArg nI (bsm_eq (fun i => ?_))
            rw [hg i]
            rcases Nat.lt_or_ge i 4 with h8 | h8
            · rw [msk_b _ hlt y (by omega) i h8]
              unfold wl
              rw [bsm_bit]
              by_cases h9 : i = y
              · rw [if_pos h9, h9]
                unfold gA
                rw [if_neg (by omega), if_neg (by omega), if_pos c]
                simp
              · rw [if_neg h9, decide_eq_false h9]
                simp
            · have h7 : wl w n &&& (15 ^^^ 2 ^ y) < 2 ^ i := Nat.lt_of_le_of_lt Nat.and_le_left (Nat.lt_of_lt_of_le hlt (Nat.le_trans (by decide : 16 ≤ 2 ^ 4) (Nat.pow_le_pow_right (by decide) h8)))
              rw [Nat.testBit_lt_two_pow h7, decide_eq_false (by omega), Bool.false_and]
          · rw [mi_cell (by decide), hg j, (dg j hj).1]
            by_cases h9 : j = y
            · rw [if_pos h9, h9]; unfold gA; rw [if_neg (by omega), if_neg (by omega), if_pos c]
            · rw [if_neg h9]
          · rw [mi_cell (by decide), hg j, (dg j hj).2.1]
            by_cases h9 : j = y
            · rw [if_pos h9, h9]; unfold gA; rw [if_neg (by omega), if_neg (by omega), if_pos c]
            · rw [if_neg h9]
          · rw [mi_cell (by decide), hg j, (dg j hj).2.2]
            by_cases h9 : j = y
            · rw [if_pos h9, h9]; unfold gA; rw [if_neg (by omega), if_neg (by omega), if_pos c]
            · rw [if_neg h9]
          · rw [mi_cell (by decide)]; exact d38 t h9
        · have c : kd = 4 := by
            have h1 : ¬ kd = 1 := fun h => n1 (e1.mpr h)
            have h2 : ¬ kd = 2 := fun h => n2 (e2.mpr h)
            have h3 : ¬ kd = 3 := fun h => n3 (e3.mpr h)
            omega
          have egm : gM kd (w.1 y) = decide ((w.1 y).2.1 < (w.1 y).1 ∧ 1 < (w.1 y).1) := by unfold gM; rw [if_neg (by omega), if_neg (by omega), if_pos c]
          rw [nI_clamp (n := y) (by omega), dy.1, dy.2.1]
          refine ⟨vp_in_nI (show y < 4 by omega) (by decide), ?_⟩
          by_cases h1 : (w.1 y).1 = 1
          · exact bq_t (by rw [h1]; rfl) (no (by rw [egm, decide_eq_false (by omega)]))
          · refine bq_f (fun c9 => h1 ((nI_eq (b := 1) (by omega) (by decide)).mp c9)) ⟨vp_in_nI (show y < 4 by omega) (by decide), vp_in_nI (show y < 4 by omega) (by decide), ?_⟩
            by_cases h2 : (w.1 y).2.1 = (w.1 y).1
            · exact bq_nf (by rw [h2]) (no (by rw [egm, decide_eq_false (by omega)]))
            · have hm : gM kd (w.1 y) = true := by rw [egm, decide_eq_true (by omega)]
              rw [if_pos ⟨hyn, hm⟩] at q
              refine bq_nt (fun c9 => h2 ((nI_eq (by omega) (by omega)).mp c9)) ⟨vp_in_nI (show y < 4 by omega) (by decide), vp_in_nI (show y < 4 by omega) (by decide), ?_⟩
              rw [nl_1, pk_sub k1]
              rintro _ rfl
              refine q _ (md.ui md.rf (by decide) (by decide)) ⟨?_, ?_, ?_, ?_, ?_, ?_, ?_, ?_, fun j hj => ⟨?_, ?_, ?_⟩, fun t h9 => ?_⟩
              · rw [mi_cell (by decide)]; exact d24
              · rw [mi_cell (by decide)]; exact d30
              · rw [mi_cell (by decide)]; exact d32
              · rw [mi_cell (by decide), ht, if_neg (by omega)]; exact d33
              · rw [mi_cell (by decide)]; exact d34
              · rw [mi_cell (by decide)]; exact d35
              · rw [mi_cell (by decide)]; exact d36
              · rw [mi_cell (by decide), d31]
                unfold wl
                rw [bsm_congr n (fun i hi => ?_)]
                rw [hg i]
                by_cases h9 : i = y
                · rw [if_pos h9, h9]; unfold gA; rw [if_neg (by omega), if_neg (by omega), if_neg (by omega), if_pos c]
                · rw [if_neg h9]
              · rw [hg j]
                by_cases h9 : j = y
                · rw [if_pos h9, h9, mi_same]; unfold gA; rw [if_neg (by omega), if_neg (by omega), if_neg (by omega), if_pos c]
                · rw [if_neg h9, mi_place h9]; exact (dg j hj).1
              · rw [mi_cell (by decide), hg j, (dg j hj).2.1]
                by_cases h9 : j = y
                · rw [if_pos h9, h9]; unfold gA; rw [if_neg (by omega), if_neg (by omega), if_neg (by omega), if_pos c]
                · rw [if_neg h9]
              · rw [mi_cell (by decide), hg j, (dg j hj).2.2]
                by_cases h9 : j = y
                · rw [if_pos h9, h9]; unfold gA; rw [if_neg (by omega), if_neg (by omega), if_neg (by omega), if_pos c]
                · rw [if_neg h9]
              · rw [mi_cell (by decide)]; exact d38 t h9
      have jn : ∀ s1 s0 : Int32, ((s1 = s0) ↔ ((kd = 1 ∨ kd = 2) ∧ (w.1 y).2.2.1 = false) ∨ (kd = 3 ∧ (w.1 y).2.2.1 = true) ∨ (kd = 4 ∧ (w.1 y).2.2.1 = false)) → R36 s0 s1 h := by
        intro s1 s0 hs
        refine c36 _ _ _ ⟨fun c => act ?_, fun c => ⟨fun c4 => act (Or.inl (e4.mp c4)), fun c4 => no ?_⟩⟩
        · rcases hs.mp c with ⟨h1, h2⟩ | ⟨h1, h2⟩ | ⟨h1, _⟩
          · refine Or.inr ?_
            unfold gM; rw [if_pos h1, h2]; rfl
          · refine Or.inr ?_
            unfold gM; rw [if_neg (by omega), if_pos h1]; exact h2
          · exact Or.inl h1
        · have h4 : ¬ kd = 4 := fun h => c4 (e4.mpr h)
          unfold gM
          by_cases h12 : kd = 1 ∨ kd = 2
          · rw [if_pos h12]
            cases hl : (w.1 y).2.2.1
            · exact absurd (hs.mpr (Or.inl ⟨h12, hl⟩)) c
            · rfl
          · rw [if_neg h12, if_pos (by omega)]
            cases hl : (w.1 y).2.2.1
            · rfl
            · exact absurd (hs.mpr (Or.inr (Or.inl ⟨by omega, hl⟩))) c
      refine lb_has (by omega) (by omega) (fun hb => ?_) (fun hb => ?_)
      · rw [hbit] at hb
        refine ⟨fun c => jn _ _ ⟨fun h9 => absurd h9 (by decide), fun h9 => ?_⟩, fun c => jn _ _ ⟨fun _ => Or.inr (Or.inl ⟨e3.mp c, hb⟩), fun _ => rfl⟩⟩
        rcases h9 with ⟨_, h8⟩ | ⟨h8, _⟩ | ⟨_, h8⟩
        · rw [hb] at h8; cases h8
        · exact absurd (e3.mpr h8) c
        · rw [hb] at h8; cases h8
      · rw [hbit] at hb
        refine ⟨fun c => jn _ _ ⟨fun _ => ?_, fun _ => rfl⟩, fun c => jn _ _ ⟨fun h9 => absurd h9 (by decide), fun h9 => ?_⟩⟩
        · have h3 : ¬ kd = 3 := fun h => c (e3.mpr h)
          by_cases h4 : kd = 4
          · exact Or.inr (Or.inr ⟨h4, hb⟩)
          · exact Or.inl ⟨by omega, hb⟩
        · have c := e3.mp c
          rcases h9 with ⟨h8, _⟩ | ⟨_, h8⟩ | ⟨h8, _⟩
          · omega
          · rw [hb] at h8; cases h8
          · omega
    · rw [if_neg (fun c => hyn c.1)] at q
      refine sp_isGlass d24 (fun a b => ?_) (fun _ => bq_t rfl (q h md.rf D0))
      obtain ⟨k9, h1, h2⟩ := mp_rng (m := n) (by omega) a b
      have := (nI_eq (a := y) (b := k9) (by omega) (by omega)).mp h2
      omega
/-- the row of a day -/
def DY (p : Nat → Nat → Int32) (o m : Nat) (kd yy : Nat → Nat) : Prop := m ≤ 40 ∧ p 7 (81 * o) = nI m ∧ ∀ j, j < m → p 7 (81 * o + (1 + 2 * j + 0)) = nI (kd j) ∧ p 7 (81 * o + (1 + 2 * j + 1)) = nI (yy j) ∧ kd j ≤ 4 ∧ yy j ≤ 9
theorem sp_playW {Q : Int32 → mg_H → Prop} {h : mg_H} {n o m k : Nat} {w : wS} {kd yy : Nat → Nat} (D : DR h n w) (K : wK n 0 w) (h29 : mg_i h 0 29 = nI o) (ho : o < 2) (Y : DY (mg_i h) o m kd yy) (hk : k ≤ m) (q : ∀ j h', md [27, 28, 37, 38] lD h h' → wE n kd yy w k j → DR h' n (wT n kd yy w j) → Q (nI j) h') : wp_play Q (nI k) h := by
  have hm40 := Y.1
  unfold wp_play
  intro R2 c2
  refine lp (σ := mg_H) (R := fun j s => R2 (nI j) s) (fun j s => md [27, 28, 37, 38] lD h s ∧ (∀ i, i < j → wG n kd yy w i = true) ∧ DR s n (wT n kd yy w j)) 0 k (Nat.zero_le k) ?_ ?_ h ⟨md.rf, fun i hi => absurd hi (Nat.not_lt_zero i), D⟩
  · rintro s ⟨e, hg, Ds⟩
    exact c2 _ _ (bq_t (nI_le (Nat.le_refl k) (by omega)) (q k s e ⟨Nat.le_refl k, hg, Or.inl rfl⟩ Ds))
  · rintro j s _ hj ⟨e, hg, Ds⟩ ih
    have e29 : mg_i s 0 29 = nI o := (e.2 29 (by decide)).trans h29
    have Yj := Y.2.2 j (by omega)
    refine c2 _ _ (bq_f (nI_ge hj (by omega)) ?_)
    unfold wp_doesDeed
    refine sp_deedOf (d := o) (k := j) (w := 0) (by omega) (by omega) (by decide) e29 ?_
    refine sp_deedOf (d := o) (k := j) (w := 1) (by omega) (by omega) (by decide) e29 ?_
    rw [e.1 7 (by decide) (by decide), e.1 7 (by decide) (by decide), Yj.1, Yj.2.1]
    refine sp_doesW (d := 0 + j) Ds (wT_K K j) (by omega) Yj.2.2.1 (by omega) (fun s2 e2 D2 => ?_)
    cases hw : (wD n (kd j) (yy j) (wT n kd yy w j)).1
    · refine ⟨Or.inl rfl, bq_t rfl (q j s2 (e.tr e2) ⟨by omega, hg, Or.inr hw⟩ ?_)⟩
      rw [wD_no hw] at D2
      exact D2
    · refine ⟨Or.inr rfl, bq_f (by decide) ?_⟩
      rintro _ rfl
      rw [nI_1]
      refine ih s2 ⟨e.tr e2, fun i hi => ?_, D2⟩
      rcases Nat.lt_or_ge i j with h9 | h9
      · exact hg i h9
      · rw [show i = j by omega]; exact hw
theorem sp_beginDayW {Q : mg_H → Prop} {h : mg_H} {n : Nat} {z t : Nat → Nat} (hn : n ≤ 4) (h24 : mg_i h 0 24 = nI n) (h27 : ∀ j, j < 4 → mg_i h 27 j = nI (z j)) (h28 : ∀ j, j < 4 → mg_i h 28 j = nI (t j)) (q : ∀ h', md [37, 38] lD h h' → DR h' n (w0 z t) → Q h') : wp_beginDay Q h := by
  refine sp_beginDay ?_
  have e1 : md [37, 38] lD h (mg_ui (mg_ui (mg_ui (mg_ui (mg_ui (mg_ui (mg_ui h 0 30 0) 0 31 0) 0 32 0) 0 33 0) 0 34 (-1)) 0 35 0) 0 36 0) := ((((((md.rf.u0 (by decide)).u0 (by decide)).u0 (by decide)).u0 (by decide)).u0 (by decide)).u0 (by decide)).u0 (by decide)
  obtain ⟨g, eg⟩ : ∃ g, g = mg_ui (mg_ui (mg_ui (mg_ui (mg_ui (mg_ui (mg_ui h 0 30 0) 0 31 0) 0 32 0) 0 33 0) 0 34 (-1)) 0 35 0) 0 36 0 := ⟨_, rfl⟩
  have ed : mp_day0 h = mp_fill (mp_fill g 37 0 4) 38 0 100 := by rw [eg]; rfl
  rw [← eg] at e1
  have fl : ∀ c j, mg_i (mp_fill (mp_fill g 37 0 4) 38 0 100) c j = if c = 38 ∧ j < 100 then 0 else if c = 37 ∧ j < 4 then 0 else mg_i g c j := fun c j => by rw [mp_fill_i, mp_fill_i]
  have o0 : ∀ j, mg_i (mp_fill (mp_fill g 37 0 4) 38 0 100) 0 j = mg_i g 0 j := fun j => by rw [fl, if_neg (by simp), if_neg (by simp)]
  have hwl : wl (w0 z t) n = 0 := by
    unfold wl
    exact (bsm_eq (p := fun g => ((w0 z t).1 g).2.2.1) (n := n) (B := 0) (fun i => by rw [Nat.zero_testBit]; simp [w0])).symm
  rw [ed]
  refine q _ ⟨fun c h0 hc j => ?_, fun j hj => (o0 j).trans (e1.2 j hj)⟩ ⟨?_, ?_, ?_, ?_, ?_, ?_, ?_, ?_, fun j hj => ⟨?_, ?_, ?_⟩, fun t' ht => ?_⟩
  · rw [fl, if_neg (fun c9 => hc (by rw [c9.1]; simp)), if_neg (fun c9 => hc (by rw [c9.1]; simp))]
    exact e1.1 c h0 hc j
  · rw [o0, e1.2 24 (by decide)]; exact h24
  · rw [o0, eg]; rfl
  · rw [o0, eg]; rfl
  · rw [o0, eg]; rfl
  · rw [o0, eg]; rfl
  · rw [o0, eg]; rfl
  · rw [o0, eg]; rfl
  · rw [o0, hwl, eg]; rfl
  · rw [fl, if_neg (by simp), if_neg (by simp), e1.1 27 (by decide) (by decide)]; exact h27 j (by omega)
  · rw [fl, if_neg (by simp), if_neg (by simp), e1.1 28 (by decide) (by decide)]; exact h28 j (by omega)
  · rw [fl, if_neg (by simp), if_pos ⟨rfl, by omega⟩]; rfl
  · rw [fl, if_pos ⟨rfl, by omega⟩]; rfl
