/-! the reference: the lines of each sort -/
theorem tk_n {s w n v0 v1 : Nat} {D : dS} (w1 : w ≠ 1) : tkD s w n v0 v1 D = (fun q => if q = n then tk1 s w v0 v1 else D.1 q, fun q => if q = n then tk2 s w v0 v1 else D.2.1 q, D.2.2) := if_neg w1
theorem lnN_n {w n : Nat} (w1 : w ≠ 1) : lnN w n = n + 1 := if_neg w1
theorem min_s {r n : Nat} : min r (min r n + 1) = min r (n + 1) := by omega
theorem lsr_I {a b : Nat} (ha : a < 2 ^ 31) (hb : b < 2 ^ 31) : (if nI b ≤ nI a then nI b else nI a) = nI (min a b) := by
  by_cases g : b ≤ a
  · rw [if_pos (nI_le g ha), Nat.min_eq_right g]
  · rw [if_neg (nI_ge (by omega) hb), Nat.min_eq_left (by omega)]
theorem TK.ui {g : mg_H} {L b c j : Nat} {f : Nat → Nat} {v : Int32} (K : TK g L f b) (hc : c ≠ 0) : TK (mg_ui g c j v) L f b := by
  have e : ∀ p, mg_i (mg_ui g c j v) 0 p = mg_i g 0 p := fun p => mi_cell (Ne.symm hc)
  simp only [TK, e, ml_ui] at K ⊢
  exact K
theorem TK.u0 {g : mg_H} {L b j : Nat} {f : Nat → Nat} {v : Int32} (K : TK g L f b) (hj : 14 < j) : TK (mg_ui g 0 j v) L f b := by
  have e : ∀ p, p ≤ 14 → mg_i (mg_ui g 0 j v) 0 p = mg_i g 0 p := fun p hp => mi_place (by omega)
  simp only [TK, e 12 (by decide), e 13 (by decide), e 10 (by decide), e 14 (by decide), ml_ui] at K ⊢
  exact K
theorem RT_0 {g : mg_H} {s n : Nat} {D : dS} {v : Int32} (a : RT g s n D) : RT (mg_ui g 19 0 v) s n D := by
  obtain ⟨a1, a2, a3⟩ := a
  have E : ∀ j, j ≠ 0 → mg_i (mg_ui g 19 0 v) 19 j = mg_i g 19 j := fun j hj => mi_place hj
  have E2 : mg_i (mg_ui g 19 0 v) 0 21 = mg_i g 0 21 := mi_cell (by decide)
  refine ⟨fun c => ?_, fun c q hq => ?_, fun c q hq => ?_⟩
  · obtain ⟨b1, b2, b3, b4⟩ := a1 c
    refine ⟨fun q hq => by rw [E _ (by omega), E _ (by omega)]; exact b1 q hq, fun x hx => by rw [E _ (by omega)]; exact b2 x hx, b3, ?_⟩
    rw [E2]; exact b4
  · rw [E _ (by omega), E _ (by omega)]; exact a2 c q hq
  · rw [E _ (by omega)]; exact a3 c q hq
theorem RT_g {g : mg_H} {n : Nat} {D : dS} {a b : Int32} (hn : n < 4) (R : RT g 0 n D) : RT (mg_ui (mg_ui g 19 (1 + n) a) 19 (5 + n) b) 0 (n + 1) (fun q => if q = n then a else D.1 q, fun q => if q = n then b else D.2.1 q, D.2.2) := by
  obtain ⟨b1, b2, b3, b4⟩ := R.1 rfl
  refine ⟨fun _ => ⟨fun q hq => ?_, fun x hx => ?_, b3, ?_⟩, fun c => by omega, fun c => by omega⟩
  · show _ = (if q = n then a else D.1 q) ∧ _ = (if q = n then b else D.2.1 q)
    by_cases e : q = n
    · rw [if_pos e, if_pos e, e, mi_place (by omega), mi_same, mi_same]
      exact ⟨rfl, rfl⟩
    · rw [if_neg e, if_neg e, mi_place (by omega), mi_place (by omega), mi_place (by omega), mi_place (by omega)]
      exact b1 q (by omega)
  · rw [mi_place (by omega), mi_place (by omega)]; exact b2 x hx
  · rw [mi_cell (by decide), mi_cell (by decide)]; exact b4
theorem RT_k {g : mg_H} {s n : Nat} {D : dS} {a b : Int32} (hs : s = 1 ∨ s = 2) (R : RT g s n D) : RT (mg_ui (mg_ui g 19 (1 + 2 * n) a) 19 (2 + 2 * n) b) s (n + 1) (fun q => if q = n then a else D.1 q, fun q => if q = n then b else D.2.1 q, D.2.2) := by
  have b1 := R.2.1 hs
  refine ⟨fun c => by omega, fun _ q hq => ?_, fun c => by omega⟩
  show _ = (if q = n then a else D.1 q) ∧ _ = (if q = n then b else D.2.1 q)
  by_cases e : q = n
  · rw [if_pos e, if_pos e, e, mi_place (by omega), mi_same, mi_same]
    exact ⟨rfl, rfl⟩
  · rw [if_neg e, if_neg e, mi_place (by omega), mi_place (by omega), mi_place (by omega), mi_place (by omega)]
    exact b1 q (by omega)
theorem RT_o {g : mg_H} {n : Nat} {D : dS} {a b : Int32} (R : RT g 3 n D) : RT (mg_ui g 19 (1 + n) a) 3 (n + 1) (fun q => if q = n then a else D.1 q, fun q => if q = n then b else D.2.1 q, D.2.2) := by
  have b1 := R.2.2 rfl
  refine ⟨fun c => by omega, fun c => by omega, fun _ q hq => ?_⟩
  show _ = (if q = n then a else D.1 q)
  by_cases e : q = n
  · rw [if_pos e, e, mi_same]
  · rw [if_neg e, mi_place (by omega)]
    exact b1 q (by omega)
/-- told[0] is counted up, then the line is read -/
theorem fin_line {Q : Int32 → mg_H → Prop} {h s : mg_H} {f : Nat → Nat} {L t w p n r : Nat} {u : fS} {D : dS} (hr : r = xt_room t) (hr4 : r ≤ 40) (w1 : w ≠ 1) (e : md [19, 20] sT h s) (K : TK s L f (lP3 f L w p)) (F : LF s (lUw f L t w p n u)) (d : (lUw f L t w p n u).1 = 0 → RT s t (n + 1) (tkD t w n (lV0 f L p) (lV1 f L p) D)) (q1 : ∀ h', LK2 h h' f L t w p n u D → Q 1 h') : wp_lesser (fun r13 h12 => vp_in 0 (mg_len 19) ∧ (∀ h14 : mg_H, h14 = mg_ui h12 19 (0 : Int32).toNatClampNeg r13 → Q 1 h14)) (nI r) (nI (min r n) + 1) s := by
  rw [nI_1]
  refine sp_lesser ?_
  have e7 : (if nI (min r n + 1) ≤ nI r then nI (min r n + 1) else nI r) = nI (min r (n + 1)) := by
    rw [← min_s]; exact lsr_I (by omega) (by omega)
  rw [e7]
  refine ⟨mp_in0 (by decide) (by decide), ?_⟩
  rintro _ rfl
  refine q1 _ ⟨md.ui e (by decide) (by decide), K.ui (by decide), F.mv (md.ui (md.rf (L := [19]) (S := [])) (by decide) (by decide)) (by decide) (by decide), ?_, fun c => ?_⟩
  · rw [lnN_n w1, ← hr]; exact mi_same
  · rw [lnN_n w1]; exact RT_0 (d c)
theorem sp_glassLine {Q : Int32 → mg_H → Prop} {h : mg_H} {f : Nat → Nat} {L p n : Nat} {u : fS} {D : dS} (C : LnC h f L 0 p n u D) (hw : lW f L 0 p = 0) (q0 : ∀ h' b, md [19, 20] sT h h' → mg_i h' 0 16 = nI b → lBr f L 0 p = some b → Q 0 h') (q1 : ∀ h', nok f L (lP0 f L p) = true → (kwN (lW f L 0 p) = 2 → nok f L (lP1 f L p) = true) → LK2 h h' f L 0 (lW f L 0 p) p n u D → Q 1 h') : wp_glassLine Q (nI p) h := by
  have C0 := C
  have hw10 : lW f L 0 p ≠ 10 := by rw [hw]; decide
  have hN : kwN (lW f L 0 p) = 2 := by rw [hw]; rfl
  rw [hw] at q1
  obtain ⟨T, c10, hp0, hpL, F, hu, g22, N, hD⟩ := C
  unfold wp_glassLine
  intro R85 c85
  refine sp_headR (s := 0) (w := 0) C0 (by decide) (by decide) (fun h2 e2 K2 F2 => ?_)
  refine sp_num0 (k := 0) (w := 0) (lo := 1) (hi := 7) C0 (e2.mono (by decide) (by decide)) K2 F2 ((e2.2 22 (by decide)).trans g22) (by decide) rfl rfl (by decide) (fun h3 e3 nk a => bq_nf rfl (q0 h3 _ (e3.mono (by decide) (by decide)) a (lBr_0 hw10 nk))) (fun h3 e3 ok0 a0 _ F3 _ K3 => bq_nt (by decide) ⟨mp_in0 (by decide) (by decide), ?_⟩)
  have hV0 : lV0 f L p ≤ 99 := nV_b ok0
  show wp_lesser _ 7 (mg_i h3 20 0) h3
  rw [a0]
  refine sp_lesser ?_
  have e7 : (if nI (lV0 f L p) ≤ (7 : Int32) then nI (lV0 f L p) else 7) = nI (min 7 (lV0 f L p)) := lsr_I (a := 7) (by decide) (by omega)
  rw [e7]
  refine sp_num1 (w := 0) (lo := 0) (hi := min 7 (lV0 f L p)) C0 e3 K3 F3 ok0 (by decide) (by omega) ?_ (fun h4 e4 nk a => bq_nf rfl (q0 h4 _ (e4.mono (by decide) (by decide)) a (lBr_1 hw10 ok0 hN nk))) (fun h4 e4 ok1 a1 a01 F4 _ K4 => bq_nt (by decide) ⟨mp_in0 (by decide) (by decide), ?_⟩)
  · have : bad 0 1 (lV1 f L p) = true ↔ (lV1 f L p < 0 ∨ 7 < lV1 f L p) := bad_iff
    rw [this]
    omega
  have hV1 : lV1 f L p ≤ 99 := nV_b ok1
  have N4 : mg_i h4 19 0 = nI (min 4 n) := (e4.1 19 (by decide) (by decide) 0).trans N
  have eU : lUw f L 0 0 p n u = lU3 0 (nb f L (lP1 f L p)) (lV0 f L p) (lV1 f L p) (lU2 0 (nb f L (lP0 f L p)) (lV0 f L p) (lU1 0 0 p n u)) := rfl
  rw [← eU] at F4
  have K4 : TK h4 L f (lP3 f L 0 p) := K4
  have a04 : mg_i h4 20 0 = nI (lV0 f L p) := a01.trans a0
  have e4' : md [19, 20] sT h h4 := e4.mono (by decide) (by decide)
  have f85 : ∀ s, md [19, 20] sT h s → TK s L f (lP3 f L 0 p) → LF s (lUw f L 0 0 p n u) → ((lUw f L 0 0 p n u).1 = 0 → RT s 0 (n + 1) (tkD 0 0 n (lV0 f L p) (lV1 f L p) D)) → R85 (nI (min 4 n)) s := fun s e5 K5 F5 D5 => c85 _ _ (fin_line (t := 0) (w := 0) (r := 4) rfl (by decide) (by decide) e5 K5 F5 D5 (fun h' Z => q1 h' ok0 (fun _ => ok1) Z))
  show ∀ z9 : Int32, z9 = mg_i h4 19 0 → _
  rw [N4]
  rintro _ rfl
  by_cases g : 4 ≤ n
  · have e9 : min 4 n = 4 := by omega
    refine bq_t (by rw [e9]; decide) (f85 h4 e4' K4 F4 (fun c => ?_))
    have := (lUw_0 c).2.1 (by decide)
    have hr : xt_room 0 = 4 := rfl
    omega
  · have e9 : min 4 n = n := by omega
    refine bq_f (by rw [e9]; exact nI_ge (b := 4) (by omega) (by decide)) ⟨mp_in0 (by decide) (by decide), ?_⟩
    have f85' := f85
    rw [e9] at f85'
    rw [e9, nl_1, nI_add, nI_clamp (by omega)]
    refine ⟨vp_in_nI (show 1 + n < 81 by omega) (by decide), ?_⟩
    rintro _ rfl
    refine ⟨vp_in_nI (n := 1) (by decide) (by decide), ?_⟩
    rw [nl_5, nI_add, nI_clamp (by omega)]
    refine ⟨vp_in_nI (show 5 + n < 81 by omega) (by decide), ?_⟩
    rintro _ rfl
    have b0 : mg_i h4 20 (0 : Int32).toNatClampNeg = nI (lV0 f L p) := a04
    have b1 : mg_i (mg_ui h4 19 (1 + n) (mg_i h4 20 (0 : Int32).toNatClampNeg)) 20 (nI 1).toNatClampNeg = nI (lV1 f L p) := by rw [mi_cell (by decide)]; exact a1
    rw [b1, b0]
    refine f85' _ (md.ui (md.ui e4' (by decide) (by decide)) (by decide) (by decide)) ((K4.ui (by decide)).ui (by decide)) (F4.mv (md.ui (md.ui (md.rf (L := [19]) (S := [])) (by decide) (by decide)) (by decide) (by decide)) (by decide) (by decide)) (fun c => ?_)
    have z := lUw_0 c
    rw [tk_n (by decide)]
    exact RT_g (by omega) ((hD z.1).2.mv e4 (by decide) (by decide))
theorem sp_priceLine {Q : Int32 → mg_H → Prop} {h : mg_H} {f : Nat → Nat} {L p n : Nat} {u : fS} {D : dS} (C : LnC h f L 0 p n u D) (hw : lW f L 0 p = 1) (q0 : ∀ h' b, md [19, 20] sT h h' → mg_i h' 0 16 = nI b → lBr f L 0 p = some b → Q 0 h') (q1 : ∀ h', nok f L (lP0 f L p) = true → (kwN (lW f L 0 p) = 2 → nok f L (lP1 f L p) = true) → LK2 h h' f L 0 (lW f L 0 p) p n u D → Q 1 h') : wp_token (fun h1 => wp_take (fun r3 h2 => (((r3 = 0) → Q 0 h2) ∧ ((¬ r3 = 0) → wp_take (fun r5 h4 => (((¬ r5 = 0) → vp_in 0 (mg_len 20) ∧ (wp_greater (fun r7 h6 => ∀ h8 : mg_H, h8 = mg_ui h6 0 21 r7 → ((((mg_i h8 0 22) = 0) → Q 1 h8) ∧ ((¬ (mg_i h8 0 22) = 0) → vp_in 0 (mg_len 20) ∧ (vp_in 1 (mg_len 20) ∧ (vp_in (9 + (mg_i h8 20 (0 : Int32).toNatClampNeg)) (mg_len 19) ∧ (∀ h9 : mg_H, h9 = mg_ui h8 19 (9 + (mg_i h8 20 (0 : Int32).toNatClampNeg)).toNatClampNeg (mg_i h8 20 (1 : Int32).toNatClampNeg) → Q 1 h9)))))) (mg_i h4 0 21) (mg_i h4 20 (0 : Int32).toNatClampNeg) h4)) ∧ ((r5 = 0) → Q 0 h4))) 1 0 9 h2))) 0 0 3 h1) h := by
  have C0 := C
  have hw10 : lW f L 0 p ≠ 10 := by rw [hw]; decide
  have hN : kwN (lW f L 0 p) = 2 := by rw [hw]; rfl
  rw [hw] at q1
  obtain ⟨T, c10, hp0, hpL, F, hu, g22, N, hD⟩ := C
  refine sp_token T c10 (sce_le (by omega)) (fun h2 e2 K2 => ?_)
  have F2 : LF h2 (lU1 0 1 p n u) := by rw [lU1_1]; exact F.mv e2 (by decide) (by decide)
  refine sp_num0 (k := 0) (w := 1) (lo := 0) (hi := 3) C0 (e2.mono (by decide) (by decide)) K2 F2 ((e2.2 22 (by decide)).trans g22) (by decide) rfl rfl (by decide) (fun h3 e3 nk a => bq_t rfl (q0 h3 _ (e3.mono (by decide) (by decide)) a (lBr_0 hw10 nk))) (fun h3 e3 ok0 a0 _ F3 g3 K3 => bq_f (by decide) ?_)
  have hV0 : lV0 f L p ≤ 99 := nV_b ok0
  refine sp_num1 (w := 1) (lo := 0) (hi := 9) C0 e3 K3 F3 ok0 (by decide) (by decide) ?_ (fun h4 e4 nk a => bq_nf rfl (q0 h4 _ (e4.mono (by decide) (by decide)) a (lBr_1 hw10 ok0 hN nk))) (fun h4 e4 ok1 a1 a01 F4 g4 K4 => bq_nt (by decide) ⟨mp_in0 (by decide) (by decide), ?_⟩)
  · have : bad 1 1 (lV1 f L p) = true ↔ (lV1 f L p < 0 ∨ 9 < lV1 f L p) := bad_iff
    rw [this]
    omega
  have hV1 : lV1 f L p ≤ 99 := nV_b ok1
  have eU : lUw f L 0 1 p n u = lU3 1 (nb f L (lP1 f L p)) (lV0 f L p) (lV1 f L p) (lU2 1 (nb f L (lP0 f L p)) (lV0 f L p) (lU1 0 1 p n u)) := rfl
  rw [← eU] at F4
  have K4 : TK h4 L f (lP3 f L 1 p) := K4
  have a04 : mg_i h4 20 0 = nI (lV0 f L p) := a01.trans a0
  have e4' : md [19, 20] sT h h4 := e4.mono (by decide) (by decide)
  have N4 : mg_i h4 19 0 = nI (min 4 n) := (e4.1 19 (by decide) (by decide) 0).trans N
  refine sp_greater ?_
  rintro _ rfl
  have b0 : mg_i h4 20 (0 : Int32).toNatClampNeg = nI (lV0 f L p) := a04
  rw [b0]
  -- the farthest glass that has a price
  have fo : (lUw f L 0 1 p n u).1 = 0 → lV0 f L p < 4 ∧ lV1 f L p ≤ 9 ∧ (tkD 0 1 n (lV0 f L p) (lV1 f L p) D).2.2.2 < 16 ∧ ∃ k, k < 4 ∧ (if mg_i h4 0 21 ≤ nI (lV0 f L p) then nI (lV0 f L p) else mg_i h4 0 21) = nI k ∧ (tkD 0 1 n (lV0 f L p) (lV1 f L p) D).2.2.2.testBit k = true ∧ (tkD 0 1 n (lV0 f L p) (lV1 f L p) D).2.2.2 < 2 ^ (k + 1) := by
    intro c
    obtain ⟨z1, _, z3, z4⟩ := lUw_0 c
    have v4 : lV0 f L p < 4 := by
      have : ¬ (lV0 f L p < 0 ∨ 3 < lV0 f L p) := fun c => by have := (bad_iff (w := 1) (k := 0)).mpr c; rw [z3] at this; cases this
      omega
    have v9 : lV1 f L p ≤ 9 := by
      have : ¬ (lV1 f L p < 0 ∨ 9 < lV1 f L p) := fun c => by have := (bad_iff (w := 1) (k := 1)).mpr c; rw [(z4 rfl).1] at this; cases this
      omega
    obtain ⟨b1, b2, b3, b4⟩ := (hD z1).2.1 rfl
    have eP : (tkD 0 1 n (lV0 f L p) (lV1 f L p) D).2.2.2 = D.2.2.2 ||| 2 ^ (lV0 f L p) := by
      show D.2.2.2 ||| 2 ^ (lV0 f L p % 4) = _
      rw [Nat.mod_eq_of_lt v4]
    rw [eP, e4.2 21 (by decide)]
    have b16 : D.2.2.2 ||| 2 ^ (lV0 f L p) < 16 := Nat.or_lt_two_pow (n := 4) b3 (Nat.pow_lt_pow_right (by decide) v4)
    refine ⟨v4, v9, b16, ?_⟩
    rcases b4 with ⟨x0, x1⟩ | ⟨k, k4, x1, x2, x3⟩
    · refine ⟨lV0 f L p, v4, by rw [x1, if_pos (by rw [nM_leI (by omega)]; trivial)], by rw [fb_bit_set]; simp, ?_⟩
      rw [x0, Nat.zero_or]
      exact Nat.pow_lt_pow_right (by decide) (Nat.lt_succ_self _)
    · rw [x1]
      by_cases g : k ≤ lV0 f L p
      · refine ⟨lV0 f L p, v4, by rw [if_pos (nI_le g (by omega))], by rw [fb_bit_set]; simp, ?_⟩
        refine Nat.or_lt_two_pow (Nat.lt_of_lt_of_le x3 (Nat.pow_le_pow_right (by decide) (by omega))) (Nat.pow_lt_pow_right (by decide) (Nat.lt_succ_self _))
      · refine ⟨k, k4, by rw [if_neg (nI_ge (by omega) (by omega))], by rw [fb_bit_set, x2]; rfl, ?_⟩
        exact Nat.or_lt_two_pow x3 (Nat.pow_lt_pow_right (by decide) (by omega))
  have hfar : ∀ v : Int32, mg_i (mg_ui h4 0 21 v) 0 22 = mg_i h4 0 22 := fun v => mi_place (by decide)
  rw [hfar]
  generalize hx : (if mg_i h4 0 21 ≤ nI (lV0 f L p) then nI (lV0 f L p) else mg_i h4 0 21) = x at fo
  have e5 : md [19, 20] sT h (mg_ui h4 0 21 x) := e4'.u0 (by decide)
  have K5 : TK (mg_ui h4 0 21 x) L f (lP3 f L 1 p) := K4.u0 (by decide)
  have F5 : LF (mg_ui h4 0 21 x) (lUw f L 0 1 p n u) := F4.mv (md.u0 (md.rf (L := []) (S := [21])) (by decide)) (by decide) (by decide)
  have N5 : mg_i (mg_ui h4 0 21 x) 19 0 = nI (min 4 n) := by rw [mi_cell (by decide)]; exact N4
  rw [g3] at g4
  by_cases g : mg_i h4 0 22 = 0
  · refine bq_t g (q1 _ ok0 (fun _ => ok1) ⟨e5, K5, F5, N5, fun c => ?_⟩)
    exfalso
    obtain ⟨z1, _, z3, z4⟩ := lUw_0 c
    rw [if_neg (fun c => c.elim (fun c => by rw [(z4 rfl).1] at c; cases c) (fun c => absurd c.1 (by decide))), z3, if_neg (by decide)] at g4
    rw [g4] at g
    exact absurd g (by decide)
  · have v4 : lV0 f L p < 4 := by
      have nb0 : ¬ bad 1 0 (lV0 f L p) = true := fun c => g (by rw [g4, if_pos c]; split <;> rfl)
      have : ¬ (lV0 f L p < 0 ∨ 3 < lV0 f L p) := fun c => nb0 ((bad_iff (w := 1) (k := 0)).mpr c)
      omega
    refine bq_f g ⟨mp_in0 (by decide) (by decide), vp_in_nI (n := 1) (by decide) (by decide), ?_⟩
    have c0 : mg_i (mg_ui h4 0 21 x) 20 (0 : Int32).toNatClampNeg = nI (lV0 f L p) := by rw [mi_cell (by decide)]; exact a04
    have c1 : mg_i (mg_ui h4 0 21 x) 20 (1 : Int32).toNatClampNeg = nI (lV1 f L p) := by rw [mi_cell (by decide)]; exact a1
    rw [c0, c1, nl_9, nI_add, nI_clamp (by omega)]
    refine ⟨vp_in_nI (show 9 + lV0 f L p < 81 by omega) (by decide), ?_⟩
    rintro _ rfl
    refine q1 _ ok0 (fun _ => ok1) ⟨md.ui e5 (by decide) (by decide), K5.ui (by decide), F5.mv (md.ui (md.rf (L := [19]) (S := [])) (by decide) (by decide)) (by decide) (by decide), ?_, fun c => ?_⟩
    · rw [mi_place (by omega)]; exact N5
    · obtain ⟨w4, w9, w16, fok⟩ := fo c
      obtain ⟨z1, _⟩ := lUw_0 c
      have hn4 := (hD z1).1
      have hr : xt_room 0 = 4 := rfl
      obtain ⟨b1, b2, b3, b4⟩ := (hD z1).2.1 rfl
      have E19 : ∀ j, j ≠ 9 + lV0 f L p → mg_i (mg_ui (mg_ui h4 0 21 x) 19 (9 + lV0 f L p) (nI (lV1 f L p))) 19 j = mg_i h 19 j := fun j hj => by rw [mi_place hj, mi_cell (by decide), e4.1 19 (by decide) (by decide)]
      refine ⟨fun _ => ⟨fun q hq => ?_, fun y hy => ?_, w16, Or.inr ?_⟩, fun c => by omega, fun c => by omega⟩
      · have hq : q < n := hq
        rw [E19 _ (by omega), E19 _ (by omega)]
        exact b1 q hq
      · show _ = nI (if y = lV0 f L p % 4 then lV1 f L p else D.2.2.1 y)
        rw [Nat.mod_eq_of_lt v4]
        by_cases e : y = lV0 f L p
        · rw [if_pos e, e, mi_same]
        · rw [if_neg e, E19 _ (by omega)]
          exact b2 y hy
      · obtain ⟨k, k4, x1, x2, x3⟩ := fok
        exact ⟨k, k4, by rw [mi_cell (by decide), mi_same]; exact x1, x2, x3⟩
theorem cmpK {wv : Int64} {f : Nat → Nat} {p e w : Nat} (W : ∀ w, w < 10 → (wv = lN (kwK w) ↔ isW f p e w)) (hw : w < 10) : lg_cmp wv (lN (kwK w)) = 0 ↔ isW f p e w := (lg_cmp_eq _ _).trans (W w hw)
theorem sp_shelfLine {Q : Int32 → mg_H → Prop} {h : mg_H} {f : Nat → Nat} {L p n : Nat} {u : fS} {D : dS} {wv : Int64} (C : p < lP0 f L p → LnC h f L 0 p n u D) (hpl : isW f p (lP0 f L p) 0 ∨ isW f p (lP0 f L p) 1 → p < lP0 f L p) (g12 : mg_i h 0 12 = nI p) (W : ∀ w, w < 10 → (wv = lN (kwK w) ↔ isW f p (lP0 f L p) w)) (q0 : ∀ h' b, md [19, 20] sT h h' → mg_i h' 0 16 = nI b → lBr f L 0 p = some b → Q 0 h') (q1 : ∀ h', lW f L 0 p < 10 → nok f L (lP0 f L p) = true → (kwN (lW f L 0 p) = 2 → nok f L (lP1 f L p) = true) → LK2 h h' f L 0 (lW f L 0 p) p n u D → Q 1 h') : wp_shelfLine Q wv (nI p) h := by
  unfold wp_shelfLine
  have c0 : lg_cmp wv 444199957363 = 0 ↔ isW f p (lP0 f L p) 0 := cmpK W (w := 0) (by decide)
  have c1 : lg_cmp wv 482955846501 = 0 ↔ isW f p (lP0 f L p) 1 := cmpK W (w := 1) (by decide)
  by_cases g0 : isW f p (lP0 f L p) 0
  · have hw : lW f L 0 p = 0 := wf_is (by decide) rfl g0
    refine bq_nf (c0.mpr g0) (sp_glassLine (C (hpl (Or.inl g0))) hw (fun h' b e a z => ⟨Or.inl rfl, q0 h' b e a z⟩) (fun h' o0 o1 Z => ⟨Or.inr rfl, q1 h' (by rw [hw]; decide) o0 o1 Z⟩))
  · refine bq_nt (fun c => g0 (c0.mp c)) ?_
    by_cases g1 : isW f p (lP0 f L p) 1
    · have hw : lW f L 0 p = 1 := wf_is (by decide) rfl g1
      exact bq_t (c1.mpr g1) (sp_priceLine (C (hpl (Or.inr g1))) hw q0 (fun h' => q1 h' (by rw [hw]; decide)))
    · refine bq_f (fun c => g1 (c1.mp c)) ?_
      unfold wp_fails
      rintro _ rfl
      refine ⟨Or.inl rfl, q0 _ p (md.u0 md.rf (by decide)) (by rw [mi_same]; exact g12) (lBr_w (wf_no (fun w hw hs c => ?_)))⟩
      rcases kw_s0 w hw hs with e | e
      · rw [e] at c; exact g0 c
      · rw [e] at c; exact g1 c
