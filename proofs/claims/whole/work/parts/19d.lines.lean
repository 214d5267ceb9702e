/-! the reference: deeds, facts, spans; all lines -/
theorem sp_deedBy {Q : Int32 → mg_H → Prop} {h : mg_H} {wv : Int64} {f : Nat → Nat} {p e : Nat} (W : ∀ w, w < 10 → (wv = lN (kwK w) ↔ isW f p e w)) (q1 : ∀ w, w < 10 → kwS w = 1 → isW f p e w → Q (nI (w - 2)) h) (q0 : (∀ w, w < 10 → kwS w = 1 → ¬ isW f p e w) → Q nM h) : wp_deedBy Q wv h := by
  unfold wp_deedBy
  have c2 : lg_cmp wv 2002872692 = 0 ↔ isW f p e 2 := cmpK W (w := 2) (by decide)
  have c3 : lg_cmp wv 1953854062 = 0 ↔ isW f p e 3 := cmpK W (w := 3) (by decide)
  have c4 : lg_cmp wv 7102841 = 0 ↔ isW f p e 4 := cmpK W (w := 4) (by decide)
  have c5 : lg_cmp wv 495873781348 = 0 ↔ isW f p e 5 := cmpK W (w := 5) (by decide)
  have c6 : lg_cmp wv 1818583403 = 0 ↔ isW f p e 6 := cmpK W (w := 6) (by decide)
  refine ⟨fun n2 => ⟨fun n3 => ⟨fun n4 => ⟨fun n5 => ⟨fun n6 => ?_, fun y => q1 6 (by decide) rfl (c6.mp y)⟩, fun y => q1 5 (by decide) rfl (c5.mp y)⟩, fun y => q1 4 (by decide) rfl (c4.mp y)⟩, fun y => q1 3 (by decide) rfl (c3.mp y)⟩, fun y => q1 2 (by decide) rfl (c2.mp y)⟩
  refine q0 (fun w hw hs c => ?_)
  have hb := kw_s1 w hw hs
  rcases (show w = 2 ∨ w = 3 ∨ w = 4 ∨ w = 5 ∨ w = 6 by omega) with e9 | e9 | e9 | e9 | e9 <;> rw [e9] at c
  · exact n2 (c2.mpr c)
  · exact n3 (c3.mpr c)
  · exact n4 (c4.mpr c)
  · exact n5 (c5.mpr c)
  · exact n6 (c6.mpr c)
theorem fin_two {Q : Int32 → mg_H → Prop} {h s : mg_H} {f : Nat → Nat} {L t w p n r : Nat} {u : fS} {D : dS} {a b : Int32} (ht : t = 1 ∨ t = 2) (hr : r = xt_room t) (hr4 : r ≤ 40) (w1 : w ≠ 1) (e : md [19, 20] sT h s) (N : mg_i s 19 0 = nI (min r n)) (K : TK s L f (lP3 f L w p)) (F : LF s (lUw f L t w p n u)) (d : (lUw f L t w p n u).1 = 0 → n < r ∧ RT s t n D) (ea : a = tk1 t w (lV0 f L p) (lV1 f L p)) (eb : b = tk2 t w (lV0 f L p) (lV1 f L p)) (q1 : ∀ h', LK2 h h' f L t w p n u D → Q 1 h') : wp_keepTwo (fun h9 => Q 1 h9) (nI r) a b s := by
  unfold wp_keepTwo
  intro R38 c38
  refine ⟨mp_in0 (by decide) (by decide), ?_⟩
  show ∀ z1 : Int32, z1 = mg_i s 19 0 → _
  rw [N]
  rintro _ rfl
  have f38 : ∀ s', md [19, 20] sT h s' → TK s' L f (lP3 f L w p) → LF s' (lUw f L t w p n u) → ((lUw f L t w p n u).1 = 0 → RT s' t (n + 1) (tkD t w n (lV0 f L p) (lV1 f L p) D)) → R38 (nI (min r n)) s' := fun s' e5 K5 F5 D5 => c38 _ _ (fin_line hr hr4 w1 e5 K5 F5 D5 q1)
  by_cases g : r ≤ n
  · refine bq_t (by rw [Nat.min_eq_left g]; exact nI_le (Nat.le_refl r) (by omega)) (f38 s e K F (fun c => ?_))
    have := (d c).1
    omega
  · have e9 : min r n = n := by omega
    rw [e9] at f38 ⊢
    refine bq_f (nI_ge (by omega) (by omega)) ?_
    rw [nl_2, pk_mul, nl_1, nI_add, nI_add, nI_clamp (by omega), nI_clamp (by omega)]
    refine ⟨vp_in_nI (show 1 + 2 * n < 81 by omega) (by decide), ?_⟩
    rintro _ rfl
    refine ⟨vp_in_nI (show 2 + 2 * n < 81 by omega) (by decide), ?_⟩
    rintro _ rfl
    refine f38 _ (md.ui (md.ui e (by decide) (by decide)) (by decide) (by decide)) ((K.ui (by decide)).ui (by decide)) (F.mv (md.ui (md.ui (md.rf (L := [19]) (S := [])) (by decide) (by decide)) (by decide) (by decide)) (by decide) (by decide)) (fun c => ?_)
    rw [tk_n w1, ← ea, ← eb]
    exact RT_k ht (d c).2
theorem kw_lh1 : ∀ w, w < 10 → kwS w = 1 → w ≠ 2 → kwlo w 0 = 0 ∧ kwhi w 0 = 3 := by decide +kernel
theorem kw_N1 : ∀ w, w < 10 → kwS w = 1 → kwN w = 1 := by decide +kernel
/-- what is wanted behind a line of any sort -/
theorem sp_dayLine {Q : Int32 → mg_H → Prop} {h : mg_H} {f : Nat → Nat} {L p n : Nat} {u : fS} {D : dS} {wv : Int64} (C : p < lP0 f L p → LnC h f L 1 p n u D) (g12 : mg_i h 0 12 = nI p) (W : ∀ w, w < 10 → (wv = lN (kwK w) ↔ isW f p (lP0 f L p) w)) (q0 : ∀ h' b, md [19, 20] sT h h' → mg_i h' 0 16 = nI b → lBr f L 1 p = some b → Q 0 h') (q1 : ∀ h', lW f L 1 p < 10 → nok f L (lP0 f L p) = true → (kwN (lW f L 1 p) = 2 → nok f L (lP1 f L p) = true) → LK2 h h' f L 1 (lW f L 1 p) p n u D → Q 1 h') : wp_dayLine Q wv (nI p) h := by
  unfold wp_dayLine
  intro R41 R52 c41 c52
  refine sp_deedBy W (fun w hw hs is => ?_) (fun no => bq_nf rfl ?_)
  · have ew : lW f L 1 p = w := wf_is hw hs is
    have hl := kwL_b w hw
    have C0 := C (by have := is.1; omega)
    have hb := kw_s1 w hw hs
    have hN := kw_N1 w hw hs
    have hw10 : lW f L 1 p ≠ 10 := by omega
    rw [ew] at q1
    obtain ⟨T, c10, hp0, hpL, F, hu, g22, N, hD⟩ := C0
    refine bq_nt (by rw [nl_m1, nI_eqM (by omega)]; exact id) (sp_headR (s := 1) (w := w) (C (by have := is.1; omega)) (by decide) (by omega) (fun h2 e2 K2 F2 => ?_))
    have f52 : R52 (nI (w - 2)) (nI (kwhi w 0)) (nI (kwlo w 0)) 0 h2 := by
      refine c52 _ _ _ _ _ ?_
      refine sp_num0 (k := 0) (w := w) (C (by have := is.1; omega)) (e2.mono (by decide) (by decide)) K2 F2 ((e2.2 22 (by decide)).trans g22) (by decide) rfl rfl hw (fun h3 e3 nk a => bq_nf rfl (q0 h3 _ (e3.mono (by decide) (by decide)) a (lBr_0 hw10 nk))) (fun h3 e3 ok0 a0 _ F3 _ K3 => bq_nt (by decide) ⟨mp_in0 (by decide) (by decide), ?_⟩)
      have hV0 : lV0 f L p ≤ 99 := nV_b ok0
      show wp_keepTwo _ _ _ (mg_i h3 20 0) h3
      rw [a0]
      have n2 : ¬ kwN w = 2 := by omega
      have eU : lUw f L 1 w p n u = lU2 w (nb f L (lP0 f L p)) (lV0 f L p) (lU1 1 w p n u) := if_neg n2
      have eP : lP3 f L w p = nb f L (lP1 f L p) := by unfold lP3 lP2 nb; rw [if_neg n2]
      refine fin_two (t := 1) (r := 40) (n := n) (u := u) (D := D) (w := w) (p := p) (f := f) (L := L) (Or.inl rfl) rfl (by decide) (by omega) (e3.mono (by decide) (by decide)) ((e3.1 19 (by decide) (by decide) 0).trans N) (by rw [eP]; exact K3) (by rw [eU]; exact F3) (fun c => ?_) rfl rfl (fun h' Z => q1 h' hw ok0 (fun c => absurd c n2) Z)
      obtain ⟨z1, z2, _⟩ := lUw_0 c
      have hr : xt_room 1 = 40 := rfl
      exact ⟨by have := z2 (by omega); omega, (hD z1).2.mv e3 (by decide) (by decide)⟩
    by_cases w2 : w = 2
    · have f41 : R41 (nI (w - 2)) 1 0 h2 := by
        refine c41 _ _ _ _ (bq_nf (by rw [w2]; rfl) ?_)
        rw [w2] at f52 ⊢
        exact f52
      exact bq_nf (by rw [w2]; rfl) f41
    · obtain ⟨l0, h3⟩ := kw_lh1 w hw hs w2
      have ne : ¬ nI (w - 2) = 0 := fun c => by have := (nI_eq (b := 0) (by omega) (by decide)).mp c; omega
      have f41 : R41 (nI (w - 2)) 0 0 h2 := by
        refine c41 _ _ _ _ (bq_nt ne ?_)
        rw [l0, h3] at f52
        exact f52
      exact bq_nt ne f41
  · unfold wp_fails
    rintro _ rfl
    exact ⟨Or.inl rfl, q0 _ p (md.u0 md.rf (by decide)) (by rw [mi_same]; exact g12) (lBr_w (wf_no no))⟩
theorem sp_logLine {Q : Int32 → mg_H → Prop} {h : mg_H} {f : Nat → Nat} {L p n : Nat} {u : fS} {D : dS} {wv : Int64} (C : p < lP0 f L p → LnC h f L 2 p n u D) (g12 : mg_i h 0 12 = nI p) (W : ∀ w, w < 10 → (wv = lN (kwK w) ↔ isW f p (lP0 f L p) w)) (q0 : ∀ h' b, md [19, 20] sT h h' → mg_i h' 0 16 = nI b → lBr f L 2 p = some b → Q 0 h') (q1 : ∀ h', lW f L 2 p < 10 → nok f L (lP0 f L p) = true → (kwN (lW f L 2 p) = 2 → nok f L (lP1 f L p) = true) → LK2 h h' f L 2 (lW f L 2 p) p n u D → Q 1 h') : wp_logLine Q wv (nI p) h := by
  have c7 : lg_cmp wv 7496046 = 0 ↔ isW f p (lP0 f L p) 7 := cmpK W (w := 7) (by decide)
  have c8 : lg_cmp wv 487301145972 = 0 ↔ isW f p (lP0 f L p) 8 := cmpK W (w := 8) (by decide)
  unfold wp_logLine
  intro R21 R57 c21 c57
  have hr : xt_room 2 = 8 := rfl
  by_cases g7 : isW f p (lP0 f L p) 7
  · have ew : lW f L 2 p = 7 := wf_is (by decide) rfl g7
    have hl : kwL 7 = 3 := rfl
    have C0 := C (by have := g7.1; omega)
    have hw10 : lW f L 2 p ≠ 10 := by omega
    have hN : kwN (lW f L 2 p) = 2 := by rw [ew]; rfl
    rw [ew] at q1
    have C1 := C0
    obtain ⟨T, c10, hp0, hpL, F, hu, g22, N, hD⟩ := C0
    refine bq_t (c7.mpr g7) (c21 _ (sp_headR (s := 2) (w := 7) C1 (by decide) (by decide) (fun h2 e2 K2 F2 => ⟨mp_in0 (by decide) (by decide), ?_⟩)))
    rintro _ rfl
    refine bq_nf (c7.mpr g7) ?_
    have e2' : md [20] [10, 12, 13, 14, 17, 18] h (mg_ui h2 20 (0 : Int32).toNatClampNeg (-1)) := md.ui (e2.mono (by decide) (by decide)) (by decide) (by decide)
    refine sp_num0 (k := 0) (w := 7) (lo := 0) (hi := 3) C1 e2' (K2.ui (by decide)) (F2.mv (md.ui (md.rf (L := [20]) (S := [])) (by decide) (by decide)) (by decide) (by decide)) ((e2'.2 22 (by decide)).trans g22) (by decide) rfl rfl (by decide) (fun h3 e3 nk a => bq_t rfl (q0 h3 _ (e3.mono (by decide) (by decide)) a (lBr_0 hw10 nk))) (fun h3 e3 ok0 a0 _ F3 _ K3 => bq_f (by decide) (c57 _ ?_))
    have hV0 : lV0 f L p ≤ 99 := nV_b ok0
    refine sp_num1 (w := 7) (lo := 1) (hi := 40) C1 e3 K3 F3 ok0 (by decide) (by decide) ?_ (fun h4 e4 nk a => bq_nf rfl (q0 h4 _ (e4.mono (by decide) (by decide)) a (lBr_1 hw10 ok0 hN nk))) (fun h4 e4 ok1 a1 a01 F4 _ K4 => bq_nt (by decide) ⟨vp_in_nI (n := 1) (by decide) (by decide), mp_in0 (by decide) (by decide), ?_⟩)
    · have : bad 7 1 (lV1 f L p) = true ↔ (lV1 f L p < 1 ∨ 40 < lV1 f L p) := bad_iff
      rw [this]
      omega
    refine fin_two (t := 2) (r := 8) (n := n) (u := u) (D := D) (w := 7) (p := p) (f := f) (L := L) (Or.inr rfl) rfl (by decide) (by decide) (e4.mono (by decide) (by decide)) ((e4.1 19 (by decide) (by decide) 0).trans N) K4 F4 (fun c => ?_) a1 (a01.trans a0) (fun h' Z => q1 h' (by decide) ok0 (fun _ => ok1) Z)
    obtain ⟨z1, z2, _⟩ := lUw_0 c
    exact ⟨by have := z2 (by decide); omega, (hD z1).2.mv e4 (by decide) (by decide)⟩
  · refine bq_f (fun c => g7 (c7.mp c)) ?_
    by_cases g8 : isW f p (lP0 f L p) 8
    · have ew : lW f L 2 p = 8 := wf_is (by decide) rfl g8
      have hl : kwL 8 = 5 := rfl
      have C1 := C (by have := g8.1; omega)
      have hw10 : lW f L 2 p ≠ 10 := by omega
      rw [ew] at q1
      obtain ⟨T, c10, hp0, hpL, F, hu, g22, N, hD⟩ := C1
      have C1 := C (by have := g8.1; omega)
      refine bq_t (c8.mpr g8) (c21 _ (sp_headR (s := 2) (w := 8) C1 (by decide) (by decide) (fun h2 e2 K2 F2 => ⟨mp_in0 (by decide) (by decide), ?_⟩)))
      rintro _ rfl
      refine bq_nt (fun c => g7 (c7.mp c)) (c57 _ ?_)
      have e2' : md [20] [10, 12, 13, 14, 17, 18] h (mg_ui h2 20 (0 : Int32).toNatClampNeg (-1)) := md.ui (e2.mono (by decide) (by decide)) (by decide) (by decide)
      refine sp_num0 (k := 1) (w := 8) (lo := 1) (hi := 40) C1 e2' (K2.ui (by decide)) (F2.mv (md.ui (md.rf (L := [20]) (S := [])) (by decide) (by decide)) (by decide) (by decide)) ((e2'.2 22 (by decide)).trans g22) (by decide) rfl rfl (by decide) (fun h3 e3 nk a => bq_nf rfl (q0 h3 _ (e3.mono (by decide) (by decide)) a (lBr_0 hw10 nk))) (fun h3 e3 ok0 a0 a00 F3 _ K3 => bq_nt (by decide) ⟨vp_in_nI (n := 1) (by decide) (by decide), mp_in0 (by decide) (by decide), ?_⟩)
      have hm : mg_i h3 20 (0 : Int32).toNatClampNeg = nM := (a00 0 (by decide)).trans (by rw [show (0 : Int32).toNatClampNeg = 0 from rfl, mi_same]; rfl)
      refine fin_two (t := 2) (r := 8) (n := n) (u := u) (D := D) (w := 8) (p := p) (f := f) (L := L) (Or.inr rfl) rfl (by decide) (by decide) (e3.mono (by decide) (by decide)) ((e3.1 19 (by decide) (by decide) 0).trans N) K3 F3 (fun c => ?_) a0 hm (fun h' Z => q1 h' (by decide) ok0 (fun c => absurd c (by decide)) Z)
      obtain ⟨z1, z2, _⟩ := lUw_0 c
      exact ⟨by have := z2 (by decide); omega, (hD z1).2.mv e3 (by decide) (by decide)⟩
    · refine bq_f (fun c => g8 (c8.mp c)) ?_
      unfold wp_fails
      rintro _ rfl
      refine ⟨Or.inl rfl, q0 _ p (md.u0 md.rf (by decide)) (by rw [mi_same]; exact g12) (lBr_w (wf_no (fun w hw hs c => ?_)))⟩
      rcases kw_s2 w hw hs with e | e
      · rw [e] at c; exact g7 c
      · rw [e] at c; exact g8 c
theorem sp_orderLine {Q : Int32 → mg_H → Prop} {h : mg_H} {f : Nat → Nat} {L p n : Nat} {u : fS} {D : dS} {wv : Int64} (C : p < lP0 f L p → LnC h f L 3 p n u D) (g12 : mg_i h 0 12 = nI p) (W : ∀ w, w < 10 → (wv = lN (kwK w) ↔ isW f p (lP0 f L p) w)) (q0 : ∀ h' b, md [19, 20] sT h h' → mg_i h' 0 16 = nI b → lBr f L 3 p = some b → Q 0 h') (q1 : ∀ h', lW f L 3 p < 10 → nok f L (lP0 f L p) = true → (kwN (lW f L 3 p) = 2 → nok f L (lP1 f L p) = true) → LK2 h h' f L 3 (lW f L 3 p) p n u D → Q 1 h') : wp_orderLine Q wv (nI p) h := by
  have c9 : lg_cmp wv 1936744814 = 0 ↔ isW f p (lP0 f L p) 9 := cmpK W (w := 9) (by decide)
  unfold wp_orderLine
  intro R67 c67
  have hr : xt_room 3 = 6 := rfl
  by_cases g9 : isW f p (lP0 f L p) 9
  · have ew : lW f L 3 p = 9 := wf_is (by decide) rfl g9
    have hl : kwL 9 = 4 := rfl
    have C1 := C (by have := g9.1; omega)
    have hw10 : lW f L 3 p ≠ 10 := by omega
    rw [ew] at q1
    obtain ⟨T, c10, hp0, hpL, F, hu, g22, N, hD⟩ := C1
    have C1 := C (by have := g9.1; omega)
    refine bq_t (c9.mpr g9) (sp_headR (s := 3) (w := 9) C1 (by decide) (by decide) (fun h2 e2 K2 F2 => ?_))
    refine sp_num0 (k := 0) (w := 9) (lo := 1) (hi := 30) C1 (e2.mono (by decide) (by decide)) K2 F2 ((e2.2 22 (by decide)).trans g22) (by decide) rfl rfl (by decide) (fun h3 e3 nk a => bq_nf rfl (q0 h3 _ (e3.mono (by decide) (by decide)) a (lBr_0 hw10 nk))) (fun h3 e3 ok0 a0 _ F3 _ K3 => bq_nt (by decide) ⟨mp_in0 (by decide) (by decide), ?_⟩)
    have N3 : mg_i h3 19 0 = nI (min 6 n) := (e3.1 19 (by decide) (by decide) 0).trans N
    have F3 : LF h3 (lUw f L 3 9 p n u) := F3
    have K3 : TK h3 L f (lP3 f L 9 p) := K3
    have e3' : md [19, 20] sT h h3 := e3.mono (by decide) (by decide)
    have f67 : ∀ s, md [19, 20] sT h s → TK s L f (lP3 f L 9 p) → LF s (lUw f L 3 9 p n u) → ((lUw f L 3 9 p n u).1 = 0 → RT s 3 (n + 1) (tkD 3 9 n (lV0 f L p) (lV1 f L p) D)) → R67 (nI (min 6 n)) s := fun s e5 K5 F5 D5 => c67 _ _ (fin_line (t := 3) (w := 9) (r := 6) rfl (by decide) (by decide) e5 K5 F5 D5 (fun h' Z => q1 h' (by decide) ok0 (fun c => absurd c (by decide)) Z))
    show ∀ z5 : Int32, z5 = mg_i h3 19 0 → _
    rw [N3]
    rintro _ rfl
    by_cases g : 6 ≤ n
    · have e9 : min 6 n = 6 := by omega
      refine bq_t (by rw [e9]; decide) (f67 h3 e3' K3 F3 (fun c => ?_))
      have := (lUw_0 c).2.1 (by decide)
      omega
    · have e9 : min 6 n = n := by omega
      refine bq_f (by rw [e9]; exact nI_ge (b := 6) (by omega) (by decide)) ⟨mp_in0 (by decide) (by decide), ?_⟩
      rw [e9] at f67 ⊢
      rw [nl_1, nI_add, nI_clamp (by omega)]
      refine ⟨vp_in_nI (show 1 + n < 81 by omega) (by decide), ?_⟩
      rintro _ rfl
      have b0 : mg_i h3 20 (0 : Int32).toNatClampNeg = nI (lV0 f L p) := a0
      rw [b0]
      refine f67 _ (md.ui e3' (by decide) (by decide)) (K3.ui (by decide)) (F3.mv (md.ui (md.rf (L := [19]) (S := [])) (by decide) (by decide)) (by decide) (by decide)) (fun c => ?_)
      have z := lUw_0 c
      rw [tk_n (by decide)]
      exact RT_o ((hD z.1).2.mv e3 (by decide) (by decide))
  · refine bq_f (fun c => g9 (c9.mp c)) ?_
    unfold wp_fails
    rintro _ rfl
    refine ⟨Or.inl rfl, q0 _ p (md.u0 md.rf (by decide)) (by rw [mi_same]; exact g12) (lBr_w (wf_no (fun w hw hs c => ?_)))⟩
    rw [kw_s3 w hw hs] at c
    exact g9 c
theorem sp_lineOf {Q : Int32 → mg_H → Prop} {h : mg_H} {f : Nat → Nat} {L s p n : Nat} {u : fS} {D : dS} {wv : Int64} (hs : s < 4) (C : p < lP0 f L p → LnC h f L s p n u D) (g12 : mg_i h 0 12 = nI p) (W : ∀ w, w < 10 → (wv = lN (kwK w) ↔ isW f p (lP0 f L p) w)) (q0 : ∀ h' b, md [19, 20] sT h h' → mg_i h' 0 16 = nI b → lBr f L s p = some b → Q 0 h') (q1 : ∀ h', lW f L s p < 10 → nok f L (lP0 f L p) = true → (kwN (lW f L s p) = 2 → nok f L (lP1 f L p) = true) → LK2 h h' f L s (lW f L s p) p n u D → Q 1 h') : wp_lineOf Q (nI s) wv (nI p) h := by
  unfold wp_lineOf
  have q0' : ∀ h' b, md [19, 20] sT h h' → mg_i h' 0 16 = nI b → lBr f L s p = some b → mg_b 0 ∧ Q 0 h' := fun h' b e a z => ⟨Or.inl rfl, q0 h' b e a z⟩
  have q1' : ∀ h', lW f L s p < 10 → nok f L (lP0 f L p) = true → (kwN (lW f L s p) = 2 → nok f L (lP1 f L p) = true) → LK2 h h' f L s (lW f L s p) p n u D → mg_b 1 ∧ Q 1 h' := fun h' a b c d => ⟨Or.inr rfl, q1 h' a b c d⟩
  rcases (show s = 0 ∨ s = 1 ∨ s = 2 ∨ s = 3 by omega) with e | e | e | e <;> subst e
  · refine bq_nf rfl (sp_shelfLine C (fun c => ?_) g12 W q0' q1')
    rcases c with c | c
    · have := c.1; have hl : kwL 0 = 5 := rfl; omega
    · have := c.1; have hl : kwL 1 = 5 := rfl; omega
  · exact bq_nt (by decide) (bq_nf rfl (sp_dayLine C g12 W q0' q1'))
  · exact bq_nt (by decide) (bq_nt (by decide) (bq_nf rfl (sp_logLine C g12 W q0' q1')))
  · exact bq_nt (by decide) (bq_nt (by decide) (bq_nt (by decide) (sp_orderLine C g12 W q0' q1')))
