/-! the reference: all lines, a text -/
theorem TK_sign {g : mg_H} {L b : Nat} {f : Nat → Nat} (K : TK g L f b) : (b < L ∧ f b = 59 → mg_i g 0 13 = nI 4 ∧ mg_i g 0 10 = nI (b + 1)) ∧ (¬ (b < L ∧ f b = 59) → ¬ mg_i g 0 13 = nI 4) := by
  obtain ⟨k1, k2, k3, k4, k5, k6⟩ := K
  refine ⟨fun c => ?_, fun c => ?_⟩
  · have z := k6 c.1 (by rw [c.2]; decide) (by rw [c.2]; decide)
    exact ⟨by rw [z.2, if_pos c.2], z.1⟩
  · by_cases h1 : b = L
    · rw [k3 h1]; decide
    · have h2 : b < L := by omega
      cases hl : isL (f b) with
      | true => rw [(k4 h2 hl).1]; decide
      | false =>
        cases hd : isD (f b) with
        | true =>
          rcases Nat.lt_or_ge (b + 2) (sce isD f L b) with h3 | h3
          · rw [(k5 h2 hd).2.2 h3]; decide
          · rw [((k5 h2 hd).2.1 h3).1]; decide
        | false => rw [(k6 h2 hl hd).2, if_neg (fun c2 => c ⟨h2, c2⟩)]; decide
theorem TK_end {g : mg_H} {L b : Nat} {f : Nat → Nat} (K : TK g L f b) (h2 : b < L) : ¬ mg_i g 0 13 = nI 0 := by
  obtain ⟨k1, k2, k3, k4, k5, k6⟩ := K
  cases hl : isL (f b) with
  | true => rw [(k4 h2 hl).1]; decide
  | false =>
    cases hd : isD (f b) with
    | true =>
      rcases Nat.lt_or_ge (b + 2) (sce isD f L b) with h3 | h3
      · rw [(k5 h2 hd).2.2 h3]; decide
      · rw [((k5 h2 hd).2.1 h3).1]; decide
    | false =>
      rw [(k6 h2 hl hd).2]
      by_cases g : f b = 59
      · rw [if_pos g]; decide
      · rw [if_neg g]; decide
/-- the word of a token -/
theorem TK_word {g : mg_H} {L p : Nat} {f : Nat → Nat} (K : TK g L f p) (h2 : p < L) : (isL (f p) = true → mg_i g 0 13 = nI 2 ∧ ∀ w, w < 10 → (mg_l g 0 15 = lN (kwK w) ↔ isW f p (lP0 f L p) w)) ∧ (isL (f p) = false → ¬ mg_i g 0 13 = nI 2 ∧ ∀ w, w < 10 → ((0 : Int64) = lN (kwK w) ↔ isW f p (lP0 f L p) w)) := by
  obtain ⟨k1, k2, k3, k4, k5, k6⟩ := K
  refine ⟨fun hl => ?_, fun hl => ⟨?_, fun w hw => ?_⟩⟩
  · have z := k4 h2 hl
    refine ⟨z.1, fun w hw => ?_⟩
    rw [z.2.2]
    exact wk_iff hw (fun x h1 h3 => sce_all h1 h3)
  · cases hd : isD (f p) with
    | true =>
      rcases Nat.lt_or_ge (p + 2) (sce isD f L p) with h3 | h3
      · rw [(k5 h2 hd).2.2 h3]; decide
      · rw [((k5 h2 hd).2.1 h3).1]; decide
    | false =>
      rw [(k6 h2 hl hd).2]
      by_cases g : f p = 59
      · rw [if_pos g]; decide
      · rw [if_neg g]; decide
  · have e : lP0 f L p = p := sce_no (fun c => by rw [hl] at c; cases c.2)
    have hk := kwK_b w hw
    have hL := kwL_b w hw
    constructor
    · intro c
      have : lN 0 = lN (kwK w) := c
      rw [fb_lN_inj (by decide) (by omega)] at this
      omega
    · intro c
      have := c.1
      omega
theorem lUw_pl {f : Nat → Nat} {L s w p n : Nat} {u : fS} (hp : p ≤ L) (hu : u.1 ≠ 0 → u.2 < p) (hp0 : p < lP0 f L p) (ok0 : nok f L (lP0 f L p) = true) (h : (lUw f L s w p n u).1 ≠ 0) : (lUw f L s w p n u).2 ≤ lP3 f L w p := by
  obtain ⟨P0, P1, P2, P3, P3L, P2L, P1L, P0L⟩ := lP_b (f := f) (w := w) hp
  have hb := nb_b (f := f) P0L
  have hb1 := nb_b (f := f) P1L
  have ok := nok_iff.mp ok0
  have hlt : nb f L (lP0 f L p) < lP1 f L p := ok.1
  have a2 : (lU2 w (nb f L (lP0 f L p)) (lV0 f L p) (lU1 s w p n u)).1 ≠ 0 → (lU2 w (nb f L (lP0 f L p)) (lV0 f L p) (lU1 s w p n u)).2 ≤ nb f L (lP0 f L p) := lU2_pl (fun c => by have := lU1_pl hu c; omega)
  unfold lUw at h ⊢
  by_cases hN : kwN w = 2
  · rw [if_pos hN] at h ⊢
    have a3 := lU3_pl (fun c => by have := a2 c; omega) h
    have e : lP2 f L w p = nE f L (lP1 f L p) := if_pos hN
    have hE := (nE_b (f := f) P1L).1
    omega
  · rw [if_neg hN] at h ⊢
    have := a2 h
    omega
/-- the reference at the head of a line -/
def AL (h g : mg_H) (f : Nat → Nat) (L s : Nat) (x : pS) : Prop := md [19, 20] sT h g ∧ TK g L f x.1 ∧ LF g x.2.2.1 ∧ (x.2.2.1.1 ≠ 0 → x.2.2.1.2 < x.1) ∧ mg_i g 19 0 = nI (min (xt_room s) x.2.1) ∧ (x.2.2.1.1 = 0 → x.2.1 ≤ xt_room s ∧ RT g s x.2.1 x.2.2.2)
set_option maxHeartbeats 1000000 in
theorem sp_allLines {Q : Int32 → mg_H → Prop} {h : mg_H} {f : Nat → Nat} {L s : Nat} (hs : s < 4) (T : TP h L f) (q0 : ∀ g b, md [19, 20] sT h g → mg_i g 0 16 = nI b → (PRS f L s).1 = some b → Q 0 g) (q1 : ∀ g, (PRS f L s).1 = none → (PRS f L s).2.1 = L → AL h g f L s (PRS f L s).2 → Q 1 g) (A0 : AL h h f L s (p00 f L)) : wp_allLines Q (nI s) h := by
  have tL := T.2.1
  unfold wp_allLines
  intro R2 R34 R67 R75 c2 c34 c67 c75
  have main : ∀ k g x, prs f L s k x = PRS f L s → L < x.1 + k → x.1 ≤ L → AL h g f L s x → R2 1 g := by
    intro k
    induction k with
    | zero => intro g x _ h1 h2 _; omega
    | succ k ih =>
      intro g x er h1 h2 A
      obtain ⟨e, K, F, hu, N, hD⟩ := A
      have Tg := T.mv e (by decide) (by decide)
      rw [prs] at er
      refine c2 _ _ (bq_f (by decide) ?_)
      by_cases gL : L ≤ x.1
      · have eL : x.1 = L := by omega
        rw [if_pos gL] at er
        refine bq_t (K.2.2.1 eL) ⟨Or.inr rfl, q1 g (by rw [← er]) (by rw [← er]; exact eL) ?_⟩
        rw [← er]
        exact ⟨e, K, F, hu, N, hD⟩
      · have pL : x.1 < L := by omega
        rw [if_neg gL] at er
        refine bq_f (TK_end K pL) ?_
        rw [K.1]
        rintro _ rfl
        have hP := lP_b (f := f) (w := lW f L s x.1) h2
        -- one line
        have f34 : ∀ wv : Int64, (∀ w, w < 10 → (wv = lN (kwK w) ↔ isW f x.1 (lP0 f L x.1) w)) → R34 (nI x.1) wv g := by
          intro wv W
          refine c34 _ _ _ ?_
          rintro _ rfl
          have eg : md [19, 20] sT h (mg_ui g 0 22 1) := e.u0 (by decide)
          have e22 : md [] [22] g (mg_ui g 0 22 1) := md.u0 md.rf (by decide)
          refine sp_lineOf (n := x.2.1) (u := x.2.2.1) (D := x.2.2.2) hs (fun hp0 => ?_) (by rw [mi_place (by decide)]; exact K.1) W (fun g1 b e1 a1 eb => bq_t rfl ?_) (fun g1 hw ok0 ok1 Z => bq_f (by decide) ?_)
          · have hl : isL (f x.1) = true := sce_all (p := isL) (f := f) (L := L) (Nat.le_refl _) hp0
            refine ⟨Tg.mv e22 (by decide) (by decide), ?_, hp0, pL, F.mv e22 (by decide) (by decide), hu, mi_same, by rw [mi_cell (by decide)]; exact N, fun c => ⟨(hD c).1, (hD c).2.mv e22 (by decide) (by decide)⟩⟩
            rw [mi_place (by decide)]
            exact (K.2.2.2.1 pL hl).2.1
          · rw [eb] at er
            refine c67 _ _ (bq_t rfl (c75 _ _ (c2 _ _ (bq_t rfl ⟨Or.inl rfl, q0 g1 b (eg.tr e1) a1 ?_⟩))))
            rw [← er]
          · obtain ⟨e1, K1, F1, N1, D1⟩ := Z
            have E1 := eg.tr e1
            have sg := TK_sign K1
            have hw10 : lW f L s x.1 ≠ 10 := by omega
            by_cases c : lP3 f L (lW f L s x.1) x.1 < L ∧ f (lP3 f L (lW f L s x.1) x.1) = 59
            · have eb := lBr_n hw10 ok0 ok1 c
              rw [eb] at er
              have hgo := lSt_go h2 eb
              refine bq_t (sg.1 c).1 (c67 _ _ (bq_f (by decide) (sp_token (T.mv E1 (by decide) (by decide)) (sg.1 c).2 (by omega) (fun g2 e2 K2 => c75 _ _ ?_))))
              have hp0 : x.1 < lP0 f L x.1 := by
                have h90 : lP0 f L x.1 - x.1 = kwL (lW f L s x.1) := (wf_yes (f := f) (p := x.1) (e := lP0 f L x.1) (s := s) hw).2.1
                have := kwL_b _ hw
                omega
              refine ih g2 (lSt f L s x) er (Nat.lt_of_lt_of_le h1 (by have := hgo.1; omega)) hgo.2 ⟨E1.tr (e2.mono (by decide) (by decide)), by rw [lSt_s]; exact K2, by rw [lSt_3]; exact F1.mv e2 (by decide) (by decide), fun c9 => ?_, by rw [lSt_2]; exact (e2.1 19 (by decide) (by decide) 0).trans N1, fun c9 => ?_⟩
              · rw [lSt_3] at c9 ⊢
                have z := lUw_pl h2 hu hp0 ok0 c9
                rw [lSt_s]
                exact Nat.lt_of_lt_of_le (Nat.lt_succ_of_le z) sce_ge
              · rw [lSt_3] at c9
                obtain ⟨z1, z2, _⟩ := lUw_0 c9
                refine ⟨?_, ?_⟩
                · rw [lSt_2]
                  unfold lnN
                  by_cases w1 : lW f L s x.1 = 1
                  · rw [if_pos w1]; exact (hD z1).1
                  · rw [if_neg w1]; exact z2 w1
                · rw [lSt_2, lSt_4 c9]
                  exact (D1 c9).mv e2 (by decide) (by decide)
            · have eb := lBr_e hw10 ok0 ok1 c
              rw [eb] at er
              refine bq_f (sg.2 c) ?_
              unfold wp_fails
              rintro _ rfl
              refine c67 _ _ (bq_t rfl (c75 _ _ (c2 _ _ (bq_t rfl ⟨Or.inl rfl, q0 _ _ (E1.u0 (by decide)) (by rw [mi_same]; exact K1.1) ?_⟩))))
              rw [← er]
        have kw := TK_word K pL
        cases hl : isL (f x.1) with
        | true => exact bq_nf (kw.1 hl).1 (f34 _ (kw.1 hl).2)
        | false => exact bq_nt (kw.2 hl).1 (f34 _ (kw.2 hl).2)
  exact main 601 h (p00 f L) rfl (by omega) (sce_le (Nat.zero_le L)) A0
