/-! a text read: what holds of it; the reference reads one -/
def VL (s : Nat) (a b : Int32) : Prop := (s = 0 → ∃ z t, a = nI z ∧ b = nI t ∧ 1 ≤ z ∧ z ≤ 7 ∧ t ≤ z) ∧ (s = 1 → ∃ k y, a = nI k ∧ b = nI y ∧ k ≤ 4 ∧ y ≤ 9) ∧ (s = 2 → ∃ m, a = nI m ∧ 1 ≤ m ∧ m ≤ 40 ∧ (b = nM ∨ ∃ g, g ≤ 3 ∧ b = nI g)) ∧ (s = 3 → ∃ t, a = nI t ∧ 1 ≤ t ∧ t ≤ 30)
def VD (s n : Nat) (D : dS) : Prop := n ≤ xt_room s ∧ (∀ q, q < n → VL s (D.1 q) (D.2.1 q)) ∧ ∀ g, D.2.2.1 g ≤ 9
theorem kw_h1 : ∀ w, w < 10 → kwS w = 1 → kwhi w 0 ≤ 9 := by decide +kernel
theorem VL_tk {f : Nat → Nat} {L s w p : Nat} (hw : w < 10) (hs : kwS w = s) (w1 : w ≠ 1) (b0 : bad w 0 (lV0 f L p) = false) (b1 : kwN w = 2 → bad w 1 (lV1 f L p) = false ∧ (w = 0 → lV1 f L p ≤ lV0 f L p)) : VL s (tk1 s w (lV0 f L p) (lV1 f L p)) (tk2 s w (lV0 f L p) (lV1 f L p)) := by
  have B0 : ¬ (lV0 f L p < kwlo w 0 ∨ kwhi w 0 < lV0 f L p) := fun c => by have := bad_iff.mpr c; rw [b0] at this; cases this
  have B1 : kwN w = 2 → ¬ (lV1 f L p < kwlo w 1 ∨ kwhi w 1 < lV1 f L p) := fun c c2 => by have := bad_iff.mpr c2; rw [(b1 c).1] at this; cases this
  refine ⟨fun e => ?_, fun e => ?_, fun e => ?_, fun e => ?_⟩
  · subst e
    have w0 : w = 0 := by rcases kw_s0 w hw hs with h | h; exact h; exact absurd h w1
    subst w0
    have z1 : ¬ (lV0 f L p < 1 ∨ 7 < lV0 f L p) := B0
    have z2 := (b1 rfl).2 rfl
    exact ⟨lV0 f L p, lV1 f L p, rfl, rfl, by omega, by omega, z2⟩
  · subst e
    have hb := kw_s1 w hw hs
    have hh := kw_h1 w hw hs
    exact ⟨w - 2, lV0 f L p, rfl, rfl, by omega, by omega⟩
  · subst e
    rcases kw_s2 w hw hs with h | h
    · subst h
      have z1 : ¬ (lV0 f L p < 0 ∨ 3 < lV0 f L p) := B0
      have z2 : ¬ (lV1 f L p < 1 ∨ 40 < lV1 f L p) := B1 rfl
      exact ⟨lV1 f L p, rfl, by omega, by omega, Or.inr ⟨lV0 f L p, by omega, rfl⟩⟩
    · subst h
      have z1 : ¬ (lV0 f L p < 1 ∨ 40 < lV0 f L p) := B0
      exact ⟨lV0 f L p, rfl, by omega, by omega, Or.inl rfl⟩
  · subst e
    have h := kw_s3 w hw hs
    subst h
    have z1 : ¬ (lV0 f L p < 1 ∨ 30 < lV0 f L p) := B0
    exact ⟨lV0 f L p, rfl, by omega, by omega⟩
theorem VD_st {f : Nat → Nat} {L s : Nat} {x : pS} (hb : lBr f L s x.1 = none) (h : x.2.2.1.1 = 0 → VD s x.2.1 x.2.2.2) (h0 : (lSt f L s x).2.2.1.1 = 0) : VD s (lSt f L s x).2.1 (lSt f L s x).2.2.2 := by
  have c : (lUw f L s (lW f L s x.1) x.1 x.2.1 x.2.2.1).1 = 0 := by rw [lSt_3] at h0; exact h0
  obtain ⟨h1, h2, h3, h4, h5⟩ := lBr_inv hb
  have hw : lW f L s x.1 < 10 := by have := wf_le f x.1 (lP0 f L x.1) s; unfold lW at h1 ⊢; omega
  have hs : kwS (lW f L s x.1) = s := (wf_yes hw).1
  obtain ⟨z1, z2, z3, z4⟩ := lUw_0 c
  obtain ⟨v1, v2, v3⟩ := h z1
  rw [lSt_4 c, lSt_2]
  by_cases w1 : lW f L s x.1 = 1
  · have e2 : lnN (lW f L s x.1) x.2.1 = x.2.1 := if_pos w1
    have eT : tkD s (lW f L s x.1) x.2.1 (lV0 f L x.1) (lV1 f L x.1) x.2.2.2 = (x.2.2.2.1, x.2.2.2.2.1, fun g => if g = lV0 f L x.1 % 4 then lV1 f L x.1 else x.2.2.2.2.2.1 g, x.2.2.2.2.2.2 ||| 2 ^ (lV0 f L x.1 % 4)) := if_pos w1
    rw [e2, eT]
    refine ⟨v1, v2, fun g => ?_⟩
    show (if g = lV0 f L x.1 % 4 then lV1 f L x.1 else x.2.2.2.2.2.1 g) ≤ 9
    by_cases e : g = lV0 f L x.1 % 4
    · rw [if_pos e]
      rw [w1] at z4
      have : ¬ (lV1 f L x.1 < 0 ∨ 9 < lV1 f L x.1) := fun c => by have := (bad_iff (w := 1) (k := 1)).mpr c; rw [(z4 rfl).1] at this; cases this
      omega
    · rw [if_neg e]; exact v3 g
  · rw [lnN_n w1, tk_n w1]
    refine ⟨z2 w1, fun q hq => ?_, v3⟩
    show VL s (if q = x.2.1 then _ else x.2.2.2.1 q) (if q = x.2.1 then _ else x.2.2.2.2.1 q)
    by_cases e : q = x.2.1
    · rw [if_pos e, if_pos e]; exact VL_tk hw hs w1 z3 z4
    · rw [if_neg e, if_neg e]; exact v2 q (by omega)
theorem VD_prs {f : Nat → Nat} {L s : Nat} : ∀ k x, ((x : pS).2.2.1.1 = 0 → VD s x.2.1 x.2.2.2) → (prs f L s k x).1 = none → (prs f L s k x).2.2.2.1.1 = 0 → VD s (prs f L s k x).2.2.1 (prs f L s k x).2.2.2.2
  | 0, x, h, _, h2 => h h2
  | k + 1, x, h, h1, h2 => by
    rw [prs] at h1 h2 ⊢
    by_cases g : L ≤ x.1
    · rw [if_pos g] at h1 h2 ⊢; exact h h2
    · rw [if_neg g] at h1 h2 ⊢
      cases hb : lBr f L s x.1 with
      | some b => rw [hb] at h1; cases h1
      | none =>
        rw [hb] at h1 h2
        exact VD_prs k (lSt f L s x) (fun c => VD_st hb h c) h1 h2
theorem pd_prs {f : Nat → Nat} {L s : Nat} (hs : s ≠ 0) : ∀ k x, (x : pS).2.2.2.2.2.2 = 0 → (prs f L s k x).2.2.2.2.2.2.2 = 0
  | 0, x, h => h
  | k + 1, x, h => by
    rw [prs]
    by_cases g : L ≤ x.1
    · rw [if_pos g]; exact h
    · rw [if_neg g]
      cases hb : lBr f L s x.1 with
      | some b => exact h
      | none =>
        refine pd_prs hs k (lSt f L s x) ?_
        obtain ⟨h1, _⟩ := lBr_inv hb
        have hw : lW f L s x.1 < 10 := by have := wf_le f x.1 (lP0 f L x.1) s; unfold lW at h1 ⊢; omega
        have h2 : kwS (lW f L s x.1) = s := (wf_yes hw).1
        have w1 : lW f L s x.1 ≠ 1 := fun c => by rw [c] at h2; exact hs h2.symm
        by_cases c : (lUw f L s (lW f L s x.1) x.1 x.2.1 x.2.2.1).1 = 0
        · rw [lSt_4 c, tk_n w1]; exact h
        · rw [lSt_5 c]; exact h
/-- a text that is read without fault -/
theorem PRF_ok {f : Nat → Nat} {L s : Nat} (h : (PRF f L s).1 = 0) : (PRS f L s).1 = none ∧ (PRS f L s).2.2.2.1.1 = 0 ∧ VD s (PRS f L s).2.2.1 (PRS f L s).2.2.2.2 := by
  unfold PRF at h
  cases hr : (PRS f L s).1 with
  | some b => rw [hr] at h; exact absurd (show (1 : Nat) = 0 from h) (by decide)
  | none =>
    rw [hr] at h
    have u0 : (PRS f L s).2.2.2.1.1 = 0 := by
      by_cases g : (PRS f L s).2.2.1 < 4 ∧ (PRS f L s).2.2.2.2.2.2.2 / 2 ^ (PRS f L s).2.2.1 ≠ 0
      · have h : (if (PRS f L s).2.2.1 < 4 ∧ (PRS f L s).2.2.2.2.2.2.2 / 2 ^ (PRS f L s).2.2.1 ≠ 0 then nte 4 L (PRS f L s).2.2.2.1 else (PRS f L s).2.2.2.1).1 = 0 := h
        rw [if_pos g] at h; exact absurd h (nte_0 (by decide))
      · have h : (if (PRS f L s).2.2.1 < 4 ∧ (PRS f L s).2.2.2.2.2.2.2 / 2 ^ (PRS f L s).2.2.1 ≠ 0 then nte 4 L (PRS f L s).2.2.2.1 else (PRS f L s).2.2.2.1).1 = 0 := h
        rw [if_neg g] at h; exact h
    exact ⟨rfl, u0, VD_prs 601 (p00 f L) (fun _ => ⟨Nat.zero_le _, fun q hq => absurd hq (Nat.not_lt_zero q), fun g => (by decide : 1 ≤ 9)⟩) hr u0⟩
set_option maxHeartbeats 1000000 in
theorem sp_readText {Q : Int32 → mg_H → Prop} {h : mg_H} {f : Nat → Nat} {L s : Nat} (hs : s < 4) (T : TP h L f) (q : ∀ g v, md [3, 4, 19, 20] sT h g → (∀ j, j ≠ 0 → mg_i g 3 j = mg_i h 3 j ∧ mg_i g 4 j = mg_i h 4 j) → mg_i g 3 0 = nI (PRF f L s).1 → mg_i g 4 0 = (if (PRF f L s).1 = 0 then nM else nI (PRF f L s).2) → ((PRF f L s).1 = 0 → v = 1 ∧ mg_i g 19 0 = nI (PRS f L s).2.2.1 ∧ RT g s (PRS f L s).2.2.1 (PRS f L s).2.2.2.2) → (¬ (PRF f L s).1 = 0 → v = 0) → Q v g) : wp_readText Q (nI s) h := by
  obtain ⟨X_, eX⟩ : ∃ X, PRS f L s = X := ⟨_, rfl⟩
  obtain ⟨U_, eU⟩ : ∃ U, PRF f L s = U := ⟨_, rfl⟩
  have hU : (∀ b, X_.1 = some b → U_ = (1, b)) ∧ (X_.1 = none → U_ = if X_.2.2.1 < 4 ∧ X_.2.2.2.2.2.2.2 / 2 ^ X_.2.2.1 ≠ 0 then nte 4 L X_.2.2.2.1 else X_.2.2.2.1) := by
    rw [← eX, ← eU]
    refine ⟨fun b hb => ?_, fun hb => ?_⟩
    · unfold PRF; rw [hb]
    · unfold PRF; rw [hb]
  have hpd : s ≠ 0 → X_.2.2.2.2.2.2.2 = 0 := fun s0 => by rw [← eX]; exact pd_prs s0 601 (p00 f L) rfl
  rw [eX, eU] at q
  have tL := T.2.1
  unfold wp_readText
  intro R2 R102 R32 R33 R119 R151 c2 c102 c32 c33 c119 c151
  -- the end: fault and place
  have fin : ∀ (g : mg_H) (y : Int32) (u : fS), u = U_ → md [19, 20] sT h g → ((y = 0 ∧ ∃ b, u = (1, b) ∧ mg_i g 0 16 = nI b) ∨ (y = 1 ∧ LF g u ∧ (u.1 = 0 → mg_i g 19 0 = nI X_.2.2.1 ∧ RT g s X_.2.2.1 X_.2.2.2.2))) → R102 y g := by
    intro g y u eu e hy
    have f151 : ∀ (g1 : mg_H) (v : Int32), md [3, 19, 20] sT h g1 → (∀ j, j ≠ 0 → mg_i g1 3 j = mg_i h 3 j) → mg_i g1 3 0 = nI u.1 → u.1 < 5 → v = (if u.1 = 0 then nM else nI u.2) → (u.1 = 0 → mg_i g1 19 0 = nI X_.2.2.1 ∧ RT g1 s X_.2.2.1 X_.2.2.2.2) → R151 v 0 g1 := by
      intro g1 v e1 k3 a3 a5 ev d
      refine c151 _ _ _ ⟨mp_in0 (by decide) (by decide), ?_⟩
      rintro _ rfl
      have eg : md [3, 4, 19, 20] sT h (mg_ui g1 4 (0 : Int32).toNatClampNeg v) := md.ui (e1.mono (by decide) (by decide)) (by decide) (by decide)
      have b3 : mg_i (mg_ui g1 4 (0 : Int32).toNatClampNeg v) 3 (0 : Int32).toNatClampNeg = nI u.1 := by rw [mi_cell (by decide)]; exact a3
      have res : ∀ w : Int32, (u.1 = 0 → w = 1) → (¬ u.1 = 0 → w = 0) → Q w (mg_ui g1 4 (0 : Int32).toNatClampNeg v) := by
        intro w w1 w0
        refine q _ w eg (fun j hj => ⟨by rw [mi_cell (by decide)]; exact k3 j hj, by rw [mi_place (show j ≠ (0 : Int32).toNatClampNeg from hj)]; exact e1.1 4 (by decide) (by decide) j⟩) (by rw [← eu]; exact b3) (by rw [← eu, ← ev]; exact mi_same) (fun c => ?_) (fun c => w0 (by rw [eu]; exact c))
        have c : u.1 = 0 := by rw [eu]; exact c
        exact ⟨w1 c, by rw [mi_cell (by decide)]; exact (d c).1, (d c).2.mv (md.ui (md.rf (L := [4]) (S := [])) (by decide) (by decide)) (by decide) (by decide)⟩
      refine ⟨mp_in0 (by decide) (by decide), ?_⟩
      rw [b3]
      by_cases u0 : u.1 = 0
      · exact bq_nf (by rw [u0]; rfl) (res 1 (fun _ => rfl) (fun c => absurd u0 c))
      · exact bq_nt (fun c => u0 ((nI_eq (b := 0) (by omega) (by decide)).mp c)) (res 0 (fun c => absurd c u0) (fun _ => rfl))
    rcases hy with ⟨ey, b, eb, w16⟩ | ⟨ey, F, d⟩
    · rw [ey]
      refine c102 _ _ (bq_t rfl (c119 _ _ _ _ ⟨mp_in0 (by decide) (by decide), ?_⟩))
      rintro _ rfl
      refine bq_nf rfl ?_
      refine f151 _ _ (md.ui (e.mono (by decide) (by decide)) (by decide) (by decide)) (fun j hj => by rw [mi_place (show j ≠ (0 : Int32).toNatClampNeg from hj)]; exact e.1 3 (by decide) (by decide) j) (by rw [eb]; exact mi_same) (by rw [eb]; exact (by decide : 1 < 5)) ?_ (fun c => by rw [eb] at c; exact absurd (show (1 : Nat) = 0 from c) (by decide))
      rw [mi_cell (by decide), w16, eb]
      exact (if_neg (by decide : ¬ (1 : Nat) = 0)).symm
    · rw [ey]
      have f5 := F.2.1
      refine c102 _ _ (bq_f (by decide) (c119 _ _ _ _ ⟨mp_in0 (by decide) (by decide), ?_⟩))
      rw [F.1]
      rintro _ rfl
      refine bq_nt (by decide) ?_
      have e1 : md [3, 19, 20] sT h (mg_ui g 3 (0 : Int32).toNatClampNeg (nI u.1)) := md.ui (e.mono (by decide) (by decide)) (by decide) (by decide)
      have ee : md [3] [] g (mg_ui g 3 (0 : Int32).toNatClampNeg (nI u.1)) := md.ui md.rf (by decide) (by decide)
      have go : ∀ v, v = (if u.1 = 0 then nM else nI u.2) → R151 v 0 (mg_ui g 3 (0 : Int32).toNatClampNeg (nI u.1)) := fun v ev => f151 _ v e1 (fun j hj => by rw [mi_place (show j ≠ (0 : Int32).toNatClampNeg from hj)]; exact e.1 3 (by decide) (by decide) j) mi_same f5 ev (fun c => ⟨by rw [mi_cell (by decide)]; exact (d c).1, (d c).2.mv ee (by decide) (by decide)⟩)
      rw [mi_cell (by decide), F.1]
      by_cases u0 : u.1 = 0
      · exact bq_t (by rw [u0]; decide) (go _ (by rw [if_pos u0]; rfl))
      · refine bq_f (nI_nle (by omega) (by omega)) (go _ ?_)
        rw [mi_cell (by decide), if_neg u0]; exact (F.2.2 u0).1
  refine lp (σ := mg_H) (R := fun k g => R2 (nI k) g) (fun k g => md [19] [] h g ∧ ∀ j, j < k → mg_i g 19 j = if s = 0 ∧ 9 ≤ j ∧ j ≤ 12 then nI 1 else nI 0) 0 81 (Nat.zero_le _) ?_ ?_ h ⟨md.rf, fun j hj => absurd hj (Nat.not_lt_zero j)⟩
  · rintro g ⟨e, hg⟩
    refine c2 _ _ (bq_t (by decide) ?_)
    rintro _ rfl _ rfl _ rfl
    have e3 : md [19, 20] sT h (mg_ui (mg_ui (mg_ui g 0 21 (-1)) 0 10 0) 0 17 0) := md.u0 (md.u0 (md.u0 (e.mono (by decide) (by decide)) (by decide)) (by decide)) (by decide)
    have t3 : ∀ j, mg_i (mg_ui (mg_ui (mg_ui g 0 21 (-1)) 0 10 0) 0 17 0) 19 j = mg_i g 19 j := fun j => by rw [mi_cell (by decide), mi_cell (by decide), mi_cell (by decide)]
    have g10 : mg_i (mg_ui (mg_ui (mg_ui g 0 21 (-1)) 0 10 0) 0 17 0) 0 10 = nI 0 := by rw [mi_place (by decide), mi_same]; rfl
    have g17 : mg_i (mg_ui (mg_ui (mg_ui g 0 21 (-1)) 0 10 0) 0 17 0) 0 17 = nI 0 := by rw [mi_same]; rfl
    have g21 : mg_i (mg_ui (mg_ui (mg_ui g 0 21 (-1)) 0 10 0) 0 17 0) 0 21 = nM := by rw [mi_place (by decide), mi_place (by decide), mi_same]; rfl
    generalize mg_ui (mg_ui (mg_ui g 0 21 (-1)) 0 10 0) 0 17 0 = g3 at e3 t3 g10 g17 g21
    refine sp_token (T.mv e3 (by decide) (by decide)) g10 (Nat.zero_le L) (fun g4 e4 K4 => ?_)
    have e04 : md [19, 20] sT h g4 := e3.tr (e4.mono (by decide) (by decide))
    have t4 : ∀ j, j < 81 → mg_i g4 19 j = if s = 0 ∧ 9 ≤ j ∧ j ≤ 12 then nI 1 else nI 0 := fun j hj => ((e4.1 19 (by decide) (by decide) j).trans (t3 j)).trans (hg j hj)
    have A0 : AL g4 g4 f L s (p00 f L) := by
      refine ⟨md.rf, K4, ⟨(e4.2 17 (by decide)).trans g17, (by decide : 0 < 5), fun c => absurd rfl c⟩, fun c => absurd rfl c, ?_, fun _ => ⟨Nat.zero_le _, fun c => ⟨fun q hq => absurd hq (Nat.not_lt_zero q), fun x hx => ?_, (by decide : 0 < 16), Or.inl ⟨rfl, (e4.2 21 (by decide)).trans g21⟩⟩, fun _ q hq => absurd hq (Nat.not_lt_zero q), fun _ q hq => absurd hq (Nat.not_lt_zero q)⟩⟩
      · rw [t4 0 (by decide), if_neg (by omega)]
        show nI 0 = nI (min (xt_room s) 0)
        rw [Nat.min_zero]
      · rw [t4 (9 + x) (by omega), if_pos ⟨c, by omega, by omega⟩]; rfl
    refine sp_allLines hs (T.mv e04 (by decide) (by decide)) (fun g5 b e5 w5 r5 => bq_t rfl ?_) (fun g5 r5 L5 A5 => bq_f (by decide) ?_) A0 <;> (first | rw [eX] at r5 L5 A5 | rw [eX] at r5)
    · exact fin g5 0 (1, b) (hU.1 b r5).symm (e04.tr e5) (Or.inl ⟨rfl, b, rfl, w5⟩)
    · obtain ⟨e5, K5, F5, hu5, N5, D5⟩ := A5
      have E5 := e04.tr e5
      have eF := hU.2 r5
      have same : U_ = X_.2.2.2.1 → R102 1 g5 := fun c => fin g5 1 _ c.symm E5 (Or.inr ⟨rfl, F5, fun c2 => ⟨by rw [N5, Nat.min_eq_right (D5 c2).1], (D5 c2).2⟩⟩)
      by_cases s0 : s = 0
      · refine bq_nf (by rw [s0]; rfl) ?_
        rw [F5.1]
        by_cases u0 : X_.2.2.2.1.1 = 0
        · obtain ⟨hn4, R5⟩ := D5 u0
          have hr : xt_room s = 4 := by rw [s0]; rfl
          obtain ⟨b1, b2, b3, b4⟩ := R5.1 s0
          refine bq_nf (by rw [u0]; rfl) ⟨mp_in0 (by decide) (by decide), ?_⟩
          have N50 : mg_i g5 19 (0 : Int32).toNatClampNeg = nI X_.2.2.1 := N5.trans (by rw [Nat.min_eq_right hn4])
          rw [N50]
          rcases b4 with ⟨x0, x1⟩ | ⟨k, k4, x1, x2, x3⟩
          · rw [x1]
            refine bq_t (by rw [nM_ltI (by omega)]; trivial) ?_
            have z := same (by rw [eF, x0, if_neg (fun c => c.2 (Nat.zero_div _))])
            exact z
          · rw [x1]
            by_cases gk : k < X_.2.2.1
            · refine bq_t (nI_lt gk (by omega)) (same ?_)
              rw [eF, if_neg (fun c => c.2 (Nat.div_eq_of_lt (Nat.lt_of_lt_of_le x3 (Nat.pow_le_pow_right (by decide) gk))))]
            · refine bq_f (nI_nlt (by omega) (by omega)) ?_
              rw [K5.1, L5]
              have ge : 2 ^ k ≤ X_.2.2.2.2.2.2.2 := Nat.ge_two_pow_of_testBit x2
              have cond : X_.2.2.1 < 4 ∧ X_.2.2.2.2.2.2.2 / 2 ^ X_.2.2.1 ≠ 0 := by
                refine ⟨by omega, fun c => ?_⟩
                have h9 : 2 ^ X_.2.2.1 ≤ 2 ^ k := Nat.pow_le_pow_right (by decide) (by omega)
                have := (Nat.div_eq_zero_iff.mp c)
                rcases this with h8 | h8
                · have := Nat.two_pow_pos X_.2.2.1; omega
                · omega
              refine sp_addsFault (c := 4) F5 (fun c => absurd u0 c) tL (by decide) (by decide) (fun g6 e6 F6 => ?_)
              have z := fin g6 1 _ (by rw [eF, if_pos cond] : nte 4 L X_.2.2.2.1 = U_) (E5.tr (e6.mono (by decide) (by decide))) (Or.inr ⟨rfl, F6, fun c => absurd c (nte_0 (by decide))⟩)
              exact z
        · refine bq_nt (fun c => u0 ((nI_eq (b := 0) (by have := F5.2.1; omega) (by decide)).mp c)) (same ?_)
          rw [eF]
          have : nte 4 L X_.2.2.2.1 = X_.2.2.2.1 := if_neg u0
          rw [this]
          split <;> rfl
      · have pd0 : X_.2.2.2.2.2.2.2 = 0 := hpd s0
        refine bq_nt (fun c => s0 ((nI_eq (b := 0) (by omega) (by decide)).mp c)) (same ?_)
        rw [eF, pd0, if_neg (fun c => c.2 (Nat.zero_div _))]
  · rintro k g _ hk ⟨e, hg⟩ ih
    have f33 : ∀ v, v = (if s = 0 ∧ 9 ≤ k ∧ k ≤ 12 then nI 1 else nI 0) → R33 (nI k) v (nI k) g := by
      intro v ev
      refine c33 _ _ _ _ ⟨vp_in_nI (show k < 81 from hk) (by decide), ?_⟩
      rintro _ rfl _ rfl
      rw [nI_1, nI_clamp (by omega)]
      refine ih _ ⟨md.ui e (by decide) (by decide), fun j hj => ?_⟩
      by_cases ej : j = k
      · rw [ej, mi_same]; exact ev
      · rw [mi_place ej]; exact hg j (by omega)
    refine c2 _ _ (bq_f (nI_ge hk (by decide)) ?_)
    by_cases s0 : s = 0
    · refine bq_nf (by rw [s0]; rfl) (sp_inR (a := 9) (b := 12) (by omega) (by decide) (by decide) (fun c => bq_f (by decide) (f33 _ ?_)) (fun c => bq_t rfl (c32 _ _ _ (f33 _ ?_))))
      · have := of_decide_eq_true c
        rw [if_pos ⟨s0, this.1, this.2⟩]; rfl
      · have := of_decide_eq_false c
        rw [if_neg (fun c2 => this ⟨c2.2.1, c2.2.2⟩)]; rfl
    · refine bq_nt (fun c => s0 ((nI_eq (b := 0) (by omega) (by decide)).mp c)) (c32 _ _ _ (f33 _ ?_))
      rw [if_neg (fun c2 => s0 c2.1)]; rfl
