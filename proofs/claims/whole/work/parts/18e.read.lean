/-! the class: Reader: finish, read -/
theorem sp_X6_finish {Y : xg_Y} {Q : xg_H → Prop} {h : xg_H} {nm : Nat → Nat} {L s m pd : Nat} {u : fS} (hn : inj nm) (R : XR Y h nm) (hs : s < 4) (h8 : xg_i h (nm 50) 8 = nI s) (h9 : xg_i h (nm 50) 9 = nI m) (hm : m < 1000) (h6 : xg_i h (nm 50) 6 = nI L) (F : FT h nm u) (hpd : u.1 = 0 → xg_i h (nm 50) 10 = nI pd ∧ pd < 16)
    (q : ∀ h', xd nm [50, 60 + s, 90 + s] h h' → FT h' nm (if m < 4 ∧ pd / 2 ^ m ≠ 0 then nte 4 L u else u) → xg_i h' (nm (60 + s)) 0 = nI (min m (xt_room s)) → (s = 0 → ∀ g, g < 4 → xg_i h' (nm 90) g = xg_i h (nm 52) g) → Q h') : wp_X6_finish Y Q (nm 50) h := by
  obtain ⟨k6, ⟨o2, k51⟩, ⟨o3, k52⟩, ⟨o4, k53⟩, dr⟩ := R
  obtain ⟨r1, r2, ⟨r3, k70⟩, ⟨r4, k80⟩, ⟨r5, k90⟩⟩ := dr s hs
  have hrm := rm_b s hs
  unfold wp_X6_finish
  refine ⟨k6, fun R55 R57 c55 c57 => ⟨nm 51, o2, k51.1, ?_⟩⟩
  rw [k51.2, h8, nI_clamp (n := s) (by omega), r1]
  refine ⟨vp_in_nI hs (by decide), ?_⟩
  rintro _ rfl
  refine ⟨nm (60 + s), rfl, r2, nm (70 + s), r3, k70.1, ?_⟩
  rw [k70.2, h9]
  have ez : (if Int32.ofNat (xt_room s) < nI m then Int32.ofNat (xt_room s) else nI m) = nI (min m (xt_room s)) := by
    show (if nI (xt_room s) < nI m then nI (xt_room s) else nI m) = _
    by_cases g : xt_room s < m
    · rw [if_pos (nI_lt g (by omega)), Nat.min_eq_right (by omega)]
    · rw [if_neg (nI_nlt (by omega) (by omega)), Nat.min_eq_left (by omega)]
  rw [ez]
  rintro _ rfl _ rfl
  -- the prices
  have f55 : ∀ s1, xd nm [50, 60 + s] h s1 → FT s1 nm (if m < 4 ∧ pd / 2 ^ m ≠ 0 then nte 4 L u else u) → xg_i s1 (nm (60 + s)) 0 = nI (min m (xt_room s)) → R55 (some (nm (60 + s))) s1 := by
    intro s1 e1 F1 g1
    refine c55 _ _ ?_
    have k9 : (if s = 0 then 4 else 0) ≤ 4 := by split <;> omega
    refine lp (σ := xg_H) (R := fun k s2 => R57 (some (nm (60 + s))) (nI k) s2) (fun k s2 => xd nm [90 + s] s1 s2 ∧ ∀ g, g < k → xg_i s2 (nm (90 + s)) g = xg_i h (nm 52) g) 0 (if s = 0 then 4 else 0) (Nat.zero_le _) ?_ ?_ s1 ⟨xd.rf, fun g hg => absurd hg (Nat.not_lt_zero g)⟩
    · rintro s2 ⟨e2, g2⟩
      have e12 : xd nm [50, 60 + s, 90 + s] h s2 := (e1.mono (by simp)).tr (e2.mono (by simp))
      refine c57 _ _ _ ⟨nm (60 + s), rfl, r2, nm (90 + s), (e12.2 _ _).trans r5, k90.1, ?_⟩
      rw [k90.2]
      refine bq_t (nI_le (Nat.le_refl _) (by omega)) (q s2 e12 ⟨(e2.i 50 (by simp <;> omega) 0).trans F1.1, F1.2.1, (e2.i 50 (by simp <;> omega) 1).trans F1.2.2⟩ ((e2.i (60 + s) (by simp) 0).trans g1) (fun c g hg => ?_))
      have z := g2 g (by rw [if_pos c]; exact hg)
      rw [c] at z
      exact z
    · rintro k s2 _ hk ⟨e2, g2⟩ ih
      have e12 : xd nm [50, 60 + s, 90 + s] h s2 := (e1.mono (by simp)).tr (e2.mono (by simp))
      refine c57 _ _ _ ⟨nm (60 + s), rfl, r2, nm (90 + s), (e12.2 _ _).trans r5, k90.1, ?_⟩
      rw [k90.2]
      refine bq_f (nI_ge hk (by omega)) ⟨nm 52, (e12.2 _ _).trans o3, k52.1, ?_⟩
      rw [k52.2, nI_clamp (n := k) (by omega)]
      refine ⟨vp_in_nI (by omega) (by decide), vp_in_nI hk (by omega), ?_⟩
      rintro _ rfl _ rfl
      rw [nI_1]
      refine ih _ ⟨xd.ui hn e2 (List.mem_singleton_self _), fun g hg => ?_⟩
      by_cases e : g = k
      · rw [e, xi_same]; exact e12.i 52 (by simp <;> omega) k
      · rw [xu_p hn e]; exact g2 g (by omega)
  have e0 : xd nm [50, 60 + s] h (xg_ui h (nm (60 + s)) 0 (nI (min m (xt_room s)))) := xd.ui hn xd.rf (by simp)
  have F0 : FT (xg_ui h (nm (60 + s)) 0 (nI (min m (xt_room s)))) nm u := ⟨by rw [xu_c hn (by omega)]; exact F.1, F.2.1, by rw [xu_c hn (by omega)]; exact F.2.2⟩
  rw [xu_c hn (by omega), h9]
  by_cases g4 : 4 ≤ m
  · refine bq_t (nI_le (a := 4) g4 (by omega)) (f55 _ e0 ?_ xi_same)
    rw [if_neg (fun c => by omega)]; exact F0
  · refine bq_f (nI_ge (b := 4) (by omega) (by decide)) ?_
    rw [xu_c hn (by omega), xu_c hn (by omega), h6]
    by_cases u0 : u.1 = 0
    · obtain ⟨p1, p2⟩ := hpd u0
      rw [p1, nl_31, m31 (by omega), sr_I (by omega) (by omega)]
      have hq : pd / 2 ^ m ≤ pd := Nat.div_le_self _ _
      by_cases gp : pd / 2 ^ m = 0
      · refine bq_t (by rw [gp]; rfl) (f55 _ e0 ?_ xi_same)
        rw [if_neg (fun c => c.2 gp)]; exact F0
      · refine bq_f (fun c => gp ((nI_eq (b := 0) (by omega) (by decide)).mp c)) (sp_X6_note (c := 4) hn k6 F0 (by decide) (by decide) (fun s1 e1 k1 F1 => f55 s1 (e0.tr (e1.mono (by simp))) ?_ ((e1.i (60 + s) (by simp <;> omega) 0).trans xi_same)))
        rw [if_pos ⟨by omega, gp⟩]; exact F1
    · have eU : (if m < 4 ∧ pd / 2 ^ m ≠ 0 then nte 4 L u else u) = u := by
        have : nte 4 L u = u := if_neg u0
        rw [this]; split <;> rfl
      rw [eU] at f55
      refine ⟨fun _ => f55 _ e0 F0 xi_same, fun _ => sp_X6_note (c := 4) hn k6 F0 (by decide) (by decide) (fun s1 e1 k1 F1 => f55 s1 (e0.tr (e1.mono (by simp))) ?_ ((e1.i (60 + s) (by simp <;> omega) 0).trans xi_same))⟩
      have : nte 4 L u = u := if_neg u0
      rw [this] at F1
      exact F1
theorem xi_uo (h : xg_H) (c j d k : Nat) (v : Option Nat) : xg_i (xg_uo h c j v) d k = xg_i h d k := rfl
theorem xl_uo (h : xg_H) (c j d k : Nat) (v : Option Nat) : xg_l (xg_uo h c j v) d k = xg_l h d k := rfl
theorem xo_uo (h : xg_H) (c j d k : Nat) (v : Option Nat) : xg_o (xg_uo h c j v) d k = if d = c ∧ k = j then v else xg_o h d k := rfl
/-- the cells of the reader of the sort s -/
def lRR (s : Nat) : List Nat := [50, 52, 53, 70 + s, 80 + s, 60 + s, 90 + s]
theorem lRR_R {s c : Nat} (h : c ∈ lR s) : c ∈ lRR s := by unfold lR at h; unfold lRR; simp at h ⊢ <;> omega
/-- a text is read: what the reader holds then -/
def RDN (h : xg_H) (nm : Nat → Nat) (f : Nat → Nat) (L s : Nat) : Prop := FT h nm (PRF f L s) ∧ ((PRF f L s).1 = 0 → (PRS f L s).2.2.1 ≤ xt_room s ∧ xg_i h (nm (60 + s)) 0 = nI (PRS f L s).2.2.1 ∧ (∀ q, q < (PRS f L s).2.2.1 → xg_i h (nm (70 + s)) q = (PRS f L s).2.2.2.2.1 q ∧ xg_i h (nm (80 + s)) q = (PRS f L s).2.2.2.2.2.1 q) ∧ (s = 0 → ∀ g, g < 4 → xg_i h (nm 90) g = nI ((PRS f L s).2.2.2.2.2.2.1 g)))
set_option maxHeartbeats 1000000 in
theorem sp_X6_read {Y : xg_Y} {Q : xg_H → Prop} {h : xg_H} {nm : Nat → Nat} {L s : Nat} {f : Nat → Nat} (hn : inj nm) (R : XR Y h nm) (k101 : xk Y nm 101 22 600) (hf : ∀ i, i < 600 → xg_i h (nm 101) i = nI (f i) ∧ f i < 256) (hs : s < 4) (hL : L ≤ 600)
    (q : ∀ h', xd nm (lRR s) (xg_uo h (nm 50) 5 (some (nm 101))) h' → RDN h' nm f L s → Q h') : wp_X6_read Y Q (nm 50) (nI s) (some (nm 101)) (nI L) h := by
  have k6 := R.1
  unfold wp_X6_read
  refine ⟨k6, fun R62 R103 c62 c103 => ?_⟩
  rw [nl_3, m3, show s % 4 = s by omega]
  rintro _ rfl _ rfl
  refine ⟨nm 101, rfl, k101.1, ?_⟩
  rw [k101.2]
  have ez : (if Int32.ofNat 600 < nI L then Int32.ofNat 600 else nI L) = nI L := if_neg (nI_nlt (a := 600) hL (by decide))
  rw [ez]
  rintro _ rfl _ rfl _ rfl _ rfl _ rfl _ rfl _ rfl
  -- the start
  have e0 : xd nm [50] (xg_uo h (nm 50) 5 (some (nm 101))) (xg_ui (xg_ui (xg_ui (xg_ui (xg_ui (xg_ui (xg_uo (xg_ui h (nm 50) 8 (nI s)) (nm 50) 5 (some (nm 101))) (nm 50) 6 (nI L)) (nm 50) 0 0) (nm 50) 1 (-1)) (nm 50) 7 0) (nm 50) 9 0) (nm 50) 10 0) := by
    have z : xd nm [50] (xg_uo h (nm 50) 5 (some (nm 101))) (xg_uo (xg_ui h (nm 50) 8 (nI s)) (nm 50) 5 (some (nm 101))) := ⟨fun c hc j => ⟨by rw [xi_uo, xi_uo, xu_c hn (fun e => hc (by rw [e]; exact List.mem_singleton_self 50))], rfl⟩, fun c j => rfl⟩
    exact xd.ui hn (xd.ui hn (xd.ui hn (xd.ui hn (xd.ui hn (xd.ui hn z (List.mem_singleton_self 50)) (List.mem_singleton_self 50)) (List.mem_singleton_self 50)) (List.mem_singleton_self 50)) (List.mem_singleton_self 50)) (List.mem_singleton_self 50)
  have g8 : xg_i (xg_ui (xg_ui (xg_ui (xg_ui (xg_ui (xg_ui (xg_uo (xg_ui h (nm 50) 8 (nI s)) (nm 50) 5 (some (nm 101))) (nm 50) 6 (nI L)) (nm 50) 0 0) (nm 50) 1 (-1)) (nm 50) 7 0) (nm 50) 9 0) (nm 50) 10 0) (nm 50) 8 = nI s := by
    rw [xu_p hn (by decide), xu_p hn (by decide), xu_p hn (by decide), xu_p hn (by decide), xu_p hn (by decide), xu_p hn (by decide), xi_uo, xi_same]
  have g6 : xg_i (xg_ui (xg_ui (xg_ui (xg_ui (xg_ui (xg_ui (xg_uo (xg_ui h (nm 50) 8 (nI s)) (nm 50) 5 (some (nm 101))) (nm 50) 6 (nI L)) (nm 50) 0 0) (nm 50) 1 (-1)) (nm 50) 7 0) (nm 50) 9 0) (nm 50) 10 0) (nm 50) 6 = nI L := by
    rw [xu_p hn (by decide), xu_p hn (by decide), xu_p hn (by decide), xu_p hn (by decide), xu_p hn (by decide), xi_same]
  have g0 : xg_i (xg_ui (xg_ui (xg_ui (xg_ui (xg_ui (xg_ui (xg_uo (xg_ui h (nm 50) 8 (nI s)) (nm 50) 5 (some (nm 101))) (nm 50) 6 (nI L)) (nm 50) 0 0) (nm 50) 1 (-1)) (nm 50) 7 0) (nm 50) 9 0) (nm 50) 10 0) (nm 50) 0 = nI 0 := by
    rw [xu_p hn (by decide), xu_p hn (by decide), xu_p hn (by decide), xu_p hn (by decide), xi_same]; rfl
  have g1 : xg_i (xg_ui (xg_ui (xg_ui (xg_ui (xg_ui (xg_ui (xg_uo (xg_ui h (nm 50) 8 (nI s)) (nm 50) 5 (some (nm 101))) (nm 50) 6 (nI L)) (nm 50) 0 0) (nm 50) 1 (-1)) (nm 50) 7 0) (nm 50) 9 0) (nm 50) 10 0) (nm 50) 1 = nM := by
    rw [xu_p hn (by decide), xu_p hn (by decide), xu_p hn (by decide), xi_same]; rfl
  have g7 : xg_i (xg_ui (xg_ui (xg_ui (xg_ui (xg_ui (xg_ui (xg_uo (xg_ui h (nm 50) 8 (nI s)) (nm 50) 5 (some (nm 101))) (nm 50) 6 (nI L)) (nm 50) 0 0) (nm 50) 1 (-1)) (nm 50) 7 0) (nm 50) 9 0) (nm 50) 10 0) (nm 50) 7 = nI 0 := by
    rw [xu_p hn (by decide), xu_p hn (by decide), xi_same]; rfl
  have g9 : xg_i (xg_ui (xg_ui (xg_ui (xg_ui (xg_ui (xg_ui (xg_uo (xg_ui h (nm 50) 8 (nI s)) (nm 50) 5 (some (nm 101))) (nm 50) 6 (nI L)) (nm 50) 0 0) (nm 50) 1 (-1)) (nm 50) 7 0) (nm 50) 9 0) (nm 50) 10 0) (nm 50) 9 = nI 0 := by
    rw [xu_p hn (by decide), xi_same]; rfl
  have g10 : xg_i (xg_ui (xg_ui (xg_ui (xg_ui (xg_ui (xg_ui (xg_uo (xg_ui h (nm 50) 8 (nI s)) (nm 50) 5 (some (nm 101))) (nm 50) 6 (nI L)) (nm 50) 0 0) (nm 50) 1 (-1)) (nm 50) 7 0) (nm 50) 9 0) (nm 50) 10 0) (nm 50) 10 = nI 0 := xi_same
  generalize xg_ui (xg_ui (xg_ui (xg_ui (xg_ui (xg_ui (xg_uo (xg_ui h (nm 50) 8 (nI s)) (nm 50) 5 (some (nm 101))) (nm 50) 6 (nI L)) (nm 50) 0 0) (nm 50) 1 (-1)) (nm 50) 7 0) (nm 50) 9 0) (nm 50) 10 0 = h0 at e0 g8 g6 g0 g1 g7 g9 g10
  have Ro : XR Y (xg_uo h (nm 50) 5 (some (nm 101))) nm := by
    obtain ⟨a1, a2, a3, a4, a5⟩ := R
    have O : ∀ c j, ¬ (c = 50 ∧ j = 5) → xg_o (xg_uo h (nm 50) 5 (some (nm 101))) (nm c) j = xg_o h (nm c) j := fun c j hc => by
      rw [xo_uo, if_neg (fun e => hc ⟨hn _ _ e.1, e.2⟩)]
    refine ⟨a1, ⟨(O 50 2 (by omega)).trans a2.1, a2.2⟩, ⟨(O 50 3 (by omega)).trans a3.1, a3.2⟩, ⟨(O 50 4 (by omega)).trans a4.1, a4.2⟩, fun t ht => ?_⟩
    obtain ⟨b1, b2, b3, b4, b5⟩ := a5 t ht
    exact ⟨(O 51 t (by omega)).trans b1, b2, ⟨(O _ 1 (by omega)).trans b3.1, b3.2⟩, ⟨(O _ 2 (by omega)).trans b4.1, b4.2⟩, ⟨(O _ 3 (by omega)).trans b5.1, b5.2⟩⟩
  have R0 := Ro.mv e0
  have T0 : XT Y h0 nm L f := ⟨(e0.2 _ _).trans (by rw [xo_uo, if_pos ⟨rfl, rfl⟩]), k101, g6, hL, fun i hi => ⟨((e0.i 101 (by decide) i).trans (xi_uo _ _ _ _ _ _)).trans (hf i hi).1, (hf i hi).2⟩⟩
  rw [R0.2.2.1.1]
  refine sp_fill (c := 52) hn R0.2.2.1.2 (by decide) (fun h1 e1 p1 => ?_)
  have k1 : ∀ j, xg_i h1 (nm 50) j = xg_i h0 (nm 50) j := fun j => e1.i 50 (by decide) j
  have T1 : XT Y h1 nm L f := T0.mv e1 (by decide) (k1 6)
  refine sp_X6_skip hn k6 T1 ((k1 7).trans g7) (Nat.zero_le L) (fun h2 e2 k2 a2 => ?_)
  have E2 : xd nm (lRR s) (xg_uo h (nm 50) 5 (some (nm 101))) h2 := ((e0.mono (by unfold lRR; simp)).tr (e1.mono (by unfold lRR; simp))).tr (e2.mono (by unfold lRR; simp))
  -- the end
  have fin : ∀ s1 (r : Option Nat × pS), r = PRS f L s → xd nm (lRR s) (xg_uo h (nm 50) 5 (some (nm 101))) s1 → xg_i s1 (nm 50) 8 = nI s → xg_i s1 (nm 50) 6 = nI L → (∀ b, r.1 = some b → (∃ m, m < 1000 ∧ xg_i s1 (nm 50) 9 = nI m) ∧ FT s1 nm (1, b)) → (r.1 = none → r.2.2.1 < 1000 ∧ xg_i s1 (nm 50) 9 = nI r.2.2.1 ∧ FT s1 nm r.2.2.2.1 ∧ (r.2.2.2.1.1 = 0 → r.2.2.1 ≤ xt_room s ∧ RD s1 nm s r.2.2.1 r.2.2.2.2)) → R103 s1 := by
    intro s1 r er E d8 d6 hb hk
    have Rs := Ro.mv E
    refine c103 _ ?_
    cases hr : r.1 with
    | some b =>
      obtain ⟨⟨m, hm, d9⟩, Fb⟩ := hb b hr
      have eF : PRF f L s = (1, b) := by unfold PRF; rw [← er, hr]
      refine sp_X6_finish (pd := 0) hn Rs hs d8 d9 hm d6 Fb (fun c => absurd (show (1 : Nat) = 0 from c) (by decide)) (fun s2 e3 F3 _ _ => q s2 (E.tr (e3.mono (by unfold lRR; simp))) ⟨?_, fun c => ?_⟩)
      · rw [eF]
        have : nte 4 L (1, b) = (1, b) := rfl
        rw [this] at F3
        have z : (if m < 4 ∧ 0 / 2 ^ m ≠ 0 then ((1, b) : fS) else (1, b)) = (1, b) := by split <;> rfl
        rw [z] at F3
        exact F3
      · rw [eF] at c; exact absurd (show (1 : Nat) = 0 from c) (by decide)
    | none =>
      obtain ⟨hm, d9, Fk, dk⟩ := hk hr
      have eF : PRF f L s = if r.2.2.1 < 4 ∧ r.2.2.2.2.2.2.2 / 2 ^ r.2.2.1 ≠ 0 then nte 4 L r.2.2.2.1 else r.2.2.2.1 := by unfold PRF; rw [← er, hr]
      refine sp_X6_finish (pd := r.2.2.2.2.2.2.2) hn Rs hs d8 d9 hm d6 Fk (fun c => ⟨(dk c).2.1, (dk c).2.2.1⟩) (fun s2 e3 F3 n3 p3 => q s2 (E.tr (e3.mono (by unfold lRR; simp))) ⟨?_, fun c => ?_⟩)
      · rw [eF]; exact F3
      · have u0 : r.2.2.2.1.1 = 0 := by
          rw [eF] at c
          by_cases g : r.2.2.1 < 4 ∧ r.2.2.2.2.2.2.2 / 2 ^ r.2.2.1 ≠ 0
          · rw [if_pos g] at c; exact absurd c (nte_0 (by decide))
          · rw [if_neg g] at c; exact c
        obtain ⟨hrm, D1, D2, D3, D4⟩ := dk u0
        rw [← er]
        refine ⟨hrm, by rw [n3, Nat.min_eq_left hrm], fun q hq => ?_, fun c g hg => ?_⟩
        · rw [e3.i (70 + s) (by simp <;> omega), e3.i (80 + s) (by simp <;> omega)]; exact D4 q hq
        · rw [p3 c g hg]; exact D3 g hg
  refine lp (σ := xg_H × pS) (R := fun i z => R62 (nI i) z.1) (fun i z => prs f L s (601 - i) z.2 = PRS f L s ∧ (i ≤ z.2.1 ∧ z.2.1 ≤ L ∧ z.2.2.1 ≤ i ∧ (z.2.2.2.1.1 = 0 ∨ z.2.2.2.1.1 = 2 ∨ z.2.2.2.1.1 = 3)) ∧ xd nm (lRR s) (xg_uo h (nm 50) 5 (some (nm 101))) z.1 ∧ (xg_i z.1 (nm 50) 8 = nI s ∧ xg_i z.1 (nm 50) 6 = nI L ∧ xg_i z.1 (nm 50) 7 = nI z.2.1 ∧ xg_i z.1 (nm 50) 9 = nI z.2.2.1) ∧ FT z.1 nm z.2.2.2.1 ∧ (z.2.2.2.1.1 = 0 → z.2.2.1 ≤ xt_room s ∧ RD z.1 nm s z.2.2.1 z.2.2.2.2)) 0 601 (Nat.zero_le _) ?_ ?_ (h2, p00 f L) ⟨rfl, ⟨Nat.zero_le _, sce_le (Nat.zero_le L), Nat.le_refl 0, Or.inl rfl⟩, E2, ⟨(k2 8 (by decide)).trans ((k1 8).trans g8), (k2 6 (by decide)).trans ((k1 6).trans g6), a2, (k2 9 (by decide)).trans ((k1 9).trans g9)⟩, ⟨(k2 0 (by decide)).trans ((k1 0).trans g0), (by decide : 0 < 5), (k2 1 (by decide)).trans ((k1 1).trans g1)⟩, fun _ => ⟨Nat.zero_le _, (k2 10 (by decide)).trans ((k1 10).trans g10), (by decide : 0 < 16), fun g hg => ?_, fun q hq => absurd hq (Nat.not_lt_zero q)⟩⟩
  · rintro ⟨s1, x⟩ ⟨_, ⟨h1, h3, _⟩, _⟩
    dsimp only at h1 h3
    omega
  · rintro i ⟨s1, x⟩ _ hi ⟨er, ⟨x1, x2, x3, x4⟩, E, ⟨d8, d6, d7, d9⟩, Fx, dx⟩ ih
    dsimp only at er x1 x2 x3 x4 E d8 d6 d7 d9 Fx dx ⊢
    refine c62 _ _ (bq_f (nI_nlt (b := i) (a := 600) (by omega) (by decide)) ?_)
    rw [d6, d7, Fx.1]
    rw [show 601 - i = (600 - i) + 1 by omega, prs] at er
    by_cases g : L ≤ x.1
    · rw [if_pos g] at er
      refine bq_t (nI_le g (by omega)) (fin s1 (none, x) er E d8 d6 (fun b c => by cases c) (fun _ => ⟨by show x.2.1 < 1000; omega, d9, Fx, dx⟩))
    · rw [if_neg g] at er
      refine bq_f (nI_ge (by omega) (by omega)) (bq_f (fun c => by have := (nI_eq (b := 1) (by omega) (by decide)).mp c; omega) ?_)
      have Rs := Ro.mv E
      have Ts : XT Y s1 nm L f := ⟨(E.2 _ _).trans (by rw [xo_uo, if_pos ⟨rfl, rfl⟩]), k101, d6, hL, fun i hi => ⟨((E.i 101 (by unfold lRR; simp <;> omega) i).trans (xi_uo _ _ _ _ _ _)).trans (hf i hi).1, (hf i hi).2⟩⟩
      refine sp_X6_readLine (n := x.2.1) (u := x.2.2.1) (D := x.2.2.2) hn Rs Ts d7 x2 hs d8 d9 (by omega) Fx (fun c => (dx c).2) (fun s2 b m eb hbL e3 j6 j8 j7 hm j9 Fb => ?_) (fun s2 eb e3 j6 j8 j7 j9 Fk dk => ?_)
      · rw [eb] at er
        have E3 := E.tr (e3.mono (fun c hc => lRR_R hc))
        have T3 : XT Y s2 nm L f := Ts.mv e3 (by unfold lR; simp <;> omega) j6
        refine sp_X6_skip hn k6 T3 j7 hbL (fun s3 e4 k4 a4 => ?_)
        rintro _ rfl
        rw [nI_1]
        have done : R103 s3 := fin s3 (some b, x) er (E3.tr (e4.mono (by unfold lRR; simp))) ((k4 8 (by decide)).trans (j8.trans d8)) ((k4 6 (by decide)).trans (j6.trans d6)) (fun b' c => by cases c; exact ⟨⟨m, by omega, (k4 9 (by decide)).trans j9⟩, ⟨(k4 0 (by decide)).trans Fb.1, Fb.2.1, (k4 1 (by decide)).trans Fb.2.2⟩⟩) (fun c => by cases c)
        have f0 : xg_i s3 (nm 50) 0 = nI 1 := (k4 0 (by decide)).trans Fb.1
        refine c62 _ _ ⟨fun _ => done, fun _ => ⟨fun _ => done, fun _ => ⟨fun _ => done, fun c => absurd f0 c⟩⟩⟩
      · rw [eb] at er
        have E3 := E.tr (e3.mono (fun c hc => lRR_R hc))
        have T3 : XT Y s2 nm L f := Ts.mv e3 (by unfold lR; simp <;> omega) j6
        have hg := lSt_go x2 eb
        obtain ⟨_, _, _, hP, _⟩ := lBr_inv eb
        refine sp_X6_skip hn k6 T3 j7 (by omega) (fun s3 e4 k4 a4 => ?_)
        rintro _ rfl
        rw [nI_1]
        have hlN : lnN (lW f L s x.1) x.2.1 ≤ x.2.1 + 1 := by unfold lnN; split <;> omega
        refine ih (s3, lSt f L s x) ⟨by rw [show 601 - (i + 1) = 600 - i by omega]; exact er, ⟨Nat.lt_of_le_of_lt x1 hg.1, hg.2, by rw [lSt_2]; omega, by rw [lSt_3]; exact lUw_in x4⟩, E3.tr (e4.mono (by unfold lRR; simp)), ⟨(k4 8 (by decide)).trans (j8.trans d8), (k4 6 (by decide)).trans (j6.trans d6), by rw [lSt_s]; exact a4, by rw [lSt_2]; exact (k4 9 (by decide)).trans j9⟩, by rw [lSt_3]; exact ⟨(k4 0 (by decide)).trans Fk.1, Fk.2.1, (k4 1 (by decide)).trans Fk.2.2⟩, fun c => ?_⟩
        rw [lSt_3] at c
        obtain ⟨z1, z2, _⟩ := lUw_0 c
        have D := dk c
        refine ⟨?_, ?_⟩
        · rw [lSt_2]
          unfold lnN
          by_cases w1 : lW f L s x.1 = 1
          · rw [if_pos w1]; exact (dx z1).1
          · rw [if_neg w1]; exact z2 w1
        · rw [lSt_2, lSt_4 c]
          exact ⟨(k4 10 (by decide)).trans D.1, D.2.1, fun g hg => (e4.i 52 (by decide) g).trans (D.2.2.1 g hg), fun q hq => ⟨(e4.i (70 + s) (by simp <;> omega) q).trans (D.2.2.2 q hq).1, (e4.i (80 + s) (by simp <;> omega) q).trans (D.2.2.2 q hq).2⟩⟩
  · rw [e2.i 52 (by decide) g, p1 g, if_pos hg]; rfl
