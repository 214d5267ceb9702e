/-! the reference: lines of a text -/
def LF (g : mg_H) (u : fS) : Prop := mg_i g 0 17 = nI u.1 ∧ u.1 < 5 ∧ (u.1 ≠ 0 → mg_i g 0 18 = nI u.2 ∧ u.2 < 601)
theorem LF.mv {g g2 : mg_H} {u : fS} {M S : List Nat} (a : LF g u) (e : md M S g g2) (h7 : 17 ∉ S) (h8 : 18 ∉ S) : LF g2 u := ⟨(e.2 17 h7).trans a.1, a.2.1, fun c => ⟨(e.2 18 h8).trans (a.2.2 c).1, (a.2.2 c).2⟩⟩
theorem sp_addsFault {Q : mg_H → Prop} {h : mg_H} {c p : Nat} {u : fS} (F : LF h u) (hu : u.1 ≠ 0 → u.2 < p) (hp : p ≤ 600) (hc : c < 5) (hc0 : c ≠ 0) (q : ∀ h', md [] [17, 18] h h' → LF h' (nte c p u) → Q h') : wp_addsFault Q (nI c) (nI p) h := by
  have f5 := F.2.1
  unfold wp_addsFault
  intro R31 c31
  rw [F.1]
  by_cases u0 : u.1 = 0
  · have e9 : nte c p u = (c, p) := if_pos u0
    rw [e9] at q
    refine bq_t (by rw [u0]; rfl) (c31 _ ?_)
    rintro _ rfl _ rfl
    exact q _ (md.u0 (md.u0 md.rf (by decide)) (by decide)) ⟨by rw [mi_place (by decide), mi_same], hc, fun _ => ⟨mi_same, by show p < 601; omega⟩⟩
  · have e9 : nte c p u = u := if_neg u0
    rw [e9] at q
    have f18 := F.2.2 u0
    have hlt := hu u0
    rw [f18.1]
    exact bq_f (fun c => u0 ((nI_eq (b := 0) (by omega) (by decide)).mp c)) (bq_f (nI_nlt (by omega) (by omega)) (bq_nt (fun c => by have := (nI_eq (by omega) (by omega)).mp c; omega) (q h md.rf F)))
theorem nte_pl {c p : Nat} {u : fS} (h : u.1 ≠ 0 → u.2 < p) (h2 : (nte c p u).1 ≠ 0) : (nte c p u).2 ≤ p := by
  unfold nte at h2 ⊢
  by_cases u0 : u.1 = 0
  · rw [if_pos u0]; exact Nat.le_refl p
  · rw [if_neg u0]; exact Nat.le_of_lt (h u0)
theorem lU1_pl {s w p n : Nat} {u : fS} (h : u.1 ≠ 0 → u.2 < p) (h2 : (lU1 s w p n u).1 ≠ 0) : (lU1 s w p n u).2 ≤ p := by
  unfold lU1 at h2 ⊢
  by_cases g : w ≠ 1 ∧ xt_room s < n + 1
  · rw [if_pos g] at h2 ⊢; exact nte_pl h h2
  · rw [if_neg g] at h2 ⊢; exact Nat.le_of_lt (h h2)
theorem lU2_pl {w a v : Nat} {u : fS} (h : u.1 ≠ 0 → u.2 < a) (h2 : (lU2 w a v u).1 ≠ 0) : (lU2 w a v u).2 ≤ a := by
  unfold lU2 at h2 ⊢
  by_cases g : bad w 0 v = true
  · rw [if_pos g] at h2 ⊢; exact nte_pl h h2
  · rw [if_neg g] at h2 ⊢; exact Nat.le_of_lt (h h2)
theorem lU3_pl {w a v0 v : Nat} {u : fS} (h : u.1 ≠ 0 → u.2 < a) (h2 : (lU3 w a v0 v u).1 ≠ 0) : (lU3 w a v0 v u).2 ≤ a := by
  unfold lU3 at h2 ⊢
  by_cases g : bad w 1 v = true ∨ (w = 0 ∧ v0 < v)
  · rw [if_pos g] at h2 ⊢; exact nte_pl h h2
  · rw [if_neg g] at h2 ⊢; exact Nat.le_of_lt (h h2)
theorem TK_num {g : mg_H} {L P : Nat} {f : Nat → Nat} (hP : P ≤ L) (hL : L ≤ 600) (K : TK g L f (nb f L P)) : (nok f L P = true → mg_i g 0 13 = nI 3 ∧ mg_i g 0 14 = nI (nV f L P) ∧ mg_i g 0 10 = nI (nE f L P)) ∧ (nok f L P = false → ¬ mg_i g 0 13 = nI 3) := by
  have hb := nb_b (f := f) hP
  have hE := nE_b (f := f) hP
  obtain ⟨k1, k2, k3, k4, k5, k6⟩ := K
  refine ⟨fun ok => ?_, fun nk => ?_⟩
  · obtain ⟨o1, o2⟩ := nok_iff.mp ok
    have hd : isD (f (nb f L P)) = true := sce_all (p := isD) (f := f) (L := L) (i := nb f L P) (Nat.le_refl _) o1
    have z := k5 (by omega) hd
    have z2 := z.2.1 o2
    exact ⟨z2.1, z2.2, z.1⟩
  · have nk : ¬ (nb f L P < nE f L P ∧ nE f L P ≤ nb f L P + 2) := fun c => by have := nok_iff.mpr c; rw [nk] at this; cases this
    by_cases h1 : nb f L P = L
    · rw [k3 h1]; decide
    · have h2 : nb f L P < L := by omega
      cases hl : isL (f (nb f L P)) with
      | true => rw [(k4 h2 hl).1]; decide
      | false =>
        cases hd : isD (f (nb f L P)) with
        | true =>
          have hgt : nb f L P < nE f L P := by
            unfold nE; rw [sce_go h2 hd]; exact sce_ge
          have hgt2 : nb f L P + 2 < nE f L P := by omega
          rw [(k5 h2 hd).2.2 hgt2]; decide
        | false =>
          rw [(k6 h2 hl hd).2]
          by_cases g : f (nb f L P) = 59
          · rw [if_pos g]; decide
          · rw [if_neg g]; decide
theorem sp_takeR {Q : Int32 → mg_H → Prop} {h : mg_H} {L P k lo hi : Nat} {f : Nat → Nat} {u : fS} (T : TP h L f) (hP : P ≤ L) (K : TK h L f (nb f L P)) (hk : k < 2) (hlo : lo < 1000) (hhi : hi < 1000) (F : LF h u) (hu : u.1 ≠ 0 → u.2 < nb f L P)
    (q0 : ∀ h', md [] [16] h h' → nok f L P = false → mg_i h' 0 16 = nI (nb f L P) → Q 0 h')
    (q1 : ∀ h', md [20] [10, 12, 13, 14, 17, 18, 22] h h' → nok f L P = true → mg_i h' 20 k = nI (nV f L P) → (∀ j, j ≠ k → mg_i h' 20 j = mg_i h 20 j) → LF h' (if nV f L P < lo ∨ hi < nV f L P then nte 2 (nb f L P) u else u) → mg_i h' 0 22 = (if nV f L P < lo ∨ hi < nV f L P then 0 else mg_i h 0 22) → TK h' L f (nb f L (nE f L P)) → Q 1 h') : wp_take Q (nI k) (nI lo) (nI hi) h := by
  have tL := T.2.1
  have hE := nE_b (f := f) hP
  have hb := nb_b (f := f) hP
  have Kn := TK_num hP tL K
  unfold wp_take
  intro R49 c49
  cases ok : nok f L P with
  | false =>
    refine bq_f (Kn.2 ok) ?_
    unfold wp_fails
    rintro _ rfl
    exact ⟨Or.inl rfl, q0 _ (md.u0 md.rf (by decide)) ok (by rw [mi_same]; exact K.1)⟩
  | true =>
    obtain ⟨s3, s14, s10⟩ := Kn.1 ok
    have hV := nV_b ok
    have g49 : ∀ s, md [20] [17, 18, 22] h s → mg_i s 20 k = nI (nV f L P) → (∀ j, j ≠ k → mg_i s 20 j = mg_i h 20 j) → LF s (if nV f L P < lo ∨ hi < nV f L P then nte 2 (nb f L P) u else u) → mg_i s 0 22 = (if nV f L P < lo ∨ hi < nV f L P then 0 else mg_i h 0 22) → R49 s := by
      intro s e a1 a2 a3 a4
      refine c49 _ (sp_token (T.mv e (by decide) (by decide)) ((e.2 10 (by decide)).trans s10) hE.2 (fun s2 e2 K2 => ?_))
      exact q1 s2 ((e.mono (by decide) (by decide)).tr (e2.mono (by decide) (by decide))) ok ((e2.1 20 (by decide) (by decide) k).trans a1) (fun j hj => (e2.1 20 (by decide) (by decide) j).trans (a2 j hj)) (a3.mv e2 (by decide) (by decide)) ((e2.2 22 (by decide)).trans a4) K2
    refine bq_t s3 ⟨vp_in_nI (show k < 2 from hk) (by decide), ?_⟩
    rw [s14, nI_clamp (n := k) (by omega)]
    rintro _ rfl
    have e1 : md [20] [17, 18, 22] h (mg_ui h 20 k (nI (nV f L P))) := md.ui md.rf (by decide) (by decide)
    have w1 : mg_i (mg_ui h 20 k (nI (nV f L P))) 20 k = nI (nV f L P) := mi_same
    have w2 : ∀ j, j ≠ k → mg_i (mg_ui h 20 k (nI (nV f L P))) 20 j = mg_i h 20 j := fun j hj => mi_place hj
    rw [mi_cell (by decide), s14]
    refine sp_inR (by omega) (by omega) (by omega) (fun c => bq_nt (by decide) (g49 _ e1 w1 w2 ?_ ?_)) (fun c => bq_nf rfl ?_)
    · rw [if_neg (fun c2 => by have := of_decide_eq_true c; omega)]
      exact (md.mono (md.ui (md.rf (L := [20]) (S := [])) (by decide) (by decide)) (by decide) (by decide) : md [20] [] h (mg_ui h 20 k (nI (nV f L P)))) |> fun e => F.mv e (by decide) (by decide)
    · rw [if_neg (fun c2 => by have := of_decide_eq_true c; omega), mi_cell (by decide)]
    · have cc : nV f L P < lo ∨ hi < nV f L P := by
        have := of_decide_eq_false c
        omega
      have F1 : LF (mg_ui h 20 k (nI (nV f L P))) u := (md.ui (md.rf (L := [20]) (S := [])) (by decide) (by decide) : md [20] [] h (mg_ui h 20 k (nI (nV f L P)))) |> fun e => F.mv e (by decide) (by decide)
      rw [mi_cell (by decide), K.1]
      refine sp_addsFault (c := 2) F1 hu (by omega) (by decide) (by decide) (fun s2 e2 F2 => ?_)
      rintro _ rfl
      refine g49 _ (md.u0 (e1.tr (e2.mono (by decide) (by decide))) (by decide)) ?_ (fun j hj => ?_) ?_ ?_
      · rw [mi_cell (by decide)]; exact (e2.1 20 (by decide) (by decide) k).trans w1
      · rw [mi_cell (by decide)]; exact (e2.1 20 (by decide) (by decide) j).trans (w2 j hj)
      · rw [if_pos cc]
        exact ⟨by rw [mi_place (by decide)]; exact F2.1, F2.2.1, fun c9 => by rw [mi_place (by decide)]; exact F2.2.2 c9⟩
      · rw [if_pos cc, mi_same]
theorem sp_fullR {Q : mg_H → Prop} {h : mg_H} {s w n p : Nat} {u : fS} (hs : s < 4) (w1 : w ≠ 1) (N : mg_i h 19 0 = nI (min (xt_room s) n)) (F : LF h u) (hu : u.1 ≠ 0 → u.2 < p) (hp : p ≤ 600) (q : ∀ h', md [] [17, 18] h h' → LF h' (lU1 s w p n u) → Q h') : wp_full Q (nI (xt_room s)) (nI p) h := by
  have hrm := rm_b s hs
  unfold wp_full
  refine ⟨mp_in0 (by decide) (by decide), ?_⟩
  show ((¬ mg_i h 19 0 = _ → _) ∧ (mg_i h 19 0 = _ → _))
  rw [N]
  by_cases g : xt_room s < n + 1
  · refine bq_nf (by rw [Nat.min_eq_left (by omega)]) (sp_addsFault (c := 3) F hu hp (by decide) (by decide) (fun s2 e2 F2 => q s2 e2 ?_))
    unfold lU1; rw [if_pos ⟨w1, g⟩]; exact F2
  · refine bq_nt (fun c => by rw [Nat.min_eq_right (by omega)] at c; have := (nI_eq (by omega) (by omega)).mp c; omega) (q h md.rf ?_)
    unfold lU1; rw [if_neg (fun c => g c.2)]; exact F
/-- what is told so far, in the reference -/
def RT (g : mg_H) (s n : Nat) (D : dS) : Prop :=
  (s = 0 → (∀ q, q < n → mg_i g 19 (1 + q) = D.1 q ∧ mg_i g 19 (5 + q) = D.2.1 q) ∧ (∀ x, x < 4 → mg_i g 19 (9 + x) = nI (D.2.2.1 x)) ∧ D.2.2.2 < 16 ∧ ((D.2.2.2 = 0 ∧ mg_i g 0 21 = nM) ∨ ∃ k, k < 4 ∧ mg_i g 0 21 = nI k ∧ D.2.2.2.testBit k = true ∧ D.2.2.2 < 2 ^ (k + 1))) ∧
  (s = 1 ∨ s = 2 → ∀ q, q < n → mg_i g 19 (1 + 2 * q) = D.1 q ∧ mg_i g 19 (2 + 2 * q) = D.2.1 q) ∧
  (s = 3 → ∀ q, q < n → mg_i g 19 (1 + q) = D.1 q)
theorem RT.mv {g g2 : mg_H} {s n : Nat} {D : dS} {M S : List Nat} (a : RT g s n D) (e : md M S g g2) (h19 : 19 ∉ M) (h21 : 21 ∉ S) : RT g2 s n D := by
  obtain ⟨a1, a2, a3⟩ := a
  have E : ∀ j, mg_i g2 19 j = mg_i g 19 j := fun j => e.1 19 (by decide) h19 j
  have E2 := e.2 21 h21
  refine ⟨fun c => ?_, fun c q hq => ?_, fun c q hq => ?_⟩
  · obtain ⟨b1, b2, b3, b4⟩ := a1 c
    refine ⟨fun q hq => by rw [E, E]; exact b1 q hq, fun x hx => by rw [E]; exact b2 x hx, b3, ?_⟩
    rw [E2]; exact b4
  · rw [E, E]; exact a2 c q hq
  · rw [E]; exact a3 c q hq
abbrev sT : List Nat := [10, 12, 13, 14, 16, 17, 18, 21, 22]
/-- a line begins at p, its word ends at lP0 -/
def LnC (h : mg_H) (f : Nat → Nat) (L s p n : Nat) (u : fS) (D : dS) : Prop := TP h L f ∧ mg_i h 0 10 = nI (lP0 f L p) ∧ p < lP0 f L p ∧ p < L ∧ LF h u ∧ (u.1 ≠ 0 → u.2 < p) ∧ mg_i h 0 22 = 1 ∧ mg_i h 19 0 = nI (min (xt_room s) n) ∧ (u.1 = 0 → n ≤ xt_room s ∧ RT h s n D)
/-- a line is read, but for its end -/
def LK2 (h h' : mg_H) (f : Nat → Nat) (L s w p n : Nat) (u : fS) (D : dS) : Prop := md [19, 20] sT h h' ∧ TK h' L f (lP3 f L w p) ∧ LF h' (lUw f L s w p n u) ∧ mg_i h' 19 0 = nI (min (xt_room s) (lnN w n)) ∧ ((lUw f L s w p n u).1 = 0 → RT h' s (lnN w n) (tkD s w n (lV0 f L p) (lV1 f L p) D))
/-- the head of a line: room, then the token behind the word -/
theorem sp_headR {Q : mg_H → Prop} {h : mg_H} {f : Nat → Nat} {L s w p n : Nat} {u : fS} {D : dS} (C : LnC h f L s p n u D) (hs : s < 4) (w1 : w ≠ 1) (q : ∀ h', md [] [10, 12, 13, 14, 17, 18] h h' → TK h' L f (nb f L (lP0 f L p)) → LF h' (lU1 s w p n u) → Q h') : wp_full (fun h1 => wp_token (fun h2 => Q h2) h1) (nI (xt_room s)) (nI p) h := by
  obtain ⟨T, c10, hp0, hpL, F, hu, _, N, _⟩ := C
  have tL := T.2.1
  refine sp_fullR hs w1 N F hu (by omega) (fun h1 e1 F1 => sp_token (T.mv e1 (by decide) (by decide)) ((e1.2 10 (by decide)).trans c10) (sce_le (by omega)) (fun h2 e2 K2 => ?_))
  exact q h2 ((e1.mono (by decide) (by decide)).tr (e2.mono (by decide) (by decide))) K2 (F1.mv e2 (by decide) (by decide))
theorem lU1_1 {s p n : Nat} {u : fS} : lU1 s 1 p n u = u := by unfold lU1; rw [if_neg (fun c => c.1 rfl)]
/-- the first number of a line, kept at place k -/
theorem sp_num0 {Q : Int32 → mg_H → Prop} {h h0 : mg_H} {f : Nat → Nat} {L s w p n k lo hi : Nat} {u : fS} {D : dS} (C : LnC h0 f L s p n u D) (e0 : md [20] [10, 12, 13, 14, 17, 18] h0 h) (K : TK h L f (nb f L (lP0 f L p))) (F : LF h (lU1 s w p n u)) (g22 : mg_i h 0 22 = 1) (hk : k < 2) (elo : lo = kwlo w 0) (ehi : hi = kwhi w 0) (hw : w < 10)
    (q0 : ∀ h', md [20] [10, 12, 13, 14, 16, 17, 18] h0 h' → nok f L (lP0 f L p) = false → mg_i h' 0 16 = nI (nb f L (lP0 f L p)) → Q 0 h')
    (q1 : ∀ h', md [20] [10, 12, 13, 14, 17, 18, 22] h0 h' → nok f L (lP0 f L p) = true → mg_i h' 20 k = nI (lV0 f L p) → (∀ j, j ≠ k → mg_i h' 20 j = mg_i h 20 j) → LF h' (lU2 w (nb f L (lP0 f L p)) (lV0 f L p) (lU1 s w p n u)) → mg_i h' 0 22 = (if bad w 0 (lV0 f L p) = true then 0 else 1) → TK h' L f (nb f L (lP1 f L p)) → Q 1 h') : wp_take Q (nI k) (nI lo) (nI hi) h := by
  obtain ⟨T, c10, hp0, hpL, _, hu, _, N, _⟩ := C
  have hlh := kwlh_b w hw 0 (by decide)
  have hPL : lP0 f L p ≤ L := sce_le (by omega)
  have hb := nb_b (f := f) hPL
  refine sp_takeR (T.mv e0 (by decide) (by decide)) hPL K hk (by omega) (by omega) F (fun c => by have := lU1_pl hu c; omega) (fun h1 e1 nk a => q0 h1 ((e0.mono (by decide) (by decide)).tr (e1.mono (by decide) (by decide))) nk a) (fun h1 e1 ok a1 a2 F1 g1 K1 => ?_)
  have eb : (nV f L (lP0 f L p) < lo ∨ hi < nV f L (lP0 f L p)) ↔ bad w 0 (lV0 f L p) = true := by rw [elo, ehi]; exact bad_iff.symm
  refine q1 h1 ((e0.mono (by decide) (by decide)).tr (e1.mono (by decide) (by decide))) ok a1 a2 ?_ ?_ K1
  · unfold lU2
    by_cases g : bad w 0 (lV0 f L p) = true
    · rw [if_pos g]; rw [if_pos (eb.mpr g)] at F1; exact F1
    · rw [if_neg g]; rw [if_neg (fun c => g (eb.mp c))] at F1; exact F1
  · rw [g1]
    by_cases g : bad w 0 (lV0 f L p) = true
    · rw [if_pos g, if_pos (eb.mpr g)]
    · rw [if_neg g, if_neg (fun c => g (eb.mp c))]; exact g22
/-- the second number, of a word that has two -/
theorem sp_num1 {Q : Int32 → mg_H → Prop} {h h0 : mg_H} {f : Nat → Nat} {L s w p n lo hi : Nat} {u : fS} {D : dS} (C : LnC h0 f L s p n u D) (e0 : md [20] [10, 12, 13, 14, 17, 18, 22] h0 h) (K : TK h L f (nb f L (lP1 f L p))) (F : LF h (lU2 w (nb f L (lP0 f L p)) (lV0 f L p) (lU1 s w p n u))) (ok0 : nok f L (lP0 f L p) = true) (hlo : lo < 1000) (hhi : hi < 1000) (eb : (lV1 f L p < lo ∨ hi < lV1 f L p) ↔ (bad w 1 (lV1 f L p) = true ∨ (w = 0 ∧ lV0 f L p < lV1 f L p)))
    (q0 : ∀ h', md [20] [10, 12, 13, 14, 16, 17, 18, 22] h0 h' → nok f L (lP1 f L p) = false → mg_i h' 0 16 = nI (nb f L (lP1 f L p)) → Q 0 h')
    (q1 : ∀ h', md [20] [10, 12, 13, 14, 17, 18, 22] h0 h' → nok f L (lP1 f L p) = true → mg_i h' 20 1 = nI (lV1 f L p) → mg_i h' 20 0 = mg_i h 20 0 → LF h' (lU3 w (nb f L (lP1 f L p)) (lV0 f L p) (lV1 f L p) (lU2 w (nb f L (lP0 f L p)) (lV0 f L p) (lU1 s w p n u))) → mg_i h' 0 22 = (if bad w 1 (lV1 f L p) = true ∨ (w = 0 ∧ lV0 f L p < lV1 f L p) then 0 else mg_i h 0 22) → TK h' L f (nb f L (nE f L (lP1 f L p))) → Q 1 h') : wp_take Q 1 (nI lo) (nI hi) h := by
  obtain ⟨T, c10, hp0, hpL, _, hu, _, N, _⟩ := C
  obtain ⟨P0, P1, P2, P3, P3L, P2L, P1L, P0L⟩ := lP_b (f := f) (w := w) (show p ≤ L by omega)
  have hb := nb_b (f := f) P0L
  have hb1 := nb_b (f := f) P1L
  have ok := nok_iff.mp ok0
  have hlt : nb f L (lP0 f L p) < lP1 f L p := ok.1
  refine sp_takeR (k := 1) (T.mv e0 (by decide) (by decide)) P1L K (by decide) hlo hhi F (fun c => by have := lU2_pl (fun c2 => by have := lU1_pl hu c2; omega) c; omega) (fun h1 e1 nk a => q0 h1 ((e0.mono (by decide) (by decide)).tr (e1.mono (by decide) (by decide))) nk a) (fun h1 e1 ok1 a1 a2 F1 g1 K1 => ?_)
  have eb : (nV f L (lP1 f L p) < lo ∨ hi < nV f L (lP1 f L p)) ↔ (bad w 1 (lV1 f L p) = true ∨ (w = 0 ∧ lV0 f L p < lV1 f L p)) := eb
  refine q1 h1 (e0.tr (e1.mono (by decide) (by decide))) ok1 a1 (a2 0 (by decide)) ?_ ?_ K1
  · unfold lU3
    by_cases g : bad w 1 (lV1 f L p) = true ∨ (w = 0 ∧ lV0 f L p < lV1 f L p)
    · rw [if_pos g]; rw [if_pos (eb.mpr g)] at F1; exact F1
    · rw [if_neg g]; rw [if_neg (fun c => g (eb.mp c))] at F1; exact F1
  · rw [g1]
    by_cases g : bad w 1 (lV1 f L p) = true ∨ (w = 0 ∧ lV0 f L p < lV1 f L p)
    · rw [if_pos g, if_pos (eb.mpr g)]
    · rw [if_neg g, if_neg (fun c => g (eb.mp c))]
