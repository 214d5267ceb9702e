/-! Book: leastPrice -/
/-- a shelf as a text of the class: object tx, its rows tx + 10, tx + 20, tx + 30 -/
def XS (Y : xg_Y) (h : xg_H) (nm : Nat → Nat) (tx n : Nat) (z t pr : Nat → Nat) : Prop := xg_is Y (nm tx) 8 ∧ (xg_o h (nm tx) 1 = some (nm (tx + 10)) ∧ xk Y nm (tx + 10) 22 4) ∧ (xg_o h (nm tx) 2 = some (nm (tx + 20)) ∧ xk Y nm (tx + 20) 22 4) ∧ (xg_o h (nm tx) 3 = some (nm (tx + 30)) ∧ xk Y nm (tx + 30) 22 4) ∧ xg_i h (nm tx) 0 = nI n ∧ (∀ j, j < n → xg_i h (nm (tx + 10)) j = nI (z j) ∧ xg_i h (nm (tx + 20)) j = nI (t j) ∧ xg_i h (nm (tx + 30)) j = nI (pr j) ∧ pr j ≤ 9) ∧ (∀ j, n ≤ j → pr j = 0) ∧ 100 ≤ tx ∧ tx < 400
theorem XS.mv {Y : xg_Y} {h h2 : xg_H} {nm : Nat → Nat} {tx n B : Nat} {z t pr : Nat → Nat} (a : XS Y h nm tx n z t pr) (e : bf nm B h h2) (hB : 500 ≤ B) : XS Y h2 nm tx n z t pr := by
  obtain ⟨a1, a2, a3, a4, a5, a6, a7, a8, a9⟩ := a
  have E : ∀ c, 100 ≤ c → c < 500 → ∀ j, xg_i h2 (nm c) j = xg_i h (nm c) j := fun c h1 h2 j => (e.1 c (by omega) (by simp <;> omega) j).1
  refine ⟨a1, ⟨(e.2 _ _).trans a2.1, a2.2⟩, ⟨(e.2 _ _).trans a3.1, a3.2⟩, ⟨(e.2 _ _).trans a4.1, a4.2⟩, (E tx (by omega) (by omega) 0).trans a5, fun j hj => ?_, a7, a8, a9⟩
  rw [E _ (by omega) (by omega), E _ (by omega) (by omega), E _ (by omega) (by omega)]
  exact a6 j hj
theorem pkey_lt {pr : Nat → Nat} : ∀ k, (∀ j, j < k → pr j ≤ 9) → pkey pr k < 10 ^ k
  | 0, _ => by simp only [pkey]; decide
  | k + 1, h => by
    have h1 := pkey_lt k (fun j hj => h j (by omega))
    have h2 := h k (by omega)
    simp only [pkey]
    rw [Nat.pow_succ]
    omega
theorem pkey_inj {pr pr' : Nat → Nat} : ∀ k, (∀ j, j < k → pr j ≤ 9) → (∀ j, j < k → pr' j ≤ 9) → pkey pr k = pkey pr' k → ∀ j, j < k → pr j = pr' j
  | 0, _, _, _, j, hj => absurd hj (Nat.not_lt_zero j)
  | k + 1, h, h', e, j, hj => by
    have h2 := h k (by omega)
    have h2' := h' k (by omega)
    simp only [pkey] at e
    have e1 : pkey pr k = pkey pr' k := by omega
    rcases Nat.lt_or_ge j k with h9 | h9
    · exact pkey_inj k (fun j hj => h j (by omega)) (fun j hj => h' j (by omega)) e1 j h9
    · rw [show j = k by omega]; omega
theorem sw_n {v : Nat → Nat} {s n : Nat} (hn : n ≤ 4) (h0 : ∀ g, n ≤ g → v g = 0) : sw v s n = sw v s 4 := by
  have : ∀ d, n + d ≤ 4 → sw v s (n + d) = sw v s n := by
    intro d
    induction d with
    | zero => exact fun _ => rfl
    | succ d ih =>
      intro h
      show sw v s (n + d) + (if s.testBit (n + d) then v (n + d) else 0) = _
      rw [h0 (n + d) (by omega), ih (by omega)]; simp
  have := this (4 - n) (by omega)
  rw [show n + (4 - n) = 4 by omega] at this
  exact this.symm
theorem ten_n {n : Nat} (h : n ≤ 4) : 10 ^ n ≤ 10000 := Nat.pow_le_pow_right (n := 10) (by decide) h
theorem sp_X1_workOutPrices {Y : xg_Y} {Q : xg_H → Prop} {h : xg_H} {nm : Nat → Nat} {B N N2 n r tx : Nat} {z t pr cs : Nat → Nat} (hn : inj nm) (L : LB Y h nm B N N2) (C : BC h nm B N n z t r cs) (X : XS Y h nm tx n z t pr) (q : ∀ h', xe nm B [19] [5, 41, 42, 43] [] h h' → xg_i h' (nm B) 19 = nI 0 → (∀ T, 1 ≤ T → T ≤ 30 → ∃ x, xg_i h' (nm (B + 5)) T = nI x ∧ x ≤ 1000000 ∧ lsG (TL z (2 ^ n - 1) (c4 t) (fun s => sw pr s 4) T) x) → Q h') : wp_X1_workOutPrices Y Q (nm B) (some (nm tx)) h := by
  have L0 := L
  have C0 := C
  obtain ⟨k1, ⟨o0, LWw⟩, ⟨o1, LWp⟩, ⟨o2, LCc⟩, ⟨o3, k4⟩, ⟨o4, k5⟩, ⟨o5, k6⟩, ⟨o6, k7⟩, ⟨o7, k8⟩, ⟨o8, k9⟩, ⟨o9, k10⟩, hB⟩ := L
  obtain ⟨C00, C1, C2, C3, D, M, C6⟩ := C
  have hz := C00.zok
  have hm := C00.m
  have hn4 := C00.1
  have hr1 := D.1.1
  have hrN := D.1.2.1
  have hNb : N ≤ 1696 := LWw.2.2.2.2.2.2.2.2.1
  have hpr : ∀ g, pr g ≤ 9 := fun g => by
    rcases Nat.lt_or_ge g n with h9 | h9
    · exact (X.2.2.2.2.2.1 g h9).2.2.2
    · have := X.2.2.2.2.2.2.1 g h9; omega
  have hsw : ∀ s k, k ≤ 4 → sw pr s k ≤ 36 := fun s k hk => Nat.le_trans (sw_le (B := 9) k (fun g _ => hpr g)) (by omega)
  unfold wp_X1_workOutPrices
  refine ⟨k1, fun R2 R94 R13 R43 c2 c94 c13 c43 => ?_⟩
  refine lp (σ := xg_H) (R := fun k s => R2 (nI k) s) (fun k s => xe nm B [19] [5, 41, 42, 43] [] h s ∧ ∀ i, i < k → xg_i s (nm (B + 41)) i = nI (sw pr i 4)) 0 16 (by decide) ?_ ?_ h ⟨xe.rf, fun i hi => absurd hi (Nat.not_lt_zero i)⟩
  · rintro s ⟨e, f⟩
    refine c2 _ _ (bq_t (by decide) ⟨nm (B + 40), (e.2.2.2 _ _).trans o2, LCc.1, ?_⟩)
    rw [(e.2.2.2 _ _).trans LCc.2.2.1.1]
    refine sp_fill (c := B + 42) hn LCc.2.2.1.2 (by omega) (fun s1 e1 f1 => ?_)
    rintro _ rfl
    have e1' : xe nm B [19] [5, 41, 42, 43] [] h (xg_ui s1 (nm B) 19 0) := xe.u0 hn (e.tr ((xe.of e1 (by decide) (by decide)).mono (by simp) (by simp) (by simp))) (by decide)
    refine ⟨nm (B + 40), (e1'.2.2.2 _ _).trans o2, LCc.1, ?_⟩
    have L1 := L0.mv e1' (by decide)
    have D1 : WD z (2 ^ n - 1) (c4 t) _ nm (B + 20) N r cs := (C0.mv e1' (by decide) (by decide) (by decide) (by decide) (by decide) (by decide) (by decide) (by decide) (by decide)).2.2.2.2.1
    have E1 : CE (xg_ui s1 (nm B) 19 0) nm (B + 40) r (2 ^ n - 1) 36 (fun s => sw pr s 4) (fun _ => 0) := ⟨by decide, fun i hi => ⟨by rw [show B + 40 + 1 = B + 41 from rfl, xu_c hn (by omega), e1.i (B + 41) (by simp)]; exact f i (by omega), hsw i 4 (by decide)⟩, fun j hj => ⟨by rw [show B + 40 + 2 = B + 42 from rfl, xu_c hn (by omega), f1, if_pos (by omega)]; rfl, Or.inr (show 0 + 30 * 36 < 1000000 by decide)⟩⟩
    refine sp_X3_workOut (T := 30) hn L1.2.1.2 L1.2.2.2.1.2 hz hm D1 E1 (by decide) (fun s2 e2 f2 => ?_)
    have e2' : xe nm B [19] [5, 41, 42, 43] [] h s2 := e1'.tr ((xe.of (o := 43) e2 (by decide) (by decide)).mono (by simp) (by simp) (by simp))
    have g19 : xg_i s2 (nm B) 19 = nI 0 := by rw [e2.i _ (by simp <;> omega), xu hn, if_pos ⟨rfl, rfl⟩]; rfl
    have hxe : ∀ s', xd nm [B + 5] s2 s' → xe nm B [19] [5, 41, 42, 43] [] h s' := fun s' es => e2'.tr ((xe.of es (by decide) (by decide)).mono (by simp) (by simp) (by simp))
    refine lp (σ := xg_H) (R := fun T s => R94 (nI T) s) (fun T s => xd nm [B + 5] s2 s ∧ ∀ T', 1 ≤ T' → T' < T → ∃ x, xg_i s (nm (B + 5)) T' = nI x ∧ x ≤ 1000000 ∧ lsG (TL z (2 ^ n - 1) (c4 t) (fun s => sw pr s 4) T') x) 1 31 (by decide) ?_ ?_ s2 ⟨xd.rf, fun T' h1 h2 => by omega⟩
    · rintro s3 ⟨e3, f3⟩
      exact c94 _ _ (bq_t (by decide) (q s3 (hxe s3 e3) (by rw [e3.i _ (by simp)]; exact g19) (fun T h1 h2 => f3 T h1 (by omega))))
    · rintro T s3 hT1 hT ⟨e3, f3⟩ ih
      have X3 := hxe s3 e3
      have L3 := L0.mv X3 (by decide)
      have ct : CT z (2 ^ n - 1) (fun s => sw pr s 4) (fun _ => 0) r cs s3 nm (B + 40) N T 0 := by
        obtain ⟨x, x1, x2, x3⟩ := f2 T 0 hT1 (by omega) (by omega)
        exact ⟨x, by rw [e3.i _ (by simp)]; exact x1, x2, x3⟩
      refine c94 _ _ (bq_f (nI_nlt (b := T) (a := 30) (by omega) (by decide)) ⟨nm (B + 40), (X3.2.2.2 _ _).trans o2, LCc.1, ?_⟩)
      refine sp_X3_of (i := 0) L3.2.2.2.1.2 hNb hrN (by omega) hT1 (by omega) ct (fun x hx hl => ⟨nm (B + 5), (X3.2.2.2 _ _).trans o4, k5.1, ?_⟩)
      rw [k5.2, nI_clamp (by omega)]
      refine ⟨vp_in_nI (by omega) (by decide), ?_⟩
      rintro _ rfl _ rfl
      rw [nI_1]
      refine ih _ ⟨xd.ui hn e3 (by simp), fun T' h1 h2 => ?_⟩
      rw [xu hn]
      by_cases eT : T' = T
      · rw [if_pos ⟨rfl, eT⟩, eT]
        refine ⟨x, rfl, hx, lsG_congr hl (fun w => ?_)⟩
        rw [BW_TL D (by omega), D.1.2.2]
      · rw [if_neg (fun q => eT q.2)]; exact f3 T' h1 (by omega)
  · rintro k s _ hk ⟨e, f⟩ ih
    have Xs := X.mv (bf.of e (by simp)) hB
    have g14 : xg_i s (nm B) 14 = nI n := (e.1 14 (by decide)).trans C3
    refine c2 _ _ (bq_f (nI_ge hk (by decide)) ?_)
    refine mp_up (P := fun g => R13 (nI k) (nI (sw pr k g)) (nI g) s) (n := n) ?_ ?_
    · refine c13 _ _ _ _ (bq_t ?_ ⟨nm (B + 40), (e.2.2.2 _ _).trans o2, LCc.1, nm (B + 41), (e.2.2.2 _ _).trans LCc.2.1.1, LCc.2.1.2.1, ?_⟩)
      · rw [g14]; exact nI_le (Nat.le_refl n) (by omega)
      rw [show xg_n Y (nm (B + 41)) = 16 from LCc.2.1.2.2, nI_clamp (by omega)]
      refine ⟨vp_in_nI hk (by decide), ?_⟩
      rintro _ rfl _ rfl
      rw [nI_1]
      refine ih _ ⟨xe.ui hn e (by decide) (by decide) (by decide), fun i hi => ?_⟩
      rw [xu hn]
      by_cases ei : i = k
      · rw [if_pos ⟨rfl, ei⟩, ei, sw_n hn4 X.2.2.2.2.2.2.1]
      · rw [if_neg (fun q => ei q.2)]; exact f i (by omega)
    · intro g hg ih2
      have join : ∀ u, u = (if k.testBit g then pr g else 0) → R43 (nI k) (nI g) (nI u) (nI (sw pr k g)) s := by
        rintro u rfl
        refine c43 _ _ _ _ _ ?_
        rintro _ rfl _ rfl
        rw [nI_add, nI_1]
        exact ih2
      refine c13 _ _ _ _ (bq_f ?_ (sp_X11_has (by omega) (by omega) (fun hb => ⟨fun c => absurd c (by decide), fun _ => ⟨nm tx, rfl, Xs.1, nm (tx + 30), Xs.2.2.2.1.1, Xs.2.2.2.1.2.1, ?_⟩⟩) (fun hb => ⟨fun _ => join 0 (by rw [if_neg (by rw [hb]; decide)]), fun c => absurd rfl c⟩)))
      · rw [g14]; exact nI_ge hg (by omega)
      · rw [Xs.2.2.2.1.2.2, nI_clamp (by omega), (Xs.2.2.2.2.2.1 g hg).2.2.1]
        exact ⟨vp_in_nI (by omega) (by decide), join _ (by rw [if_pos hb])⟩
theorem sp_X1_leastPrice {Y : xg_Y} {Q : Int32 → xg_H → Prop} {h : xg_H} {nm : Nat → Nat} {B N N2 n T tx : Nat} {z t pr : Nat → Nat} (hn : inj nm) (J : BJ Y h nm B N N2 n z t) (X : XS Y h nm tx n z t pr) (h1 : 1 ≤ T) (h30 : T ≤ 30) (q : ∀ h' x, BJ Y h' nm B N N2 n z t → bf nm B h h' → x ≤ 1000000 → lsG (TL z (2 ^ n - 1) (c4 t) (fun s => sw pr s 4) T) x → Q (nI x) h') : wp_X1_leastPrice Y Q (nm B) (some (nm tx)) (nI T) h := by
  have hn4 : n ≤ 4 := by
    obtain ⟨_, _, ⟨r, cs, C, _⟩, _⟩ := J
    exact C.1.1
  have hB := J.1.2.2.2.2.2.2.2.2.2.2.2
  have h14 : xg_i h (nm B) 14 = nI n := by
    obtain ⟨_, _, ⟨r, cs, C, _⟩, _⟩ := J
    exact C.2.2.2.1
  have hpr : ∀ j, j < n → pr j ≤ 9 := fun j hj => (X.2.2.2.2.2.1 j hj).2.2.2
  have hkey := pkey_lt n hpr
  have h10 := ten_n hn4
  unfold wp_X1_leastPrice
  refine ⟨J.1.1, fun R5 R51 c5 c51 => ?_⟩
  have fin : ∀ h', BJ Y h' nm B N N2 n z t → bf nm B h h' → (∃ x, xg_i h' (nm (B + 5)) T = nI x ∧ x ≤ 1000000 ∧ lsG (TL z (2 ^ n - 1) (c4 t) (fun s => sw pr s 4) T) x) → R51 h' := by
    rintro h' J' e ⟨x, x1, x2, x3⟩
    have o4 := J'.1.2.2.2.2.2.1
    refine c51 _ ⟨nm (B + 5), o4.1, o4.2.1, ?_⟩
    rw [o4.2.2, nI_clamp (by omega), x1]
    exact ⟨vp_in_nI (by omega) (by decide), q h' x J' e x2 x3⟩
  refine mp_up (P := fun k => R5 (nI (pkey pr k)) (nI k) h) (n := n) ?_ ?_
  · refine c5 _ _ _ (bq_t ?_ ?_)
    · rw [h14]; exact nI_le (Nat.le_refl n) (by omega)
    · obtain ⟨L, S, ⟨r, cs, C, b1, b2, b3, b4, b5, b6⟩, hcp⟩ := id J
      refine ⟨fun c => ?_, fun c => ?_⟩
      · rcases id b4 with b4' | ⟨pr', a1, a0, a2, a3⟩
        · rw [b4'] at c
          rw [nI_eqM (by omega)] at c
          exact c.elim
        · rw [a2] at c
          have hk' := pkey_lt n a1
          have e9 := (nI_eq (by omega) (by omega)).mp c
          have e8 : pr = pr' := by
            funext j
            rcases Nat.lt_or_ge j n with h9 | h9
            · exact pkey_inj n hpr a1 e9 j h9
            · rw [X.2.2.2.2.2.2.1 j h9, a0 j h9]
          subst e8
          exact fin h J bf.rf (a3 T h1 h30)
      · rintro _ rfl
        have e1 : xe nm B [15, 19] [5, 41, 42, 43] [] h (xg_ui h (nm B) 15 (nI (pkey pr n))) := xe.u0 hn xe.rf (by decide)
        refine sp_X1_workOutPrices hn (L.mv e1 (by decide)) (C.mv e1 (by decide) (by decide) (by decide) (by decide) (by decide) (by decide) (by decide) (by decide) (by decide)) (X.mv (bf.of e1 (by simp)) hB) (fun h' e2 g19 f => ?_)
        have e3 : xe nm B [15, 19] [5, 41, 42, 43] [] h h' := e1.tr (e2.mono (by simp) (by simp) (by simp))
        refine fin h' ⟨L.mv e3 (by decide), S.mv e3 hB, ⟨r, cs, C.mv e3 (by decide) (by decide) (by decide) (by decide) (by decide) (by decide) (by decide) (by decide) (by decide), b1.mv e3 (by decide), b2.mv e3 (by decide) (by decide) (by decide), Or.inl g19, Or.inr ⟨pr, hpr, X.2.2.2.2.2.2.1, ?_, f⟩, b5.mv e3 (by decide) (by decide) (by decide) (by decide), b6.mv e3 (by decide) (by decide)⟩, hcp⟩ (bf.of e3 (by simp)) (f T h1 h30)
        rw [e2.1 15 (by decide), xu hn, if_pos ⟨rfl, rfl⟩]
  · intro k hk ih
    refine c5 _ _ _ (bq_f ?_ ⟨nm tx, rfl, X.1, nm (tx + 30), X.2.2.2.1.1, X.2.2.2.1.2.1, ?_⟩)
    · rw [h14]; exact nI_ge hk (by omega)
    rw [X.2.2.2.1.2.2, nI_clamp (by omega), (X.2.2.2.2.2.1 k hk).2.2.1]
    refine ⟨vp_in_nI (by omega) (by decide), ?_⟩
    rintro _ rfl _ rfl
    rw [nl_10, pk_mul, nI_add, nI_1]
    exact ih
