/-! the reference: ofRow, tell, purse -/
theorem sp_ofRow {Q : Int32 → mg_H → Prop} {h : mg_H} {z t0 : Nat → Nat} {n A wv : Nat} (H : HS h z (2 ^ n - 1) (c4 t0)) (SHh : SH n z t0) (hA1 : 1 ≤ A) (hA : A ≤ 30) (hw : 3 ≤ wv ∧ wv ≤ 6 ∨ 10 ≤ wv ∧ wv ≤ 39 ∨ 50 ≤ wv ∧ wv ≤ 79) (q : ∀ h' v, md [40, 41, 42, 44] [39, 43] h h' → (((¬ ∃ b, rc z (2 ^ n - 1) (c4 t0) A b) ∧ v = nM) ∨ ((∃ b, rc z (2 ^ n - 1) (c4 t0) A b) ∧ ∃ Ln rs rm, Ln ≤ 30 ∧ ROW z (2 ^ n - 1) (c4 t0) A Ln rs rm ∧ (wv < 10 → v = nI (fb_ct (fun k => (rs k).testBit (wv - 3)) Ln)) ∧ (10 ≤ wv → RAT Ln rs rm (nI wv) v))) → Q v h') : wp_ofRow Q (nI A) (nI wv) h := by
  have hc0 := SHh.ok
  have hm := SHh.m
  unfold wp_ofRow
  intro R94 R48 R125 c94 c48 c125
  refine sp_layBack H SHh hA1 hA (fun h1 e1 L1 => ?_)
  have H1 := H.mv e1 (by decide) (by decide) (by decide)
  have hc := hc0.1
  rw [H1.2.2, nI_clamp (by omega)]
  refine ⟨vp_in_nI (show c4 t0 < 126976 by omega) (by decide), ?_⟩
  have l0 := L1 0 (c4 t0) (Nat.zero_le _) hc
  unfold LQ at l0
  rw [Nat.mul_zero, Nat.zero_add, Nat.sub_zero] at l0
  have hr0 : rc z (2 ^ n - 1) (c4 t0) 0 (c4 t0) := ⟨0, 0, rfl, rfl, rfl⟩
  rcases l0 with ⟨ev, hno⟩ | ⟨m0, ev, hm0, _⟩
  · rw [ev]
    refine bq_nf rfl (q h1 _ (e1.mono (by decide) (by decide)) (Or.inl ⟨fun hx => ?_, rfl⟩))
    obtain ⟨w, hw⟩ := TL_rc (wt := on4) |>.mpr hx
    exact hno w ⟨hr0, hw⟩
  · have hyes : ∃ b, rc z (2 ^ n - 1) (c4 t0) A b := TL_rc.mp ⟨m0, hm0.2⟩
    have hb := TL_b hA hm0.2
    rw [ev]
    refine bq_nt (by rw [nl_m1, nI_eqM (by omega)]; exact id) (sp_layRow H1 SHh hA1 hA hyes L1 (fun h2 Ln rs rm e2 g43 hLn hrow hd => ?_))
    have e12 : md [40, 41, 42, 44] [39, 43] h h2 := (e1.mono (by decide) (by decide)).tr (e2.mono (by decide) (by decide))
    -- the k-th set, the k-th minute
    have at48 : ∀ k : Nat, (wv = 10 + k ∧ k < 30 ∨ wv = 50 + k ∧ k < 30) → R48 (nI k) h2 := by
      intro k hk
      refine c48 _ _ ?_
      rw [g43]
      refine sp_in (fun a b => ⟨fun _ => ?_, fun c => absurd c (by decide)⟩) (fun c => ⟨fun c2 => absurd rfl c2, fun _ => q h2 _ e12 (Or.inr ⟨hyes, Ln, rs, rm, hLn, hrow, fun h9 => by omega, fun _ => Or.inr (Or.inr ⟨fun k' hk' => ?_, rfl⟩)⟩)⟩)
      · obtain ⟨k', hk', ek⟩ := mp_rng (by omega) a b
        have ek := (nI_eq (a := k) (b := k') (by omega) (by omega)).mp ek
        subst ek
        rw [nI_clamp (by omega)]
        obtain ⟨⟨d1, d2⟩, d3, d4⟩ := hd k hk'
        rcases hk with ⟨e, _⟩ | ⟨e, _⟩
        · refine bq_f (nI_ge (a := wv) (b := 50) (by omega) (by decide)) ⟨vp_in_nI (show k < 30 by omega) (by decide), ?_⟩
          rw [d1]
          exact q h2 _ e12 (Or.inr ⟨hyes, Ln, rs, rm, hLn, hrow, fun h9 => by omega, fun _ => Or.inl ⟨k, hk', by rw [e], rfl⟩⟩)
        · refine bq_t (nI_le (a := 50) (b := wv) (by omega) (by omega)) ⟨vp_in_nI (show k < 30 by omega) (by decide), ?_⟩
          rw [d3]
          exact q h2 _ e12 (Or.inr ⟨hyes, Ln, rs, rm, hLn, hrow, fun h9 => by omega, fun _ => Or.inr (Or.inl ⟨k, hk', by rw [e], rfl⟩)⟩)
      · have hk9 : ¬ k < Ln := fun h9 => mp_not c (mp_rngI (by omega) h9)
        constructor
        · intro e9
          have := (nI_eq (a := wv) (b := 10 + k') (by omega) (by omega)).mp e9
          omega
        · intro e9
          have := (nI_eq (a := wv) (b := 50 + k') (by omega) (by omega)).mp e9
          omega
    by_cases h10 : wv < 10
    · refine bq_t (nI_lt h10 (by decide)) ?_
      rw [nl_3, pk_sub (by omega)] at *
      refine mp_up (P := fun k => R94 (nI (fb_ct (fun k => (rs k).testBit (wv - 3)) k)) (nI k) h2) (n := Ln) ?_ ?_
      · exact c94 _ _ _ (bq_t (by rw [g43]; exact nI_le (Nat.le_refl _) (by omega)) (q h2 _ e12 (Or.inr ⟨hyes, Ln, rs, rm, hLn, hrow, fun _ => rfl, fun h9 => by omega⟩)))
      · intro k hk ih
        obtain ⟨⟨d1, d2⟩, d3, d4⟩ := hd k hk
        have join : ∀ u, u = (if (rs k).testBit (wv - 3) then 1 else 0) → R125 (nI k) (nI u) (nI (fb_ct (fun k => (rs k).testBit (wv - 3)) k)) h2 := by
          rintro u rfl
          refine c125 _ _ _ _ ?_
          rintro _ rfl _ rfl
          rw [nI_add, nI_1]
          rw [fb_ct_succ] at ih
          exact ih
        refine c94 _ _ _ (bq_f (by rw [g43]; exact nI_ge hk (by omega)) ⟨vp_in_nI (show k < 30 by omega) (by decide), ?_⟩)
        rw [nI_clamp (by omega), d1]
        exact lb_has (by omega) (by omega) (fun hb => ⟨fun c => absurd c (by decide), fun _ => join 1 (by rw [if_pos hb])⟩) (fun hb => ⟨fun _ => join 0 (by rw [if_neg (by rw [hb]; decide)]), fun c => absurd rfl c⟩)
    · refine bq_f (nI_nlt (a := wv) (b := 10) (by omega) (by omega)) ?_
      by_cases h50 : 50 ≤ wv
      · refine bq_t (nI_le h50 (by omega)) ?_
        rw [nl_50, pk_sub h50]
        exact at48 (wv - 50) (by omega)
      · refine bq_f (nI_ge (a := wv) (b := 50) (by omega) (by decide)) ?_
        rw [nl_10, pk_sub (by omega)]
        exact at48 (wv - 10) (by omega)
/-- what is asked of tell: a row's place -/
def inw (w : Int32) : Prop := ∃ j, j < 30 ∧ (w = nI (10 + j) ∨ w = nI (50 + j))
def RU (z : Nat → Nat) (m c0 T g : Nat) (v : Int32) : Prop := ((¬ ∃ b, rc z m c0 T b) ∧ v = nM) ∨ ((∃ b, rc z m c0 T b) ∧ ∃ Ln rs rm, ROW z m c0 T Ln rs rm ∧ v = nI (fb_ct (fun k => (rs k).testBit g) Ln))
def RR (z : Nat → Nat) (m c0 T : Nat) (w v : Int32) : Prop := (((¬ ∃ b, rc z m c0 T b) ∨ ¬ inw w) ∧ v = nM) ∨ ((∃ b, rc z m c0 T b) ∧ inw w ∧ ∃ Ln rs rm, ROW z m c0 T Ln rs rm ∧ RAT Ln rs rm w v)
/-- what tell answers of a shelf and a T of 1 to 30 -/
def TE (n : Nat) (z t pr : Nat → Nat) (T : Nat) (w v : Int32) : Prop := (w = nI 0 → lst (TL z (2 ^ n - 1) (c4 t) on4 T) v) ∧ (w = nI 1 → lst (TL z (2 ^ n - 1) (c4 t) (fun _ => 1) T) v) ∧ (w = nI 2 → lst (TL z (2 ^ n - 1) (c4 t) (fun s => sw pr s 4) T) v) ∧ (∀ g, g < n → w = nI (3 + g) → RU z (2 ^ n - 1) (c4 t) T g v) ∧ ((w ≠ nI 0 ∧ w ≠ nI 1 ∧ w ≠ nI 2 ∧ ∀ g, g < n → w ≠ nI (3 + g)) → RR z (2 ^ n - 1) (c4 t) T w v)
theorem RU_one {z : Nat → Nat} {m c0 T g : Nat} {v v' : Int32} (h : RU z m c0 T g v) (h' : RU z m c0 T g v') : v = v' := by
  rcases h with ⟨a, e⟩ | ⟨a, Ln, rs, rm, b, e⟩ <;> rcases h' with ⟨a', e'⟩ | ⟨a', Ln', rs', rm', b', e'⟩
  · rw [e, e']
  · exact absurd a' a
  · exact absurd a a'
  · obtain ⟨e1, e2⟩ := ROW_one b b'
    rw [e, e', e1, fb_ct_cong (fun k hk => by rw [(e2 k (by omega)).1])]
theorem RAT_one {Ln Ln' : Nat} {rs rm rs' rm' : Nat → Nat} {w v v' : Int32} (hL : Ln ≤ 30) (e1 : Ln = Ln') (e2 : ∀ k, k < Ln → rs k = rs' k ∧ rm k = rm' k) (h : RAT Ln rs rm w v) (h' : RAT Ln' rs' rm' w v') : v = v' := by
  subst e1
  rcases h with ⟨k, hk, a, b⟩ | ⟨k, hk, a, b⟩ | ⟨a, b⟩ <;> rcases h' with ⟨k', hk', a', b'⟩ | ⟨k', hk', a', b'⟩ | ⟨a', b'⟩
  · have := (nI_eq (a := 10 + k) (b := 10 + k') (by omega) (by omega)).mp (a.symm.trans a')
    have : k = k' := by omega
    subst this
    rw [b, b', (e2 k hk).1]
  · have := (nI_eq (a := 10 + k) (b := 50 + k') (by omega) (by omega)).mp (a.symm.trans a')
    omega
  · exact absurd a (a' k hk).1
  · have := (nI_eq (a := 50 + k) (b := 10 + k') (by omega) (by omega)).mp (a.symm.trans a')
    omega
  · have := (nI_eq (a := 50 + k) (b := 50 + k') (by omega) (by omega)).mp (a.symm.trans a')
    have : k = k' := by omega
    subst this
    rw [b, b', (e2 k hk).2]
  · exact absurd a (a' k hk).2
  · exact absurd a' (a k' hk').1
  · exact absurd a' (a k' hk').2
  · rw [b, b']
theorem ROW_le {z : Nat → Nat} {m c0 T Ln : Nat} {rs rm : Nat → Nat} (h : ROW z m c0 T Ln rs rm) : Ln ≤ T := by
  obtain ⟨cc, a0, a1, a2, a3⟩ := h
  have : ∀ k, k ≤ Ln → k ≤ rm k := by
    intro k
    induction k with
    | zero => exact fun _ => Nat.zero_le _
    | succ k ih =>
      intro hk
      have h1 := ih (by omega)
      obtain ⟨_, b2, _, _, b5⟩ := a3 k (by omega)
      have := b2.2.1
      omega
  have := this Ln (Nat.le_refl _)
  omega
theorem RR_one {z : Nat → Nat} {m c0 T : Nat} {w v v' : Int32} (hT : T ≤ 30) (h : RR z m c0 T w v) (h' : RR z m c0 T w v') : v = v' := by
  rcases h with ⟨a, e⟩ | ⟨a, a2, Ln, rs, rm, b, e⟩ <;> rcases h' with ⟨a', e'⟩ | ⟨a', a2', Ln', rs', rm', b', e'⟩
  · rw [e, e']
  · exact a.elim (fun q => absurd a' q) (fun q => absurd a2' q)
  · exact a'.elim (fun q => absurd a q) (fun q => absurd a2 q)
  · obtain ⟨e1, e2⟩ := ROW_one b b'
    have := ROW_le b
    exact RAT_one (by omega) e1 e2 e e'
theorem TE_one {n : Nat} {z t pr : Nat → Nat} {T : Nat} {w v v' : Int32} (hT : T ≤ 30) (h : TE n z t pr T w v) (h' : TE n z t pr T w v') : v = v' := by
  obtain ⟨a0, a1, a2, a3, a4⟩ := h
  obtain ⟨b0, b1, b2, b3, b4⟩ := h'
  by_cases e0 : w = nI 0
  · exact lst_one (a0 e0) (b0 e0) (fun _ => Iff.rfl)
  by_cases e1 : w = nI 1
  · exact lst_one (a1 e1) (b1 e1) (fun _ => Iff.rfl)
  by_cases e2 : w = nI 2
  · exact lst_one (a2 e2) (b2 e2) (fun _ => Iff.rfl)
  by_cases e3 : ∃ g, g < n ∧ w = nI (3 + g)
  · obtain ⟨g, hg, e3⟩ := e3
    exact RU_one (a3 g hg e3) (b3 g hg e3)
  · have hx : w ≠ nI 0 ∧ w ≠ nI 1 ∧ w ≠ nI 2 ∧ ∀ g, g < n → w ≠ nI (3 + g) := ⟨e0, e1, e2, fun g hg e => e3 ⟨g, hg, e⟩⟩
    exact RR_one hT (a4 hx) (b4 hx)
theorem sp_costP {Q : Int32 → mg_H → Prop} {h : mg_H} {k n s : Nat} {z t pr : Nat → Nat} (h23 : mg_i h 0 23 = nI k) (hk : k < 2) (S : SR (mg_i h) k n z t pr) (hs : s < 16) (hsb : sb s (2 ^ n - 1)) (q : Q (nI (sw pr s 4)) h) : wp_costOf Q (nI s) 2 h := by
  refine sp_costV (v := pr) hs (by decide) (fun g _ => by have := (S.z7 g).2.2; omega) (fun g hg hb => Or.inr ⟨by decide, fun Q q => ?_⟩) q
  have hgn := sb_bit hsb hb
  rw [full_bit, decide_eq_true_eq] at hgn
  refine sp_of (s := k) (j := 9 + g) h23 (by rw [nl_9, nI_add]) (by omega) ?_
  rw [(S.2.2.1 g hgn).2.2.1]; exact q
theorem SR_md {L S : List Nat} {g g2 : mg_H} {k n : Nat} {z t pr : Nat → Nat} (h : SR (mg_i g) k n z t pr) (e : md L S g g2) (hL : 6 ∉ L) : SR (mg_i g2) k n z t pr := by
  have E : ∀ j, mg_i g2 6 j = mg_i g 6 j := e.1 6 (by decide) hL
  unfold SR at *
  simp only [E]
  exact h
theorem sw_b {p : Nat → Nat → Int32} {k n : Nat} {z t pr : Nat → Nat} (S : SR p k n z t pr) (s : Nat) : sw pr s 4 ≤ 40 := Nat.le_trans (sw_le (B := 9) 4 (fun g _ => (S.z7 g).2.2)) (by decide)
theorem sp_tell {Q : Int32 → mg_H → Prop} {h : mg_H} {k n T : Nat} {w : Int32} {z t pr : Nat → Nat} (ok : mp_shs h) (hv : 0 ≤ nI k ∧ nI k ≤ mg_i h 5 0 - 1) (hk : k < 2) (S : SR (mg_i h) k n z t pr) (h1 : 1 ≤ T) (h30 : T ≤ 30) (q : ∀ v h', mp_same h h' → TE n z t pr T w v → Q v h') : wp_tell Q (nI k) (nI T) w h := by
  have SHh := S.sh
  have hz := SHh.zok
  have hm := SHh.m
  have hc0 := SHh.ok
  have hn4 := SHh.1
  unfold wp_tell
  intro R67 R72 R99 c67 c72 c99
  rintro _ rfl
  refine sp_in (fun a b => ⟨fun c => absurd c (by decide), fun _ => ?_⟩) (fun c => absurd ⟨(nI_leI (a := 1) (b := T) (by decide) (by omega)).mpr h1, (nI_leI (a := T) (b := 30) (by omega) (by decide)).mpr h30⟩ (mp_not c))
  refine sp_handS (h := mg_ui h 0 0 0) ok hv hk S (fun h2 e2 H2 f23 f24 _ => ?_)
  have es2 : mp_same h h2 := (mp_ui (c := 0) mp_same.rf (by decide)).tr (e2.same (by decide))
  have S2 : SR (mg_i h2) k n z t pr := SR_md (g := mg_ui h 0 0 0) S e2 (by decide)
  refine bq_nt (by decide) ?_
  -- a row's place
  have row : ∀ wv, w = nI wv → (3 ≤ wv ∧ wv < 3 + n ∨ 10 ≤ wv ∧ wv ≤ 39 ∨ 50 ≤ wv ∧ wv ≤ 79) → R99 h2 := by
    rintro wv rfl hwv
    refine c99 _ (sp_ofRow H2 SHh h1 h30 (by omega) (fun h3 v e3 hr => q v h3 (es2.tr (e3.same (by decide))) ⟨fun e => ?_, fun e => ?_, fun e => ?_, fun g hg e => ?_, fun hx => ?_⟩))
    · have := (nI_eq (a := wv) (b := 0) (by omega) (by decide)).mp e; omega
    · have := (nI_eq (a := wv) (b := 1) (by omega) (by decide)).mp e; omega
    · have := (nI_eq (a := wv) (b := 2) (by omega) (by decide)).mp e; omega
    · have e9 := (nI_eq (a := wv) (b := 3 + g) (by omega) (by omega)).mp e
      rcases hr with ⟨a, b⟩ | ⟨a, Ln, rs, rm, hL, b, c, d⟩
      · exact Or.inl ⟨a, b⟩
      · refine Or.inr ⟨a, Ln, rs, rm, b, ?_⟩
        rw [c (by omega), show wv - 3 = g by omega]
    · have h10 : 10 ≤ wv := by
        rcases hwv with h9 | h9
        · exact absurd (show nI wv = nI (3 + (wv - 3)) by rw [show 3 + (wv - 3) = wv by omega]) (hx.2.2.2 (wv - 3) (by omega))
        · omega
      rcases hr with ⟨a, b⟩ | ⟨a, Ln, rs, rm, hL, b, c, d⟩
      · exact Or.inl ⟨Or.inl a, b⟩
      · refine Or.inr ⟨a, ?_, Ln, rs, rm, b, d h10⟩
        rcases Nat.lt_or_ge wv 40 with h9 | h9
        · exact ⟨wv - 10, by omega, Or.inl (by rw [show 10 + (wv - 10) = wv by omega])⟩
        · exact ⟨wv - 50, by omega, Or.inr (by rw [show 50 + (wv - 50) = wv by omega])⟩
  have none : (¬ (0 ≤ w ∧ w ≤ 2)) → (¬ (10 ≤ w ∧ w ≤ 39)) → (¬ (50 ≤ w ∧ w ≤ 79)) → (∀ g, g < n → w ≠ nI (3 + g)) → Q (-1) h2 := by
    intro n1 n2 n3 n4
    have ne : ∀ j, j < 3 → w ≠ nI j := fun j hj e => n1 (by rw [e]; exact ⟨nI_pos' (by omega), (nI_leI (a := j) (b := 2) (by omega) (by decide)).mpr (by omega)⟩)
    refine q _ _ es2 ⟨fun e => absurd e (ne 0 (by decide)), fun e => absurd e (ne 1 (by decide)), fun e => absurd e (ne 2 (by decide)), fun g hg e => absurd e (n4 g hg), fun _ => Or.inl ⟨Or.inr ?_, rfl⟩⟩
    rintro ⟨j, hj, e | e⟩
    · exact n2 (by rw [e]; exact ⟨(nI_leI (a := 10) (b := 10 + j) (by decide) (by omega)).mpr (by omega), (nI_leI (a := 10 + j) (b := 39) (by omega) (by decide)).mpr (by omega)⟩)
    · exact n3 (by rw [e]; exact ⟨(nI_leI (a := 50) (b := 50 + j) (by decide) (by omega)).mpr (by omega), (nI_leI (a := 50 + j) (b := 79) (by omega) (by decide)).mpr (by omega)⟩)
  -- out of an interval a number
  have num : ∀ lo hi : Nat, lo < 1000 → hi < 1000 → nI lo ≤ w → w ≤ nI hi → ∃ wv, w = nI wv ∧ lo ≤ wv ∧ wv ≤ hi := by
    intro lo hi hl hh a b
    obtain ⟨wv, hwv, rfl⟩ := nI_of (x := w) (fun c9 => by
      have h9 := Int32.le_iff_toInt_le.mp a
      have h8 := Int32.lt_iff_toInt_lt.mp c9
      have e0 : (0 : Int32).toInt = 0 := rfl
      rw [nI_toInt (by omega)] at h9
      omega)
    exact ⟨wv, rfl, (nI_leI (by omega) hwv).mp a, (nI_leI hwv (by omega)).mp b⟩
  refine sp_in (fun a b => ⟨fun c => absurd c (by decide), fun _ => ?_⟩) (fun c012 => ⟨fun _ => ?_, fun c => absurd rfl c⟩)
  · obtain ⟨wv, rfl, _, hw2⟩ := num 0 2 (by decide) (by decide) a b
    have lay : ∀ wt : Nat → Nat, (∀ s, s ≤ 2 ^ n - 1 → wt s ≤ 40) → (∀ h', md [40] [39] h2 h' → ∀ s, s < 16 → sb s (2 ^ n - 1) → ∀ Q : Int32 → mg_H → Prop, Q (nI (wt s)) h' → wp_costOf Q (nI s) (nI wv) h') → (∀ v, lst (TL z (2 ^ n - 1) (c4 t) wt T) v → TE n z t pr T (nI wv) v) → wp_layOut (fun h12 => wp_leastAt (fun r14 h13 => Q r14 h13) (nI T) h12) (nI wv) h2 := by
      intro wt b1 b2 b3
      refine sp_layOut (wt := wt) H2 hz hm hc0 b2 b1 (fun h3 e3 C3 => sp_leastC hz hc0 b1 h30 C3 (fun v hv => q v h3 (es2.tr (e3.same (by decide))) (b3 v hv)))
    rcases (show wv = 0 ∨ wv = 1 ∨ wv = 2 by omega) with rfl | rfl | rfl
    · exact lay on4 (fun s _ => Nat.le_trans (on4_le s) (by decide)) (fun h' _ s hs _ Q q => sp_cost0 hs q) (fun v hv => ⟨fun _ => hv, fun e => absurd e (by decide), fun e => absurd e (by decide), fun g hg e => by have := (nI_eq (a := 0) (b := 3 + g) (by decide) (by omega)).mp e; omega, fun hx => absurd rfl hx.1⟩)
    · exact lay (fun _ => 1) (fun _ _ => by decide) (fun h' _ s hs _ Q q => sp_cost1 q) (fun v hv => ⟨fun e => absurd e (by decide), fun _ => hv, fun e => absurd e (by decide), fun g hg e => by have := (nI_eq (a := 1) (b := 3 + g) (by decide) (by omega)).mp e; omega, fun hx => absurd rfl hx.2.1⟩)
    · exact lay (fun s => sw pr s 4) (fun s _ => sw_b S s) (fun h' e s hs hsb Q q => sp_costP ((e.2 23 (by decide)).trans f23) hk (SR_md S2 e (by decide)) hs hsb q) (fun v hv => ⟨fun e => absurd e (by decide), fun e => absurd e (by decide), fun _ => hv, fun g hg e => by have := (nI_eq (a := 2) (b := 3 + g) (by decide) (by omega)).mp e; omega, fun hx => absurd rfl hx.2.2.1⟩)
  · refine sp_in (fun a b => ⟨fun _ => ?_, fun c => absurd c (by decide)⟩) (fun c1039 => ⟨fun c => absurd rfl c, fun _ => ?_⟩)
    · obtain ⟨wv, e, hw1, hw2⟩ := num 10 39 (by decide) (by decide) a b
      exact c67 _ (c72 _ _ (bq_nt (by decide) (row wv e (by omega))))
    · refine sp_in (fun a b => ⟨fun c => absurd c (by decide), fun _ => ?_⟩) (fun c5079 => ⟨fun _ => ?_, fun c => absurd rfl c⟩)
      · obtain ⟨wv, e, hw1, hw2⟩ := num 50 79 (by decide) (by decide) a b
        exact c67 _ (c72 _ _ (bq_nt (by decide) (row wv e (by omega))))
      · refine c72 _ _ (bq_nf rfl (sp_in (fun a b => ⟨fun c => absurd c (by decide), fun _ => ?_⟩) (fun c36 => ⟨fun _ => none (mp_not c012) (mp_not c1039) (mp_not c5079) (fun g hg e => ?_), fun c => absurd rfl c⟩)))
        · obtain ⟨wv, rfl, hw1, hw2⟩ := num 3 6 (by decide) (by decide) a b
          rw [nl_3, pk_sub hw1]
          refine sp_isGlass f24 (fun a b => ⟨fun c => absurd c (by decide), fun _ => ?_⟩) (fun hno => ⟨fun _ => none (mp_not c012) (mp_not c1039) (mp_not c5079) (fun g hg e => hno ?_), fun c => absurd rfl c⟩)
          · obtain ⟨g, hg, e⟩ := mp_rng (by omega) a b
            have e := (nI_eq (a := wv - 3) (b := g) (by omega) (by omega)).mp e
            exact row wv rfl (by omega)
          · have e9 := (nI_eq (a := wv) (b := 3 + g) (by omega) (by omega)).mp e
            rw [show wv - 3 = g by omega]
            exact mp_rngI (by omega) hg
        · refine mp_not c36 ?_
          rw [e]
          exact ⟨(nI_leI (a := 3) (b := 3 + g) (by decide) (by omega)).mpr (by omega), (nI_leI (a := 3 + g) (b := 6) (by omega) (by decide)).mpr (by omega)⟩
