/-! Book: allAtOnce, waitForLaterEvents, leastDone -/
def AO (z : Nat → Nat) (m c0 n T : Nat) : Prop := T ≤ 30 ∧ ∃ f c s, f ≤ 30 ∧ rc z m c0 f c ∧ s ≤ m ∧ 0 < dl z c s ∧ (∀ g, g < n → tn z c s g = dl z c s) ∧ T = f + dl z c s
theorem oe_I : ∀ n, n < 5 → xg_sv 2 (2 ^ n - 1) / 7 = nI ((8 ^ n - 1) / 7) := by decide +kernel
theorem cd_inj {a b c d a' b' c' d' : Nat} (ha : a ≤ 7) (hb : b ≤ 7) (hc : c ≤ 7) (ha' : a' ≤ 7) (hb' : b' ≤ 7) (hc' : c' ≤ 7) (e : cd a b c d = cd a' b' c' d') : a = a' ∧ b = b' ∧ c = c' ∧ d = d' := by
  unfold cd at e
  have e0 : a = a' := by omega
  subst e0
  have e1 : b = b' := by omega
  subst e1
  have e2 : c = c' := by omega
  subst e2
  exact ⟨rfl, rfl, rfl, by omega⟩
theorem ck_oe {z : Nat → Nat} {c s n d : Nat} (hz : zok z) (hn : n ≤ 4) (h0 : ∀ g, n ≤ g → g < 4 → tn z c s g = 0) (hd : d ≤ 7) : ck z c s 4 = d * ((8 ^ n - 1) / 7) ↔ ∀ g, g < n → tn z c s g = d := by
  have t0 := tn_le (c := c) (s := s) hz (show 0 < 4 by decide)
  have t1 := tn_le (c := c) (s := s) hz (show 1 < 4 by decide)
  have t2 := tn_le (c := c) (s := s) hz (show 2 < 4 by decide)
  have t3 := tn_le (c := c) (s := s) hz (show 3 < 4 by decide)
  rw [ck4]
  rcases (show n = 0 ∨ n = 1 ∨ n = 2 ∨ n = 3 ∨ n = 4 by omega) with rfl | rfl | rfl | rfl | rfl
  · have a0 := h0 0 (by decide) (by decide)
    have a1 := h0 1 (by decide) (by decide)
    have a2 := h0 2 (by decide) (by decide)
    have a3 := h0 3 (by decide) (by decide)
    refine ⟨fun _ g hg => absurd hg (Nat.not_lt_zero g), fun _ => ?_⟩
    unfold cd
    simp only [Nat.reducePow, Nat.reduceSub, Nat.reduceDiv]; omega
  · have a1 := h0 1 (by decide) (by decide)
    have a2 := h0 2 (by decide) (by decide)
    have a3 := h0 3 (by decide) (by decide)
    rw [show d * ((8 ^ 1 - 1) / 7) = cd d 0 0 0 by unfold cd; simp only [Nat.reducePow, Nat.reduceSub, Nat.reduceDiv]; omega]
    refine ⟨fun e g hg => ?_, fun h => by rw [h 0 (by decide), a1, a2, a3]⟩
    have := cd_inj t0 t1 t2 hd (by decide) (by decide) e
    rw [show g = 0 by omega]; exact this.1
  · have a2 := h0 2 (by decide) (by decide)
    have a3 := h0 3 (by decide) (by decide)
    rw [show d * ((8 ^ 2 - 1) / 7) = cd d d 0 0 by unfold cd; simp only [Nat.reducePow, Nat.reduceSub, Nat.reduceDiv]; omega]
    refine ⟨fun e g hg => ?_, fun h => by rw [h 0 (by decide), h 1 (by decide), a2, a3]⟩
    have := cd_inj t0 t1 t2 hd hd (by decide) e
    rcases (show g = 0 ∨ g = 1 by omega) with rfl | rfl
    · exact this.1
    · exact this.2.1
  · have a3 := h0 3 (by decide) (by decide)
    rw [show d * ((8 ^ 3 - 1) / 7) = cd d d d 0 by unfold cd; simp only [Nat.reducePow, Nat.reduceSub, Nat.reduceDiv]; omega]
    refine ⟨fun e g hg => ?_, fun h => by rw [h 0 (by decide), h 1 (by decide), h 2 (by decide), a3]⟩
    have := cd_inj t0 t1 t2 hd hd hd e
    rcases (show g = 0 ∨ g = 1 ∨ g = 2 by omega) with rfl | rfl | rfl
    · exact this.1
    · exact this.2.1
    · exact this.2.2.1
  · rw [show d * ((8 ^ 4 - 1) / 7) = cd d d d d by unfold cd; simp only [Nat.reducePow, Nat.reduceSub, Nat.reduceDiv]; omega]
    refine ⟨fun e g hg => ?_, fun h => by rw [h 0 (by decide), h 1 (by decide), h 2 (by decide), h 3 (by decide)]⟩
    have := cd_inj t0 t1 t2 hd hd hd e
    rcases (show g = 0 ∨ g = 1 ∨ g = 2 ∨ g = 3 by omega) with rfl | rfl | rfl | rfl
    · exact this.1
    · exact this.2.1
    · exact this.2.2.1
    · exact this.2.2.2
theorem tn_0 {z : Nat → Nat} {c s g : Nat} (hc : okc z c) (hg : g < 4) (hz : z g = 0) : tn z c s g = 0 := by
  have := tn_lez (s := s) hc hg
  omega
theorem sp_X1_allAtOnce {Y : xg_Y} {Q : Int32 → xg_H → Prop} {h : xg_H} {nm : Nat → Nat} {B N N2 n : Nat} {z t : Nat → Nat} (J : BJ Y h nm B N N2 n z t) (q : ∀ v, isB v (AO z (2 ^ n - 1) (c4 t) n) → Q v h) : wp_X1_allAtOnce Y Q (nm B) h := by
  obtain ⟨L, S, ⟨r, cs, C, b1, b2, b3, b4, b5, b6⟩, hc⟩ := J
  obtain ⟨k1, ⟨o0, LWw⟩, _⟩ := L
  obtain ⟨C0, C1, C2, C3, D, M, C6⟩ := C
  have hz := C0.zok
  have hm := C0.m
  have hn4 := C0.1
  have hrN := D.1.2.1
  have hp := pow_n hn4
  have hNb : N ≤ 1696 := LWw.2.2.2.2.2.2.2.2.1
  unfold wp_X1_allAtOnce
  refine ⟨k1, fun R19 R33 R131 R125 c19 c33 c131 c125 => sp_X1_allGlasses k1 hn4 C3 ?_⟩
  rw [nl_15, m15, Nat.mod_eq_of_lt hm, nI_clamp (by omega), oe_I n (by omega)]
  refine ⟨vp_in_nI (show 2 ^ n - 1 < 16 from hm) (by decide), ?_⟩
  rintro _ rfl
  -- one row and set
  have A : ∃ A : Nat → Nat → Nat → Prop, ∀ i s T, A i s T ↔ (T ≤ 30 ∧ ∃ f, f ≤ 30 ∧ rc z (2 ^ n - 1) (c4 t) f (cs i) ∧ 0 < dl z (cs i) s ∧ (∀ g, g < n → tn z (cs i) s g = dl z (cs i) s) ∧ T = f + dl z (cs i) s) := ⟨_, fun _ _ _ => Iff.rfl⟩
  obtain ⟨A, hA⟩ := A
  refine lp (σ := Int32) (R := fun k v => R19 (nI ((8 ^ n - 1) / 7)) v (nI k) h) (fun k v => isB v (fun T => ∃ i s, i < k ∧ s ≤ 2 ^ n - 1 ∧ A i s T)) 0 r (Nat.zero_le r) ?_ ?_ (nI 0) (isB_0 (fun T ⟨i, s, a, _⟩ => absurd a (Nat.not_lt_zero i)))
  · intro v hv
    refine c19 _ _ _ _ ⟨nm (B + 20), o0, LWw.1, bq_t ?_ (q v (hv.congr (fun T => ?_)))⟩
    · rw [D.2.1]; exact nI_le (Nat.le_refl r) (by omega)
    · constructor
      · rintro ⟨i, s, a1, a2, a3⟩
        obtain ⟨b1, f, b2, b3, b4, b5, b6⟩ := (hA _ _ _).mp a3
        exact ⟨b1, f, cs i, s, b2, b3, a2, b4, b5, b6⟩
      · rintro ⟨a1, f, c, s, a2, ⟨k, a3⟩, a4, a5, a6, a7⟩
        obtain ⟨i, hi, rfl⟩ := D.row a3
        exact ⟨i, s, hi, a4, (hA _ _ _).mpr ⟨a1, f, a2, ⟨k, a3⟩, a5, a6, a7⟩⟩
  · intro k v _ hk hv ih
    have hmin := isB_zero (M.1 k hk)
    have nxt : ∀ v', isB v' (fun T => ∃ i s, i < k + 1 ∧ s ≤ 2 ^ n - 1 ∧ A i s T) → R131 (nI ((8 ^ n - 1) / 7)) v' (nI k) h := by
      intro v' a
      refine c131 _ _ _ _ ?_
      rintro _ rfl
      rw [nI_1]
      exact ih v' a
    refine c19 _ _ _ _ ⟨nm (B + 20), o0, LWw.1, bq_f ?_ ?_⟩
    · rw [D.2.1]; exact nI_ge hk (by omega)
    by_cases hmz : xg_i h (nm (B + 22)) k = 0
    · refine c33 _ _ _ _ _ ⟨nm (B + 20), o0, LWw.1, bq_f ?_ ⟨nm (B + 22), LWw.2.2.1.1, LWw.2.2.1.2.1, ?_⟩⟩
      · rw [D.2.2.1]; exact nI_ge (a := 0) (by omega) (by omega)
      rw [show xg_n Y (nm (B + 22)) = N from LWw.2.2.1.2.2, nI_clamp (n := k) (by omega)]
      refine ⟨vp_in_nI (by omega) (by omega), bq_t hmz (nxt v (hv.congr (fun T => ⟨fun ⟨i, s, a1, a2⟩ => ⟨i, s, by omega, a2⟩, fun ⟨i, s, a1, a2, a3⟩ => ?_⟩)))⟩
      rcases Nat.lt_or_ge i k with h9 | h9
      · exact ⟨i, s, h9, a2, a3⟩
      · rw [show i = k by omega] at a3
        obtain ⟨_, f, d2, d3, _⟩ := (hA _ _ _).mp a3
        exact absurd ⟨d2, d3⟩ (hmin.mp hmz f)
    · refine lp (σ := Int32) (R := fun s v => R33 (nI ((8 ^ n - 1) / 7)) v (nI k) (nI s) h) (fun s' v => isB v (fun T => (∃ i s, i < k ∧ s ≤ 2 ^ n - 1 ∧ A i s T) ∨ ∃ s, s < s' ∧ A k s T)) 0 (2 ^ n - 1 + 1) (Nat.zero_le _) ?_ ?_ v (hv.congr (fun T => ⟨Or.inl, fun q => q.elim id (fun ⟨s, a, _⟩ => absurd a (Nat.not_lt_zero s))⟩))
      · intro v2 hv2
        refine c33 _ _ _ _ _ ⟨nm (B + 20), o0, LWw.1, bq_t ?_ (nxt v2 (hv2.congr (fun T => ?_)))⟩
        · rw [D.2.2.1]; exact nI_le (Nat.le_refl _) (by omega)
        · constructor
          · rintro (⟨i, s, a1, a2⟩ | ⟨s, a1, a2⟩)
            · exact ⟨i, s, by omega, a2⟩
            · exact ⟨k, s, by omega, by omega, a2⟩
          · rintro ⟨i, s, a1, a2, a3⟩
            rcases Nat.lt_or_ge i k with h9 | h9
            · exact Or.inl ⟨i, s, h9, a2, a3⟩
            · rw [show i = k by omega] at a3; exact Or.inr ⟨s, by omega, a3⟩
      · intro s v2 _ hs hv2 ih2
        have nx2 : ∀ v', isB v' (fun T => ((∃ i s, i < k ∧ s ≤ 2 ^ n - 1 ∧ A i s T) ∨ ∃ s', s' < s ∧ A k s' T) ∨ A k s T) → R125 (nI ((8 ^ n - 1) / 7)) v' (nI k) (nI s) h := by
          intro v' a
          refine c125 _ _ _ _ _ ?_
          rintro _ rfl
          rw [nI_1]
          refine ih2 v' (a.congr (fun T => ?_))
          constructor
          · rintro ((a1 | ⟨s', a1, a2⟩) | a1)
            · exact Or.inl a1
            · exact Or.inr ⟨s', by omega, a2⟩
            · exact Or.inr ⟨s, by omega, a1⟩
          · rintro (a1 | ⟨s', a1, a2⟩)
            · exact Or.inl (Or.inl a1)
            · rcases Nat.lt_or_ge s' s with h9 | h9
              · exact Or.inl (Or.inr ⟨s', h9, a2⟩)
              · rw [show s' = s by omega] at a2; exact Or.inr a2
        have no : (¬ ∃ T, A k s T) → isB v2 (fun T => ((∃ i s, i < k ∧ s ≤ 2 ^ n - 1 ∧ A i s T) ∨ ∃ s', s' < s ∧ A k s' T) ∨ A k s T) := fun hno => hv2.congr (fun T => ⟨Or.inl, fun q => q.elim id (fun a => absurd ⟨T, a⟩ hno)⟩)
        refine c33 _ _ _ _ _ ⟨nm (B + 20), o0, LWw.1, bq_f ?_ ⟨nm (B + 22), LWw.2.2.1.1, LWw.2.2.1.2.1, ?_⟩⟩
        · rw [D.2.2.1]; exact nI_ge hs (by omega)
        rw [show xg_n Y (nm (B + 22)) = N from LWw.2.2.1.2.2, nI_clamp (n := k) (by omega)]
        refine ⟨vp_in_nI (by omega) (by omega), bq_f hmz ⟨nm (B + 24), LWw.2.2.2.2.1.1, LWw.2.2.2.2.1.2.1, ?_⟩⟩
        rw [show xg_n Y (nm (B + 24)) = N * 16 from LWw.2.2.2.2.1.2.2, nl_16, pk_mul, nI_add, nI_clamp (n := k * 16 + s) (by omega)]
        refine ⟨vp_in_nI (by omega) (by omega), ?_⟩
        rintro _ rfl
        obtain ⟨e1, e2⟩ := D.2.2.2.2.2 k s hk (by omega)
        have hd7 := dl_le (c := cs k) (s := s) hz
        have hok := (D.2.2.2.1 k hk).2
        by_cases hd : sb s (2 ^ n - 1) ∧ 0 < dl z (cs k) s
        · obtain ⟨j, hj, _, ew⟩ := e1 hd
          have hd0 := hd.2
          rw [show B + 24 = B + 20 + 4 from rfl, ew, sh12 (by omega), show (dl z (cs k) s * 4096 + j) / 4096 = dl z (cs k) s by omega]
          refine bq_f (nI_ge (a := 0) hd.2 (by omega)) ⟨nm (B + 21), LWw.2.1.1, LWw.2.1.2.1, ?_⟩
          rw [show xg_n Y (nm (B + 21)) = N from LWw.2.1.2.2, C1, show xg_i h (nm (B + 21)) k = nI (cs k) from (D.2.2.2.1 k hk).1]
          refine ⟨vp_in_nI (by omega) (by omega), ?_⟩
          have hck : ck z (cs k) s 4 < 4096 := ck_lt hz 4 (by decide)
          have h8 : 8 ^ n ≤ 8 ^ 4 := Nat.pow_le_pow_right (by decide) hn4
          have key := ck_oe (z := z) (c := cs k) (s := s) (n := n) (d := dl z (cs k) s) hz hn4 (fun g h1 h2 => tn_0 hok h2 (C0.2.2 g h1).1) hd7
          have hmul : dl z (cs k) s * ((8 ^ n - 1) / 7) ≤ 7 * 585 := Nat.mul_le_mul hd7 (by have : (8 : Nat) ^ 4 = 4096 := rfl; omega)
          refine sp_X11_turned hz hok (by omega) ?_
          rw [pk_mul]
          refine ⟨fun c9 => nx2 v2 (no (fun ⟨T, a⟩ => ?_)), fun c9 => ⟨nm (B + 20), o0, LWw.1, nm (B + 22), LWw.2.2.1.1, LWw.2.2.1.2.1, ?_⟩⟩
          · obtain ⟨_, f, _, _, _, d5, _⟩ := (hA _ _ _).mp a
            exact c9 (by rw [key.mpr d5])
          · rw [show xg_n Y (nm (B + 22)) = N from LWw.2.2.1.2.2]
            refine ⟨vp_in_nI (by omega) (by omega), ?_⟩
            rintro _ rfl
            have hall := key.mp ((nI_eq (by omega) (by omega)).mp c9)
            refine nx2 _ ((isB_or hv2 (isB_shl (M.1 k hk) (show dl z (cs k) s < 32 by omega))).congr (fun T => ?_))
            constructor
            · rintro (a | ⟨a1, t0, ⟨a2, a3⟩, a4⟩)
              · exact Or.inl a
              · exact Or.inr ((hA _ _ _).mpr ⟨a1, t0, a2, a3, hd.2, hall, a4⟩)
            · rintro (a | a)
              · exact Or.inl a
              · obtain ⟨a1, f, a2, a3, a4, a5, a6⟩ := (hA _ _ _).mp a
                exact Or.inr ⟨a1, f, ⟨a2, a3⟩, a6⟩
        · rw [show B + 24 = B + 20 + 4 from rfl, e2 hd, sh12 (by decide)]
          refine bq_t (by decide) (nx2 v2 (no (fun ⟨T, a⟩ => ?_)))
          obtain ⟨_, f, _, _, d4, _⟩ := (hA _ _ _).mp a
          exact hd ⟨sb_full.mpr (by omega), d4⟩
