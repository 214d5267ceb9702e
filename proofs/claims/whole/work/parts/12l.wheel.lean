/-! Game: the round -/
/-- a sequence that goes on by a rule -/
theorem sq_per {f : Nat → Nat} (hf : ∀ i j, f i = f j → f (i + 1) = f (j + 1)) {i j : Nat} (e : f i = f j) : ∀ k, f (i + k) = f (j + k)
  | 0 => e
  | k + 1 => hf _ _ (sq_per hf e k)
theorem sq_mul {f : Nat → Nat} (hf : ∀ i j, f i = f j → f (i + 1) = f (j + 1)) {i p : Nat} (e : f i = f (i + p)) : ∀ q k, i ≤ k → f k = f (k + p * q)
  | 0, k, _ => by rw [Nat.mul_zero, Nat.add_zero]
  | q + 1, k, hk => by
    rw [sq_mul hf e q k hk]
    have := sq_per hf e (k + p * q - i)
    rw [show i + (k + p * q - i) = k + p * q by omega, show i + p + (k + p * q - i) = k + p * (q + 1) by rw [Nat.mul_add]; omega] at this
    exact this
/-- what repeats anywhere repeats with the round's length -/
theorem sq_round {f : Nat → Nat} (hf : ∀ i j, f i = f j → f (i + 1) = f (j + 1)) {a R : Nat} (hR : 1 ≤ R) (e : f a = f (a + R)) (hmin : ∀ l, 1 ≤ l → l < R → f a ≠ f (a + l)) {i p : Nat} (hp : 1 ≤ p) (e2 : f i = f (i + p)) : f i = f (i + R) ∧ R ≤ p := by
  constructor
  · -- i and i + R, far enough on, are alike
    have h1 := sq_mul hf e2 a i (Nat.le_refl i)
    have h2 := sq_mul hf e2 a (i + R) (by omega)
    have hpa : a ≤ p * a := by have := Nat.mul_le_mul_right a hp; omega
    have h3 := sq_mul hf e 1 (i + p * a) (by omega)
    rw [Nat.mul_one] at h3
    rw [h1, h3, h2]
    congr 1
    omega
  · -- fold p by R
    have hRi : i ≤ R * i := by have := Nat.mul_le_mul_right i hR; omega
    have h1 := sq_mul hf e i a (Nat.le_refl a)
    have h2 := sq_mul hf e2 1 (a + R * i) (by omega)
    rw [Nat.mul_one] at h2
    have h3 := sq_mul hf e i (a + p) (by omega)
    have h4 : f a = f (a + p) := by rw [h1, h2, h3]; congr 1; omega
    have h5 := sq_mul hf e (p / R) (a + p % R) (by omega)
    have h6 := Nat.mod_add_div p R
    rw [show a + p % R + R * (p / R) = a + p by omega] at h5
    have hlt := Nat.mod_lt p (show R > 0 by omega)
    rcases Nat.eq_zero_or_pos (p % R) with h0 | h0
    · rcases Nat.lt_or_ge p R with h9 | h9
      · rw [Nat.mod_eq_of_lt h9] at h0; omega
      · exact h9
    · exact absurd (h4.trans h5.symm) (hmin _ h0 hlt)
/-- EVENTS ahead of the round, of it, its minutes -/
def WH (z : Nat → Nat) (m c0 : Nat) (v1 v2 v3 : Int32) : Prop := (dl z c0 m = 0 ∧ v1 = nM ∧ v2 = nM ∧ v3 = nM) ∨ (0 < dl z c0 m ∧ ∃ a R, 1 ≤ R ∧ fc z m c0 a = fc z m c0 (a + R) ∧ (∀ i j, i < j → j < a + R → fc z m c0 i ≠ fc z m c0 j) ∧ v1 = nI a ∧ v2 = nI R ∧ v3 = nI (ft z m c0 (a + R) - ft z m c0 a))
theorem WH_one {z : Nat → Nat} {m c0 : Nat} {v1 v2 v3 u1 u2 u3 : Int32} (h : WH z m c0 v1 v2 v3) (h' : WH z m c0 u1 u2 u3) : v1 = u1 ∧ v2 = u2 ∧ v3 = u3 := by
  rcases h with ⟨d, e1, e2, e3⟩ | ⟨d, a, R, b1, b2, b3, e1, e2, e3⟩ <;> rcases h' with ⟨d', e1', e2', e3'⟩ | ⟨d', a', R', b1', b2', b3', e1', e2', e3'⟩
  · rw [e1, e2, e3, e1', e2', e3']; exact ⟨rfl, rfl, rfl⟩
  · omega
  · omega
  · have hs : a + R = a' + R' := by
      rcases Nat.lt_trichotomy (a + R) (a' + R') with h9 | h9 | h9
      · exact absurd b2 (b3' a (a + R) (by omega) h9)
      · exact h9
      · exact absurd b2' (b3 a' (a' + R') (by omega) h9)
    have ha : a = a' := by
      rcases Nat.lt_trichotomy a a' with h9 | h9 | h9
      · refine absurd ?_ (b3 a a' h9 (by omega))
        rw [b2, b2', hs]
      · exact h9
      · refine absurd ?_ (b3 a' a h9 (by omega))
        rw [b2, b2', hs]
    have hR : R = R' := by omega
    rw [e1, e2, e3, e1', e2', e3', ha, hR]; exact ⟨rfl, rfl, rfl⟩
theorem fc_rule {z : Nat → Nat} {m c0 : Nat} (i j : Nat) (e : fc z m c0 i = fc z m c0 j) : fc z m c0 (i + 1) = fc z m c0 (j + 1) := by
  show nc z (fc z m c0 i) m = nc z (fc z m c0 j) m
  rw [e]
/-- some two of the first 4097 are alike -/
theorem fc_twice {z : Nat → Nat} {m c0 : Nat} (hz : zok z) (hc : okc z c0) : ∃ i p, 1 ≤ p ∧ i + p ≤ 4096 ∧ fc z m c0 i = fc z m c0 (i + p) := by
  obtain ⟨i, j, h1, h2, h3⟩ := fb_twice (m := 4096) (n := 4097) (f := fc z m c0) (fun i _ => (fc_ok hz hc i).1) (by decide)
  exact ⟨i, j - i, by omega, by omega, by rw [show i + (j - i) = j by omega]; exact h3⟩
theorem sp_X4_roundLength {Y : xg_Y} {Q : Int32 → xg_H → Prop} {h : xg_H} {nm : Nat → Nat} {n : Nat} {z t : Nat → Nat} (hn : inj nm) (G : GM Y h nm n z t) (S : ST Y h nm) (hd : 0 < dl z (c4 t) (2 ^ n - 1)) (q : ∀ h' a R, xd nm [32] h h' → GM Y h' nm n z t → ST Y h' nm → 1 ≤ R → R ≤ 4096 → fc z (2 ^ n - 1) (c4 t) a = fc z (2 ^ n - 1) (c4 t) (a + R) → (∀ l, 1 ≤ l → l < R → fc z (2 ^ n - 1) (c4 t) a ≠ fc z (2 ^ n - 1) (c4 t) (a + l)) → Q (nI R) h') : wp_X4_roundLength Y Q (nm 35) h := by
  have H := G.2.2.2.2.2.2
  have hz := H.zok
  have hc := H.ok
  have hda := dl_all H hc hd
  have hok := fc_ok (m := 2 ^ n - 1) hz hc
  obtain ⟨i0, p0, hp0, hip, e0⟩ := fc_twice (m := 2 ^ n - 1) hz hc
  unfold wp_X4_roundLength
  refine ⟨G.1, fun R22 R51 c22 c51 z1 e1 => ?_⟩
  rw [G.2.2.2.1] at e1 ⊢
  subst e1
  refine sp_X4_behind hn G S hc hd (fun h1 e1 G1 S1 => ?_)
  -- a: the mark; its reach is a + 1, 2 ^ e
  refine lp (σ := Nat × Nat × Nat × xg_H) (R := fun i u => R22 (nI (fc z (2 ^ n - 1) (c4 t) u.1)) (nI (fc z (2 ^ n - 1) (c4 t) (u.1 + u.2.1))) (nI u.2.1) (nI (2 ^ u.2.2.1)) (nI i) u.2.2.2) (fun i u => (u.1 + 1 = 2 ^ u.2.2.1 ∧ u.2.2.1 ≤ 12 ∧ 1 ≤ u.2.1 ∧ u.2.1 ≤ 2 ^ u.2.2.1 ∧ u.1 + u.2.1 = i + 1) ∧ (∀ l, 1 ≤ l → l < u.2.1 → fc z (2 ^ n - 1) (c4 t) u.1 ≠ fc z (2 ^ n - 1) (c4 t) (u.1 + l)) ∧ xd nm [32] h u.2.2.2 ∧ GM Y u.2.2.2 nm n z t ∧ ST Y u.2.2.2 nm) 0 16384 (by decide) ?_ ?_ (0, 1, 0, h1) ⟨⟨rfl, Nat.zero_le _, Nat.le_refl _, Nat.le_refl _, rfl⟩, fun l a b => absurd (show l < 1 from b) (by omega), e1, G1, S1⟩
  · rintro ⟨a, ln, ex, s⟩ ⟨⟨b1, b2, b3, b4, b5⟩, _⟩
    have : 2 ^ ex ≤ 2 ^ 12 := Nat.pow_le_pow_right (by decide) b2
    simp only at b1 b4 b5
    omega
  · rintro i ⟨a, ln, ex, s⟩ _ hi ⟨⟨b1, b2, b3, b4, b5⟩, b6, b7, b8, b9⟩ ih
    simp only at b1 b2 b3 b4 b5 b6 b7 b8 b9 ih ⊢
    have h12 : 2 ^ ex ≤ 2 ^ 12 := Nat.pow_le_pow_right (by decide) b2
    have h12v : (2 : Nat) ^ 12 = 4096 := rfl
    have ha := (hok a).1
    have hb := (hok (a + ln)).1
    refine c22 _ _ _ _ _ _ (bq_f (nI_ge hi (by decide)) ?_)
    by_cases heq : fc z (2 ^ n - 1) (c4 t) (a + ln) = fc z (2 ^ n - 1) (c4 t) a
    · exact bq_t (by rw [heq]) (q s a ln b7 b8 b9 b3 (by omega) heq.symm b6)
    · refine bq_f (fun e => heq ((nI_eq (by omega) (by omega)).mp e)) ?_
      have hb6 : ∀ l, 1 ≤ l → l < ln + 1 → fc z (2 ^ n - 1) (c4 t) a ≠ fc z (2 ^ n - 1) (c4 t) (a + l) := fun l h1 h2 e => by
        rcases Nat.lt_or_ge l ln with h9 | h9
        · exact b6 l h1 h9 e
        · rw [show l = ln by omega] at e; exact heq e.symm
      by_cases hlr : ln = 2 ^ ex
      · refine bq_nf (by rw [hlr]) ?_
        rintro _ rfl
        -- the reach is still below 4096
        have hex : ex < 12 := by
          rcases Nat.lt_or_ge ex 12 with h9 | h9
          · exact h9
          · have e12 : ex = 12 := by omega
            subst e12
            have h1 := sq_per (f := fc z (2 ^ n - 1) (c4 t)) fc_rule e0 (a - i0)
            rw [show i0 + (a - i0) = a by omega, show i0 + p0 + (a - i0) = a + p0 by omega] at h1
            exact absurd h1 (hb6 p0 hp0 (by omega))
        have hp2 : 2 ^ (ex + 1) = 2 ^ ex * 2 := Nat.pow_succ 2 ex
        refine c51 _ _ _ _ _ _ (sp_X4_behind hn b8 b9 (hok _) (hda _) (fun s2 e2 G2 S2 => ?_))
        rintro _ rfl _ rfl
        rw [nl_2, pk_mul, ← hp2, nI_1, nl_0, nI_1]
        exact ih (a + ln, 1, ex + 1, s2) ⟨⟨by simp only; omega, by simp only; omega, by simp only; omega, by simp only; omega, by simp only; omega⟩, fun l h1 h2 => by simp only at h2; omega, b7.tr e2, G2, S2⟩
      · refine bq_nt (fun e => hlr ((nI_eq (by omega) (by omega)).mp e)) ?_
        refine c51 _ _ _ _ _ _ (sp_X4_behind hn b8 b9 (hok _) (hda _) (fun s2 e2 G2 S2 => ?_))
        rintro _ rfl _ rfl
        rw [nI_1, nI_1]
        exact ih (a, ln + 1, ex, s2) ⟨⟨b1, b2, by simp only; omega, by simp only; omega, by simp only; omega⟩, hb6, b7.tr e2, G2, S2⟩
theorem sp_X4_goRound {Y : xg_Y} {Q : xg_H → Prop} {h : xg_H} {nm : Nat → Nat} {n : Nat} {z t : Nat → Nat} (hn : inj nm) (G : GM Y h nm n z t) (S : ST Y h nm) (q : ∀ h', xd nm [32, 35] h h' → GM Y h' nm n z t → ST Y h' nm → WH z (2 ^ n - 1) (c4 t) (xg_i h' (nm 35) 0) (xg_i h' (nm 35) 1) (xg_i h' (nm 35) 2) → Q h') : wp_X4_goRound Y Q (nm 35) h := by
  have H := G.2.2.2.2.2.2
  have hz := H.zok
  have hc := H.ok
  have hok := fc_ok (m := 2 ^ n - 1) hz hc
  -- places 0, 1, 2 of the game may change
  have mvG : ∀ {s : xg_H} {j : Nat} {v : Int32}, (j = 0 ∨ j = 1 ∨ j = 2) → GM Y s nm n z t → GM Y (xg_ui s (nm 35) j v) nm n z t := by
    intro s j v hj g
    refine ⟨g.1, g.2.1, ?_, ?_, ?_, ?_, g.2.2.2.2.2.2⟩
    · rw [xu_p hn (by omega)]; exact g.2.2.1
    · rw [xu_p hn (by omega)]; exact g.2.2.2.1
    · rw [xu_p hn (by omega)]; exact g.2.2.2.2.1
    · rw [xu_p hn (by omega)]; exact g.2.2.2.2.2.1
  have mvS : ∀ {s : xg_H} {j : Nat} {v : Int32}, ST Y s nm → ST Y (xg_ui s (nm 35) j v) nm := by
    intro s j v g
    exact ⟨g.1, fun c hc => by rw [xu_c hn (by decide)]; exact g.2.1 c hc, fun c hc => by rw [xu_c hn (by decide)]; exact g.2.2 c hc⟩
  unfold wp_X4_goRound
  refine ⟨G.1, fun R47 R74 R114 R121 c47 c74 c114 c121 => ?_⟩
  rintro _ rfl _ rfl _ rfl
  have e3 : xd nm [32, 35] h (xg_ui (xg_ui (xg_ui h (nm 35) 0 (-1)) (nm 35) 1 (-1)) (nm 35) 2 (-1)) := xd.ui hn (xd.ui hn (xd.ui hn xd.rf (by decide)) (by decide)) (by decide)
  have G3 : GM Y (xg_ui (xg_ui (xg_ui h (nm 35) 0 (-1)) (nm 35) 1 (-1)) (nm 35) 2 (-1)) nm n z t := mvG (by decide) (mvG (by decide) (mvG (by decide) G))
  have S3 : ST Y (xg_ui (xg_ui (xg_ui h (nm 35) 0 (-1)) (nm 35) 1 (-1)) (nm 35) 2 (-1)) nm := mvS (mvS (mvS S))
  have v123 : ∀ s, xd nm [32] (xg_ui (xg_ui (xg_ui h (nm 35) 0 (-1)) (nm 35) 1 (-1)) (nm 35) 2 (-1)) s → xg_i s (nm 35) 0 = nM ∧ xg_i s (nm 35) 1 = nM ∧ xg_i s (nm 35) 2 = nM := by
    intro s es
    rw [es.i _ (by decide), es.i _ (by decide), es.i _ (by decide)]
    simp only [xu hn, true_and, Nat.reduceEqDiff, if_false, if_true]
    exact ⟨rfl, rfl, rfl⟩
  rw [G3.2.2.2.1]
  refine sp_X4_allTurned hn G3 S3 hc (fun h4 e4 G4 S4 => ⟨fun h0 => bq_nf rfl ?_, fun hd => bq_nt (fun e9 => ?_) ?_⟩)
  · refine q h4 (e3.tr (e4.mono (by simp))) G4 S4 ?_
    obtain ⟨a, b, c⟩ := v123 h4 e4
    rw [a, b, c]
    exact Or.inl ⟨h0, rfl, rfl, rfl⟩
  · have hd7 := dl_le (c := c4 t) (s := 2 ^ n - 1) hz
    have hnc := nc_lt (c := c4 t) (s := 2 ^ n - 1) hz
    have := (nI_eq (a := dl z (c4 t) (2 ^ n - 1) * 4096 + nc z (c4 t) (2 ^ n - 1)) (b := 0) (by omega) (by decide)).mp e9
    omega
  · have hda := dl_all H hc hd
    obtain ⟨i0, p0, hp0, hip, e0⟩ := fc_twice (m := 2 ^ n - 1) hz hc
    refine sp_X4_roundLength hn G4 S4 hd (fun h6 a R e6 G6 S6 hR1 hR eaR hmin => ?_)
    have hrnd : ∀ {i p : Nat}, 1 ≤ p → fc z (2 ^ n - 1) (c4 t) i = fc z (2 ^ n - 1) (c4 t) (i + p) → fc z (2 ^ n - 1) (c4 t) i = fc z (2 ^ n - 1) (c4 t) (i + R) ∧ R ≤ p := fun hp e => sq_round (f := fc z (2 ^ n - 1) (c4 t)) fc_rule hR1 eaR hmin hp e
    rintro _ rfl
    have G8 : GM Y (xg_ui h6 (nm 35) 1 (nI R)) nm n z t := mvG (by decide) G6
    have S8 : ST Y (xg_ui h6 (nm 35) 1 (nI R)) nm := mvS S6
    have e8 : xd nm [32, 35] h (xg_ui h6 (nm 35) 1 (nI R)) := xd.ui hn ((e3.tr (e4.mono (by simp))).tr (e6.mono (by simp))) (by decide)
    have v2 : xg_i (xg_ui h6 (nm 35) 1 (nI R)) (nm 35) 1 = nI R := by rw [xu hn, if_pos ⟨rfl, rfl⟩]
    rintro _ rfl _ rfl
    rw [G8.2.2.2.1]
    -- later is R ahead
    refine lp (σ := xg_H) (R := fun i s => R47 (nI (c4 t)) (nI (fc z (2 ^ n - 1) (c4 t) i)) (nI i) s) (fun i s => xd nm [32, 35] h s ∧ GM Y s nm n z t ∧ ST Y s nm ∧ xg_i s (nm 35) 1 = nI R) 0 R (Nat.zero_le R) ?_ ?_ _ ⟨e8, G8, S8, v2⟩
    · rintro s ⟨es, Gs, Ss, vs⟩
      refine c47 _ _ _ _ (bq_t (by rw [vs]; exact nI_le (Nat.le_refl R) (by omega)) ?_)
      rintro _ rfl
      -- ahead
      have e0R : fc z (2 ^ n - 1) (c4 t) R = fc z (2 ^ n - 1) (c4 t) (0 + R) := by rw [Nat.zero_add]
      rw [e0R]
      refine lp (σ := xg_H) (R := fun i s => R74 (nI (fc z (2 ^ n - 1) (c4 t) i)) (nI (fc z (2 ^ n - 1) (c4 t) (i + R))) (nI i) s) (fun i s => xd nm [32, 35] h s ∧ GM Y s nm n z t ∧ ST Y s nm ∧ xg_i s (nm 35) 1 = nI R ∧ xg_i s (nm 35) 0 = nI i ∧ ∀ j, j < i → fc z (2 ^ n - 1) (c4 t) j ≠ fc z (2 ^ n - 1) (c4 t) (j + R)) 0 4096 (by decide) ?_ ?_ (xg_ui s (nm 35) 0 0) ?_
      · rintro s2 ⟨_, _, _, _, _, hno⟩
        exact absurd (hrnd hp0 e0).1 (hno i0 (by omega))
      · rintro i s2 _ hi ⟨es2, Gs2, Ss2, vs2, vs1, hno⟩ ih
        refine c74 _ _ _ _ (bq_f (nI_ge hi (by decide)) ?_)
        have k1 := (hok i).1
        have k2 := (hok (i + R)).1
        by_cases heq : fc z (2 ^ n - 1) (c4 t) i = fc z (2 ^ n - 1) (c4 t) (i + R)
        · refine bq_t (by rw [← heq]) (c114 _ _ ?_)
          rintro _ rfl
          have hdist : ∀ x y, x < y → y < i + R → fc z (2 ^ n - 1) (c4 t) x ≠ fc z (2 ^ n - 1) (c4 t) y := by
            intro x y hxy hy e
            rw [show y = x + (y - x) by omega] at e
            obtain ⟨g1, g2⟩ := hrnd (by omega) e
            exact hno x (by omega) g1
          -- its minutes
          refine lp (σ := xg_H) (R := fun j s => R121 (nI (fc z (2 ^ n - 1) (c4 t) (i + j))) (nI j) s) (fun j s => xd nm [32, 35] h s ∧ GM Y s nm n z t ∧ ST Y s nm ∧ xg_i s (nm 35) 1 = nI R ∧ xg_i s (nm 35) 0 = nI i ∧ xg_i s (nm 35) 2 = nI (ft z (2 ^ n - 1) (c4 t) (i + j) - ft z (2 ^ n - 1) (c4 t) i)) 0 R (Nat.zero_le R) ?_ ?_ _ ?_
          · rintro s3 ⟨es3, Gs3, Ss3, w2, w1, w3⟩
            refine c121 _ _ _ (bq_t (by rw [w2]; exact nI_le (Nat.le_refl R) (by omega)) (q s3 es3 Gs3 Ss3 ?_))
            rw [w1, w2, w3]
            exact Or.inr ⟨hd, i, R, hR1, heq, hdist, rfl, rfl, rfl⟩
          · rintro j s3 _ hj ⟨es3, Gs3, Ss3, w2, w1, w3⟩ ih3
            have hd7 := dl_le (c := fc z (2 ^ n - 1) (c4 t) (i + j)) (s := 2 ^ n - 1) hz
            have hnc := nc_lt (c := fc z (2 ^ n - 1) (c4 t) (i + j)) (s := 2 ^ n - 1) hz
            have hge := ft_mono H hc hd (i := i) j
            refine c121 _ _ _ (bq_f (by rw [w2]; exact nI_ge hj (by omega)) (sp_X4_allTurned hn Gs3 Ss3 (hok _) (fun s4 e4' G4' S4' => ⟨fun h0 => by have := hda (i + j); omega, fun _ => ?_⟩)))
            rw [sh12 (by omega), show (dl z (fc z (2 ^ n - 1) (c4 t) (i + j)) (2 ^ n - 1) * 4096 + nc z (fc z (2 ^ n - 1) (c4 t) (i + j)) (2 ^ n - 1)) / 4096 = dl z (fc z (2 ^ n - 1) (c4 t) (i + j)) (2 ^ n - 1) by omega, w3, nI_add]
            rintro _ rfl
            refine sp_X4_behind hn (mvG (by decide) G4') (mvS S4') (hok _) (hda _) (fun s5 e5 G5 S5 => ?_)
            rintro _ rfl
            rw [nI_1]
            refine ih3 s5 ⟨(xd.ui hn (es3.tr (e4'.mono (by simp))) (by decide)).tr (e5.mono (by simp)), G5, S5, ?_, ?_, ?_⟩
            · rw [e5.i _ (by decide), xu_p hn (by decide), e4'.i _ (by decide)]; exact w2
            · rw [e5.i _ (by decide), xu_p hn (by decide), e4'.i _ (by decide)]; exact w1
            · rw [e5.i _ (by decide), xu hn, if_pos ⟨rfl, rfl⟩]
              congr 1
              show _ = ft z (2 ^ n - 1) (c4 t) (i + j) + dl z (fc z (2 ^ n - 1) (c4 t) (i + j)) (2 ^ n - 1) - _
              omega
          · refine ⟨xd.ui hn es2 (by decide), mvG (by decide) Gs2, mvS Ss2, ?_, ?_, ?_⟩
            · rw [xu_p hn (by decide)]; exact vs2
            · rw [xu_p hn (by decide)]; exact vs1
            · rw [xu hn, if_pos ⟨rfl, rfl⟩, Nat.add_zero, Nat.sub_self]; rfl
        · refine bq_f (fun e => heq ((nI_eq (by omega) (by omega)).mp e)) ?_
          refine sp_X4_behind hn Gs2 Ss2 (hok _) (hda _) (fun s3 e3' G3' S3' => ?_)
          refine sp_X4_behind hn G3' S3' (hok _) (hda _) (fun s4 e4' G4' S4' => ?_)
          have w1 : xg_i s4 (nm 35) 0 = nI i := by rw [e4'.i _ (by decide), e3'.i _ (by decide)]; exact vs1
          rintro _ rfl _ rfl
          rw [w1, nI_1]
          have := ih (xg_ui s4 (nm 35) 0 (nI (i + 1))) ⟨xd.ui hn ((es2.tr (e3'.mono (by simp))).tr (e4'.mono (by simp))) (by decide), mvG (by decide) G4', mvS S4', by rw [xu_p hn (by decide), e4'.i _ (by decide), e3'.i _ (by decide)]; exact vs2, by rw [xu hn, if_pos ⟨rfl, rfl⟩], fun j hj => ?_⟩
          · rw [show i + 1 + R = i + R + 1 by omega] at this
            exact this
          · rcases Nat.lt_or_ge j i with h9 | h9
            · exact hno j h9
            · rw [show j = i by omega]; exact heq
      · refine ⟨xd.ui hn es (by decide), mvG (by decide) Gs, mvS Ss, ?_, ?_, fun j hj => absurd hj (Nat.not_lt_zero j)⟩
        · rw [xu_p hn (by decide)]; exact vs
        · rw [xu hn, if_pos ⟨rfl, rfl⟩]; rfl
    · rintro i s _ hi ⟨es, Gs, Ss, vs⟩ ih
      refine c47 _ _ _ _ (bq_f (by rw [vs]; exact nI_ge hi (by omega)) (sp_X4_behind hn Gs Ss (hok _) (hda _) (fun s2 e2 G2 S2 => ?_)))
      rintro _ rfl
      rw [nI_1]
      exact ih s2 ⟨es.tr (e2.mono (by simp)), G2, S2, by rw [e2.i _ (by decide)]; exact vs⟩
