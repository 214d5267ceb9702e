/-! Book: toldBy, fewestGlasses, dearest, toldFree, allAtOnce -/
theorem fld_I {f : Nat → Nat} {i : Nat} (hf : ∀ g, g < 4 → f g ≤ 7) (hi : i < 16) : nI (c4 f) &&& xg_sv 2 i = nI (c4 (zr i f)) := by
  have hr : ∀ g, g < 4 → (zr i f) g ≤ 7 := fun g hg => by have := hf g hg; unfold zr; split <;> omega
  apply b_ext
  intro k hk
  rw [b_and, fld_bit i hi k hk, bt_nI _ hk, bt_nI _ hk]
  unfold c4
  rcases Nat.lt_or_ge k 12 with h | h
  · rw [cd_bit hf h, cd_bit hr h, decide_eq_true h]
    unfold zr
    cases i.testBit (k / 3) <;> simp
  · rw [cd_bit_hi hf h, cd_bit_hi hr h]; rfl
theorem sp_X1_allGlasses {Y : xg_Y} {Q : Int32 → xg_H → Prop} {h : xg_H} {nm : Nat → Nat} {B n : Nat} (k1 : xg_is Y (nm B) 1) (hn4 : n ≤ 4) (h14 : xg_i h (nm B) 14 = nI n) (q : Q (nI (2 ^ n - 1)) h) : wp_X1_allGlasses Y Q (nm B) h := by
  unfold wp_X1_allGlasses
  rw [h14, all_I hn4]
  exact ⟨k1, q⟩
/-- what a set of glasses tells alone -/
def TB (n : Nat) (z t : Nat → Nat) (i T : Nat) : Prop := (1 ≤ T ∧ T ≤ 30) ∧ ∃ b, rc (zr i z) i (c4 (zr i t)) T b
theorem TB_all {n : Nat} {z t : Nat → Nat} (S : SH n z t) (T : Nat) : TB n z t (2 ^ n - 1) T ↔ ((1 ≤ T ∧ T ≤ 30) ∧ ∃ b, rc z (2 ^ n - 1) (c4 t) T b) := by
  unfold TB
  rw [zr_full (fun j hj => (S.2.2 j hj).1), zr_full (fun j hj => (S.2.2 j hj).2)]
theorem sp_X1_toldBy {Y : xg_Y} {Q : Int32 → xg_H → Prop} {h : xg_H} {nm : Nat → Nat} {B N N2 n i : Nat} {z t : Nat → Nat} (hn : inj nm) (J : BJ Y h nm B N N2 n z t) (hi : sb i (2 ^ n - 1)) (q : ∀ h' v, BJ Y h' nm B N N2 n z t → bf nm B h h' → isB v (TB n z t i) → Q v h') : wp_X1_toldBy Y Q (nm B) (nI i) h := by
  have J0 := J
  obtain ⟨L, S, ⟨r, cs, C, b1, b2, b3, b4, b5, b6⟩, hcp⟩ := J
  have L0 := L
  have C0 := C
  obtain ⟨k1, ⟨o0, LWw⟩, ⟨o1, LWp⟩, ⟨o2, LCc⟩, ⟨o3, k4⟩, ⟨o4, k5⟩, ⟨o5, k6⟩, ⟨o6, k7⟩, ⟨o7, k8⟩, ⟨o8, k9⟩, ⟨o9, k10⟩, hB⟩ := L
  obtain ⟨SHh, C1, C2, C3, D, M, C6⟩ := C
  have hm := SHh.m
  have hil := sb_le hi
  unfold wp_X1_toldBy
  refine ⟨k1, fun R69 c69 => sp_X1_allGlasses k1 SHh.1 C3 ?_⟩
  by_cases hall : i = 2 ^ n - 1
  · refine bq_nf (by rw [hall]) (q h _ J0 bf.rf (C6.congr (fun T => ?_)))
    rw [hall]; exact (TB_all SHh T).symm
  · refine bq_nt (fun e => hall ((nI_eq (by omega) (by omega)).mp e)) ?_
    rintro _ rfl
    rw [nl_15, m15, Nat.mod_eq_of_lt (by omega)]
    refine ⟨nm (B + 7), o6, k7.1, ?_⟩
    rw [k7.2, nI_clamp (by omega)]
    refine ⟨vp_in_nI (by omega) (by decide), ?_⟩
    have fin : ∀ h' v, BJ Y h' nm B N N2 n z t → bf nm B h h' → xg_i h' (nm (B + 7)) i = v → isB v (TB n z t i) → R69 (nI i) h' := by
      rintro h' v J' e rfl hv
      have o6' := J'.1.2.2.2.2.2.2.2.1
      refine c69 _ _ ⟨nm (B + 7), o6'.1, o6'.2.1, ?_⟩
      rw [o6'.2.2, nI_clamp (by omega)]
      exact ⟨vp_in_nI (by omega) (by decide), q h' _ J' e hv⟩
    rcases b1 i hi with e1 | e1
    · rw [e1]
      refine bq_nf rfl ⟨vp_in_nI (show i < 16 by omega) (by decide), vp_in_nI (show i < 16 by omega) (by decide), nm (B + 30), o1, LWp.1, ?_⟩
      rw [C1, C2, fld_I (fun g hg => (SHh.le g).1) (by omega), fld_I (fun g hg => Nat.le_trans (SHh.le g).2 (SHh.le g).1) (by omega)]
      have hz := zr_zok (s := i) SHh.zok
      have hok : okc (zr i z) (c4 (zr i t)) := c4_ok hz (fun j _ => zr_le (s := i) (fun j => (SHh.le j).2) j)
      refine sp_X10_explore (N := N2) (m := i) hn S.1 LWp S.2.1 S.2.2 hz (by omega) (fun g _ hb => by unfold zr; rw [if_neg (by rw [hb]; decide)]) hok (hcp i _ hi hall) (fun h2 r2 cs2 e2 K2 Z2 D2 => ?_)
      refine sp_X10_findMinutes hn (LWp.mv e2) hz (by omega) D2 (fun h3 e3 M3 => ?_)
      have x3 : xe nm B [] [30, 31, 34, 32, 33, 35, 36, 7] [31, 32] h h3 := by
        refine ⟨fun j _ => ?_, fun o g1 g2 g3 j => ?_, fun c g1 g2 j => ?_, fun c j => (e3.2 c j).trans (e2.2 c j)⟩
        · rw [e3.i _ (by simp <;> omega), e2.i _ (by simp <;> omega)]
        · have a1 := e3.1 (B + o) (by simp at g1 ⊢; omega) j
          have a2 := e2.1 (B + o) (by simp at g1 ⊢; omega) j
          exact ⟨a1.1.trans a2.1, a1.2.trans a2.2⟩
        · have a1 := e3.1 c (by simp <;> omega) j
          have a2 := e2.1 c (by simp at g2 ⊢; omega) j
          exact ⟨a1.1.trans a2.1, a1.2.trans a2.2⟩
      have L3 := L0.mv x3 (by decide)
      refine ⟨nm (B + 30), (x3.2.2.2 _ _).trans o1, LWp.1, sp_X10_eventMinutes L3.2.2.1.2 M3 (fun v hv => ⟨nm (B + 7), (x3.2.2.2 _ _).trans o6, k7.1, ?_⟩)⟩
      rw [k7.2]
      refine ⟨vp_in_nI (by omega) (by decide), ?_⟩
      rintro _ rfl
      have x4 : xe nm B [] [30, 31, 34, 32, 33, 35, 36, 7] [31, 32] h (xg_ui h3 (nm (B + 7)) i v) := xe.ui hn x3 (by decide) (by decide) (by decide)
      refine fin _ v ⟨L0.mv x4 (by decide), ?_, ⟨r, cs, C0.mv x4 (by decide) (by decide) (by decide) (by decide) (by decide) (by decide) (by decide) (by decide) (by decide), fun i' hi' => ?_, b2.mv x4 (by decide) (by decide) (by decide), b3.mv x4 (by decide) (by decide) (by decide) (by decide), b4.mv x4 (by decide) (by decide), b5.mv x4 (by decide) (by decide) (by decide) (by decide), b6.mv x4 (by decide) (by decide)⟩, hcp⟩ (bf.of x4 (by simp)) (by rw [xu hn, if_pos ⟨rfl, rfl⟩]) hv
      · refine ⟨⟨S.1.1, (x4.2.2.2 _ _).trans S.1.2.1, S.1.2.2.1, (x4.2.2.2 _ _).trans S.1.2.2.2.1, S.1.2.2.2.2⟩, fun c hc => ?_, fun c hc => ?_⟩
        · rw [xu_c hn (by omega), e3.i _ (by simp <;> omega)]; exact K2 c hc
        · rw [xu_c hn (by omega), e3.i _ (by simp <;> omega), Z2 c hc]
      · rw [xu hn]
        by_cases e : i' = i
        · rw [if_pos ⟨rfl, e⟩, e]; exact Or.inr hv
        · rw [if_neg (fun q => e q.2), e3.i _ (by simp), e2.i _ (by simp <;> omega)]; exact b1 i' hi'
    · refine bq_nt (fun e9 => ?_) (fin h _ J0 bf.rf rfl e1)
      obtain ⟨b, hb, hbs⟩ := e1
      rw [hb, nl_m1, nI_eqM hbs.1] at e9
      exact e9
/-- the fewest glasses, of several sets the least -/
def NE (n : Nat) (z t : Nat → Nat) (T : Nat) (v : Int32) : Prop := (v = nM ∧ ∀ s, sb s (2 ^ n - 1) → ¬ TB n z t s T) ∨ ∃ s, v = nI s ∧ sb s (2 ^ n - 1) ∧ TB n z t s T ∧ ∀ s', sb s' (2 ^ n - 1) → TB n z t s' T → on4 s ≤ on4 s' ∧ (on4 s' = on4 s → s ≤ s')
theorem NE_one {n : Nat} {z t : Nat → Nat} {T : Nat} {v v' : Int32} (h : NE n z t T v) (h' : NE n z t T v') : v = v' := by
  rcases h with ⟨e, n1⟩ | ⟨s, e, a, b, c⟩ <;> rcases h' with ⟨e', n1'⟩ | ⟨s', e', a', b', c'⟩
  · rw [e, e']
  · exact absurd b' (n1 s' a')
  · exact absurd b (n1' s a)
  · have h1 := c s' a' b'
    have h2 := c' s a b
    have : on4 s = on4 s' := by omega
    have h3 := h1.2 this.symm
    have h4 := h2.2 this
    rw [e, e', show s = s' by omega]
theorem TB_0 {n : Nat} {z t : Nat → Nat} {T : Nat} : ¬ TB n z t 0 T := by
  rintro ⟨h1, b, k, w, hp⟩
  cases k with
  | zero => obtain ⟨e, _⟩ := hp; omega
  | succ k =>
    obtain ⟨s, t', w', g1, g2, _⟩ := hp
    have hz : ∀ g, zr 0 z g = 0 := fun g => by unfold zr; rw [Nat.zero_testBit]; rfl
    have ht : ∀ g, g < 4 → dg (c4 (zr 0 t)) g = 0 := fun g hg => by
      have : dg (c4 (zr 0 t)) g = zr 0 t g := dg_cd (f := zr 0 t) (fun g _ => by unfold zr; rw [Nat.zero_testBit]; exact Nat.zero_le _) g hg
      rw [this]; unfold zr; rw [Nat.zero_testBit]; rfl
    rcases dl_spec (z := zr 0 z) (c := c4 (zr 0 t)) (s := s) (fun g _ => by rw [hz]; exact Nat.zero_le _) with ⟨e, _⟩ | ⟨_, _, ⟨g, hg, e⟩, _⟩
    · omega
    · unfold tn at e
      rw [hz, ht g hg] at e
      split at e <;> omega
theorem sp_X1_fewestGlasses {Y : xg_Y} {Q : Int32 → xg_H → Prop} {h : xg_H} {nm : Nat → Nat} {B N N2 n T : Nat} {z t : Nat → Nat} (hn : inj nm) (J : BJ Y h nm B N N2 n z t) (h1 : 1 ≤ T) (h30 : T ≤ 30) (q : ∀ h' v, BJ Y h' nm B N N2 n z t → bf nm B h h' → NE n z t T v → Q v h') : wp_X1_fewestGlasses Y Q (nm B) (nI T) h := by
  have k1 := J.1.1
  have facts : ∀ h', BJ Y h' nm B N N2 n z t → n ≤ 4 ∧ xg_i h' (nm B) 14 = nI n := by
    rintro h' ⟨_, _, ⟨r, cs, C, _⟩, _⟩
    exact ⟨C.1.1, C.2.2.2.1⟩
  have hn4 := (facts h J).1
  have hp := pow_n hn4
  have hp1 := Nat.two_pow_pos n
  unfold wp_X1_fewestGlasses
  refine ⟨k1, fun R4 R28 R33 R54 c4' c28 c33 c54 => ?_⟩
  have P : ∃ P : Nat → Int32 → Prop, ∀ k v, P k v ↔ ((v = nM ∧ ∀ s, s < k → sb s (2 ^ n - 1) → ¬ TB n z t s T) ∨ ∃ s, v = nI s ∧ s < k ∧ sb s (2 ^ n - 1) ∧ TB n z t s T ∧ ∀ s', s' < k → sb s' (2 ^ n - 1) → TB n z t s' T → on4 s ≤ on4 s' ∧ (on4 s' = on4 s → s ≤ s')) := ⟨_, fun _ _ => Iff.rfl⟩
  obtain ⟨P, hP⟩ := P
  refine lp (σ := Int32 × xg_H) (R := fun k u => R4 u.1 (nI k) u.2) (fun k u => BJ Y u.2 nm B N N2 n z t ∧ bf nm B h u.2 ∧ P k u.1) 1 (2 ^ n) (by omega) ?_ ?_ (-1, h) ⟨J, bf.rf, (hP _ _).mpr (Or.inl ⟨rfl, fun s hs _ => by rw [show s = 0 by omega]; exact TB_0⟩)⟩
  · rintro ⟨v, h'⟩ ⟨J', e, hv⟩
    obtain ⟨_, h14⟩ := facts h' J'
    refine c4' _ _ _ (sp_X1_allGlasses k1 hn4 h14 (bq_t (nI_lt (by omega) (by omega)) (q h' v J' e ?_)))
    rcases (hP _ _).mp hv with ⟨a, b⟩ | ⟨s, a, a0, b, c, d⟩
    · exact Or.inl ⟨a, fun s hs => b s (by have := sb_le hs; omega) hs⟩
    · exact Or.inr ⟨s, a, b, c, fun s' hs' => d s' (by have := sb_le hs'; omega) hs'⟩
  · rintro k ⟨v, h'⟩ hk1 hk ⟨J', e, hv⟩ ih
    obtain ⟨_, h14⟩ := facts h' J'
    have hsb : sb k (2 ^ n - 1) := sb_full.mpr (by omega)
    have nxt : ∀ v' h2, BJ Y h2 nm B N N2 n z t → bf nm B h h2 → P (k + 1) v' → R54 v' (nI k) h2 := by
      intro v' h2 a1 a2 a3
      refine c54 _ _ _ ?_
      rintro _ rfl
      rw [nI_1]
      exact ih (v', h2) ⟨a1, a2, a3⟩
    -- this set is not fewer, or tells nothing
    have keep : (∀ s, v = nI s → s < 16 → ¬ on4 k < on4 s) ∧ v ≠ nM ∨ ¬ TB n z t k T → P (k + 1) v := by
      intro hx
      refine (hP _ _).mpr ?_
      rcases (hP _ _).mp hv with ⟨a, b⟩ | ⟨s, a, a0, b, c, d⟩
      · refine Or.inl ⟨a, fun s hs hs2 ht => ?_⟩
        rcases Nat.lt_or_ge s k with h9 | h9
        · exact b s h9 hs2 ht
        · rw [show s = k by omega] at ht
          rcases hx with ⟨_, hx⟩ | hx
          · exact hx a
          · exact hx ht
      · refine Or.inr ⟨s, a, by omega, b, c, fun s' hs hs2 ht => ?_⟩
        rcases Nat.lt_or_ge s' k with h9 | h9
        · exact d s' h9 hs2 ht
        · rw [show s' = k by omega] at ht ⊢
          rcases hx with ⟨hx, _⟩ | hx
          · have h8 := hx s a (by omega)
            exact ⟨by omega, fun _ => by omega⟩
          · exact absurd ht hx
    have go : (v = nM ∨ ∃ s, v = nI s ∧ s < 16 ∧ on4 k < on4 s) → R33 v (nI k) 1 h' := by
      intro hfew
      refine c33 _ _ _ _ (bq_f (by decide) (sp_X1_toldBy hn J' hsb (fun h2 w J2 e2 hw => ?_)))
      obtain ⟨Bw, rfl, hBw⟩ := hw
      refine sp_X11_has hBw.1 (by omega) (fun hb => ⟨fun c => absurd c (by decide), fun _ => nxt _ _ J2 (e.tr e2) ?_⟩) (fun hb => ⟨fun _ => nxt _ _ J2 (e.tr e2) (keep (Or.inr (fun ht => ?_))), fun c => absurd rfl c⟩)
      · refine (hP _ _).mpr (Or.inr ⟨k, rfl, by omega, hsb, (hBw.2 T).mp hb, fun s' hs hs2 ht => ?_⟩)
        rcases Nat.lt_or_ge s' k with h9 | h9
        · rcases (hP _ _).mp hv with ⟨a, b⟩ | ⟨s, a, a0, b, c, d⟩
          · exact absurd ht (b s' h9 hs2)
          · have h8 := d s' h9 hs2 ht
            rcases hfew with hf | ⟨s2, f1, f2, f3⟩
            · have a : v = nI s := a
              rw [a, nI_eqM (by omega)] at hf; exact hf.elim
            · have a : v = nI s := a
              have := (nI_eq (a := s) (b := s2) (by omega) (by omega)).mp (a.symm.trans f1)
              subst this
              omega
        · rw [show s' = k by omega]; exact ⟨Nat.le_refl _, fun _ => Nat.le_refl _⟩
      · have := (hBw.2 T).mpr ht
        rw [hb] at this; cases this
    refine c4' _ _ _ (sp_X1_allGlasses k1 hn4 h14 (bq_f (nI_nlt (by omega) (by omega)) ?_))
    by_cases hvM : v = nM
    · exact bq_t hvM (c28 _ _ _ (go (Or.inl hvM)))
    · refine bq_f hvM ?_
      obtain ⟨s, a, a0, b, c, d⟩ : ∃ s, v = nI s ∧ s < k ∧ sb s (2 ^ n - 1) ∧ TB n z t s T ∧ ∀ s', s' < k → sb s' (2 ^ n - 1) → TB n z t s' T → on4 s ≤ on4 s' ∧ (on4 s' = on4 s → s ≤ s') := ((hP _ _).mp hv).elim (fun q => absurd q.1 hvM) id
      have ho1 := on4_le s
      have ho2 := on4_le k
      rw [a]
      refine sp_bitCount (by omega) (sp_bitCount (by omega) ⟨fun c9 => ?_, fun c9 => ?_⟩)
      · have h9 := (nI_leI (by omega) (by omega)).mp c9
        rw [← a]
        exact c33 _ _ _ _ (bq_t rfl (nxt v h' J' e (keep (Or.inl ⟨fun s2 f1 f2 => (by have := (nI_eq (a := s) (b := s2) (by omega) (by omega)).mp (a.symm.trans f1); subst this; omega), hvM⟩))))
      · rw [← a]
        exact c28 _ _ _ (go (Or.inr ⟨s, a, by omega, Nat.lt_of_not_le (fun h9 => c9 (nI_le h9 (by omega)))⟩))
/-- the T that takes most turns, of several the least; how many -/
def DE (z : Nat → Nat) (m c0 : Nat) (v u : Int32) : Prop := (v = nM ∧ u = nI 0 ∧ ∀ T x, 1 ≤ T → T ≤ 30 → ¬ TL z m c0 on4 T x) ∨ ∃ b xb, v = nI b ∧ u = nI xb ∧ (1 ≤ b ∧ b ≤ 30) ∧ lsN (TL z m c0 on4 b) xb ∧ ∀ T x, 1 ≤ T → T ≤ 30 → lsN (TL z m c0 on4 T) x → x ≤ xb ∧ (T < b → x < xb)
theorem lsN_one {P : Nat → Prop} {x y : Nat} (hx : lsN P x) (hy : lsN P y) : x = y := by
  have := hx.2 y hy.1
  have := hy.2 x hx.1
  omega
theorem lsN_ex {P : Nat → Prop} (h : ∃ x, P x) : ∃ x, lsN P x := by
  obtain ⟨x, hx, hl⟩ := pk_least P h
  exact ⟨x, hx, fun j hj => Nat.le_of_not_lt (fun h9 => hl j h9 hj)⟩
theorem DE_one {z : Nat → Nat} {m c0 : Nat} {v u v' u' : Int32} (h : DE z m c0 v u) (h' : DE z m c0 v' u') : v = v' ∧ u = u' := by
  rcases h with ⟨e, f, n1⟩ | ⟨b, xb, e, f, g, h1, h2⟩ <;> rcases h' with ⟨e', f', n1'⟩ | ⟨b', xb', e', f', g', h1', h2'⟩
  · rw [e, e', f, f']; exact ⟨rfl, rfl⟩
  · exact absurd h1'.1 (n1 b' xb' g'.1 g'.2)
  · exact absurd h1.1 (n1' b xb g.1 g.2)
  · have a1 := h2 b' xb' g'.1 g'.2 h1'
    have a2 := h2' b xb g.1 g.2 h1
    have eb : b = b' := by
      rcases Nat.lt_trichotomy b b' with h9 | h9 | h9
      · have := a2.2 h9; omega
      · exact h9
      · have := a1.2 h9; omega
    rw [e, e', f, f', eb, show xb = xb' by omega]; exact ⟨rfl, rfl⟩
theorem sp_X1_dearest {Y : xg_Y} {Q : Int32 → xg_H → Prop} {h : xg_H} {nm : Nat → Nat} {B N N2 n : Nat} {z t : Nat → Nat} (hn : inj nm) (J : BJ Y h nm B N N2 n z t) (q : ∀ h' v u, BJ Y h' nm B N N2 n z t → bf nm B h h' → DE z (2 ^ n - 1) (c4 t) v u → Q v h') : wp_X1_dearest Y Q (nm B) h := by
  have k1 := J.1.1
  unfold wp_X1_dearest
  refine ⟨k1, fun R4 R41 R39 c4' c41 c39 => ?_⟩
  have P : ∃ P : Nat → Int32 → Prop, ∀ k v, P k v ↔ ((v = nM ∧ ∀ T x, 1 ≤ T → T < k → ¬ TL z (2 ^ n - 1) (c4 t) on4 T x) ∨ ∃ b xb, v = nI b ∧ (1 ≤ b ∧ b < k) ∧ lsN (TL z (2 ^ n - 1) (c4 t) on4 b) xb ∧ ∀ T x, 1 ≤ T → T < k → lsN (TL z (2 ^ n - 1) (c4 t) on4 T) x → x ≤ xb ∧ (T < b → x < xb)) := ⟨_, fun _ _ => Iff.rfl⟩
  obtain ⟨P, hP⟩ := P
  refine lp (σ := Int32 × xg_H) (R := fun k u => R4 u.1 (nI k) u.2) (fun k u => BJ Y u.2 nm B N N2 n z t ∧ bf nm B h u.2 ∧ P k u.1) 1 31 (by decide) ?_ ?_ (-1, h) ⟨J, bf.rf, (hP _ _).mpr (Or.inl ⟨rfl, fun T x h1 h2 => by omega⟩)⟩
  · rintro ⟨v, h'⟩ ⟨J', e, hv⟩
    rcases (hP _ _).mp hv with ⟨a, b⟩ | ⟨b, xb, a, g, h1, h2⟩
    · exact c4' _ _ _ (bq_t (by decide) (q h' v (nI 0) J' e (Or.inl ⟨a, rfl, fun T x h1 h2 => b T x h1 (by omega)⟩)))
    · exact c4' _ _ _ (bq_t (by decide) (q h' v (nI xb) J' e (Or.inr ⟨b, xb, a, rfl, by omega, h1, fun T x g1 g2 => h2 T x g1 (by omega)⟩)))
  · rintro k ⟨v, h'⟩ hk1 hk ⟨J', e, hv⟩ ih
    have nxt : ∀ v' h2, BJ Y h2 nm B N N2 n z t → bf nm B h h2 → P (k + 1) v' → R41 v' (nI k) h2 := by
      intro v' h2 a1 a2 a3
      refine c41 _ _ _ ?_
      rintro _ rfl
      rw [nI_1]
      exact ih (v', h2) ⟨a1, a2, a3⟩
    obtain ⟨_, _, ⟨r, cs, C, _⟩, _⟩ := id J'
    obtain ⟨Bt, hBt, hbt⟩ := C.2.2.2.2.2.2
    refine c4' _ _ _ (bq_f (nI_nlt (b := k) (a := 30) (by omega) (by decide)) ?_)
    rw [hBt]
    refine sp_X11_has hbt.1 (by omega) (fun hb => ⟨fun c => absurd c (by decide), fun _ => ?_⟩) (fun hb => ⟨fun _ => nxt _ _ J' e ?_, fun c => absurd rfl c⟩)
    · have hyes := TL_rc (wt := on4) |>.mpr ((hbt.2 k).mp hb).2
      obtain ⟨xk, hxk⟩ := lsN_ex hyes
      -- this T is taken
      have take : ∀ h2, BJ Y h2 nm B N N2 n z t → bf nm B h h2 → (∀ T x, 1 ≤ T → T < k → lsN (TL z (2 ^ n - 1) (c4 t) on4 T) x → x < xk) → R39 (nI k) h2 := by
        intro h2 a1 a2 a3
        refine c39 _ _ (nxt _ _ a1 a2 ((hP _ _).mpr (Or.inr ⟨k, xk, rfl, by omega, hxk, fun T x g1 g2 g3 => ?_⟩)))
        rcases Nat.lt_or_ge T k with h9 | h9
        · have := a3 T x g1 h9 g3; omega
        · rw [show T = k by omega] at g3
          have := lsN_one g3 hxk
          omega
      rcases (hP _ _).mp hv with ⟨a, b⟩ | ⟨b, xb, a, g, h1, h2⟩
      · exact bq_t a (take h' J' e (fun T x g1 g2 g3 => absurd g3.1 (b T x g1 g2)))
      · refine bq_f (by rw [a, nl_m1, nI_eqM (by omega)]; exact id) ?_
        refine sp_X1_fewestTurns hn J' hk1 (by omega) (fun h3 x3 J3 e3 hx3 hl3 => ?_)
        rw [a]
        refine sp_X1_fewestTurns hn J3 g.1 (by omega) (fun h4 x4 J4 e4 hx4 hl4 => ?_)
        have f3 := lsG_one hl3 hxk
        have f4 := lsG_one hl4 h1
        subst f3
        subst f4
        have eb : bf nm B h h4 := (e.tr e3).tr e4
        refine ⟨fun c9 => nxt _ _ J4 eb ((hP _ _).mpr (Or.inr ⟨b, x4, rfl, by omega, h1, fun T x g1 g2 g3 => ?_⟩)), fun c9 => take h4 J4 eb (fun T x g1 g2 g3 => ?_)⟩
        · have c9 := (nI_leI (by omega) (by omega)).mp c9
          rcases Nat.lt_or_ge T k with h9 | h9
          · exact h2 T x g1 h9 g3
          · rw [show T = k by omega] at g3 ⊢
            have := lsN_one g3 hxk
            omega
        · have c9 : x4 < x3 := Nat.lt_of_not_le (fun h9 => c9 (nI_le h9 (by omega)))
          have := h2 T x g1 g2 g3
          omega
    · have hno : ∀ x, ¬ TL z (2 ^ n - 1) (c4 t) on4 k x := fun x hx => by
        have := (hbt.2 k).mpr ⟨⟨hk1, by omega⟩, TL_rc.mp ⟨x, hx⟩⟩
        rw [hb] at this; cases this
      rcases (hP _ _).mp hv with ⟨a, b⟩ | ⟨b, xb, a, g, h1, h2⟩
      · refine (hP _ _).mpr (Or.inl ⟨a, fun T x g1 g2 => ?_⟩)
        rcases Nat.lt_or_ge T k with h9 | h9
        · exact b T x g1 h9
        · rw [show T = k by omega]; exact hno x
      · refine (hP _ _).mpr (Or.inr ⟨b, xb, a, by omega, h1, fun T x g1 g2 g3 => ?_⟩)
        rcases Nat.lt_or_ge T k with h9 | h9
        · exact h2 T x g1 h9 g3
        · rw [show T = k by omega] at g3; exact absurd g3.1 (hno x)
theorem sp_X1_toldFree {Y : xg_Y} {Q : Int32 → xg_H → Prop} {h : xg_H} {nm : Nat → Nat} {B N N2 n : Nat} {z t : Nat → Nat} (hn : inj nm) (J : BJ Y h nm B N N2 n z t) (q : ∀ h' v, BJ Y h' nm B N N2 n z t → bf nm B h h' → isB v (fun T => (1 ≤ T ∧ T ≤ 30) ∧ TL z (2 ^ n - 1) (c4 t) on4 T 0) → Q v h') : wp_X1_toldFree Y Q (nm B) h := by
  have k1 := J.1.1
  unfold wp_X1_toldFree
  refine ⟨k1, fun R4 R35 c4' c35 => ?_⟩
  refine lp (σ := Int32 × xg_H) (R := fun k u => R4 u.1 (nI k) u.2) (fun k u => BJ Y u.2 nm B N N2 n z t ∧ bf nm B h u.2 ∧ isB u.1 (fun T => (1 ≤ T ∧ T < k) ∧ TL z (2 ^ n - 1) (c4 t) on4 T 0)) 1 31 (by decide) ?_ ?_ (nI 0, h) ⟨J, bf.rf, isB_0 (fun i hi => by omega)⟩
  · rintro ⟨v, h'⟩ ⟨J', e, hv⟩
    exact c4' _ _ _ (bq_t (by decide) (q h' v J' e (hv.congr (fun T => ⟨fun a => ⟨by omega, a.2⟩, fun a => ⟨by omega, a.2⟩⟩))))
  · rintro k ⟨v, h'⟩ hk1 hk ⟨J', e, hv⟩ ih
    have nxt : ∀ v' h2, BJ Y h2 nm B N N2 n z t → bf nm B h h2 → isB v' (fun T => (1 ≤ T ∧ T < k + 1) ∧ TL z (2 ^ n - 1) (c4 t) on4 T 0) → R35 v' (nI k) h2 := by
      intro v' h2 a1 a2 a3
      refine c35 _ _ _ ?_
      rintro _ rfl
      rw [nI_1]
      exact ih (v', h2) ⟨a1, a2, a3⟩
    have keep : ¬ TL z (2 ^ n - 1) (c4 t) on4 k 0 → isB v (fun T => (1 ≤ T ∧ T < k + 1) ∧ TL z (2 ^ n - 1) (c4 t) on4 T 0) := fun hno => hv.congr (fun T => ⟨fun a => ⟨by omega, a.2⟩, fun a => ⟨by
      rcases Nat.lt_or_ge T k with h9 | h9
      · omega
      · have := a.2; rw [show T = k by omega] at this; exact absurd this hno, a.2⟩⟩)
    obtain ⟨_, _, ⟨r, cs, C, _⟩, _⟩ := id J'
    obtain ⟨Bt, hBt, hbt⟩ := C.2.2.2.2.2.2
    refine c4' _ _ _ (bq_f (nI_nlt (b := k) (a := 30) (by omega) (by decide)) ?_)
    rw [hBt]
    refine sp_X11_has hbt.1 (by omega) (fun hb => ⟨fun c => absurd c (by decide), fun _ => ?_⟩) (fun hb => ⟨fun _ => nxt _ _ J' e (keep (fun hx => ?_)), fun c => absurd rfl c⟩)
    · refine sp_X1_fewestTurns hn J' hk1 (by omega) (fun h3 x3 J3 e3 hx3 hl3 => ⟨fun c9 => nxt _ _ J3 (e.tr e3) (keep (fun hx => c9 ?_)), fun c9 => ?_⟩)
      · have := lsG_one hl3 ⟨hx, fun j _ => Nat.zero_le j⟩
        rw [this]; rfl
      · rintro _ rfl
        have h0 := (nI_eq (a := x3) (b := 0) (by omega) (by decide)).mp c9
        subst h0
        have hyes : TL z (2 ^ n - 1) (c4 t) on4 k 0 := by
          rcases hl3 with ⟨a, _⟩ | ⟨_, a, _⟩
          · omega
          · exact a
        rw [bit_I hk]
        refine nxt _ _ J3 (e.tr e3) ((isB_or hv ⟨2 ^ k, rfl, bs_bit hk⟩).congr (fun T => ?_))
        constructor
        · rintro (a | rfl)
          · exact ⟨by omega, a.2⟩
          · exact ⟨by omega, hyes⟩
        · rintro ⟨a, b⟩
          rcases Nat.lt_or_ge T k with h9 | h9
          · exact Or.inl ⟨by omega, b⟩
          · exact Or.inr (by omega)
    · have := (hbt.2 k).mpr ⟨⟨hk1, by omega⟩, TL_rc.mp ⟨0, hx⟩⟩
      rw [hb] at this; cases this
