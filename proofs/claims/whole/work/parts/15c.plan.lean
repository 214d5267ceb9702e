/-! reference: plan -/
/-- idle with d spans done, any events gone by -/
def WI (z : Nat → Nat) (m c0 : Nat) (sp : Nat → Nat) (d c w : Nat) : Prop := ∃ c1 w1 t1, FW z m c0 sp d c1 w1 ∧ rc z m c1 t1 c ∧ w = w1 + t1
theorem rc_0 {z : Nat → Nat} {m a : Nat} : rc z m a 0 a := ⟨0, 0, rfl, rfl, rfl⟩
theorem WI_of {z : Nat → Nat} {m c0 d c w : Nat} {sp : Nat → Nat} (h : FW z m c0 sp d c w) : WI z m c0 sp d c w := ⟨c, w, 0, h, rc_0, rfl⟩
theorem WI_ok {z : Nat → Nat} {m c0 d c w : Nat} {sp : Nat → Nat} (hz : zok z) (hc : okc z c0) (h : WI z m c0 sp d c w) : okc z c := by
  obtain ⟨c1, w1, t1, h1, ⟨_, _, h2⟩, _⟩ := h
  exact pt_ok hz h2 (FW_ok hz hc _ _ _ h1)
theorem WI_step {z : Nat → Nat} {m c0 d c w : Nat} {sp : Nat → Nat} : WI z m c0 sp d c w ↔ FW z m c0 sp d c w ∨ ∃ c' w' s, WI z m c0 sp d c' w' ∧ sb s m ∧ 0 < dl z c' s ∧ w = w' + dl z c' s ∧ c = nc z c' s := by
  constructor
  · rintro ⟨c1, w1, t1, h1, ⟨k, w0, h2⟩, h3⟩
    cases k with
    | zero =>
      obtain ⟨e1, e2, _⟩ := h2
      subst e1 e2
      rw [h3, Nat.add_zero]; exact Or.inl h1
    | succ k =>
      obtain ⟨s, t2, w2, b, g1, g2, g3, g4, g5, g6⟩ := pt_snoc h2
      exact Or.inr ⟨b, w1 + t2, s, ⟨c1, w1, t2, h1, ⟨k, w2, g1⟩, rfl⟩, g2, g3, by omega, g6⟩
  · rintro (h | ⟨c', w', s, ⟨c1, w1, t1, h1, ⟨k, w0, h2⟩, rfl⟩, h4, h5, rfl, rfl⟩)
    · exact WI_of h
    · exact ⟨c1, w1, t1 + dl z c' s, h1, ⟨k + 1, _, pt_add h2 h4 h5⟩, by omega⟩
theorem FW_s {z : Nat → Nat} {m c0 d c w : Nat} {sp : Nat → Nat} : FW z m c0 sp (d + 1) c w ↔ ∃ c2 w2, WI z m c0 sp d c2 w2 ∧ rc z m c2 (sp d) c ∧ w = w2 + sp d := by
  constructor
  · rintro ⟨c1, w1, t1, c2, h1, h2, h3, rfl⟩
    exact ⟨c2, w1 + t1, ⟨c1, w1, t1, h1, h2, rfl⟩, h3, by omega⟩
  · rintro ⟨c2, w2, ⟨c1, w1, t1, h1, h2, rfl⟩, h3, rfl⟩
    exact ⟨c1, w1, t1, c2, h1, h2, h3, by omega⟩
def KI (z : Nat → Nat) (m c0 : Nat) (sp : Nat → Nat) (d i j x : Nat) : Prop := FW z m c0 sp d (x % 4096) (x / 4096) ∨ ∃ i' s', (i' < i ∨ i' = i ∧ s' < j) ∧ s' ≤ m ∧ WI z m c0 sp d (i' % 4096) (i' / 4096) ∧ 0 < dl z (i' % 4096) s' ∧ x = 4096 * (i' / 4096 + dl z (i' % 4096) s') + nc z (i' % 4096) s'
theorem KI_WI {z : Nat → Nat} {n c0 d i j x : Nat} {sp : Nat → Nat} (hz : zok z) (hc : okc z c0) (hx : x / 4096 * 4096 ≤ i) : KI z (2 ^ n - 1) c0 sp d i j x ↔ WI z (2 ^ n - 1) c0 sp d (x % 4096) (x / 4096) := by
  rw [WI_step]
  constructor
  · rintro (h | ⟨i', s', _, hs, hw, hd, e⟩)
    · exact Or.inl h
    · have h1 := nc_lt (z := z) (c := i' % 4096) (s := s') hz
      exact Or.inr ⟨_, _, s', hw, sb_full.mpr hs, hd, by omega, by omega⟩
  · rintro (h | ⟨c', w', s, hw, hs, hd, e1, e2⟩)
    · exact Or.inl h
    · have hb := (WI_ok hz hc hw).1
      have e3 : (4096 * w' + c') % 4096 = c' := by omega
      have e4 : (4096 * w' + c') / 4096 = w' := by omega
      refine Or.inr ⟨4096 * w' + c', s, Or.inl (by omega), sb_full.mp hs, by rw [e3, e4]; exact hw, by rw [e3]; exact hd, ?_⟩
      rw [e3, e4, ← e1, ← e2]; omega
theorem sp_keepIdle {Q : mg_H → Prop} {h : mg_H} {z : Nat → Nat} {n c0 d : Nat} {sp : Nat → Nat} (hz : zok z) (hc0 : okc z c0) (hn : n ≤ 4) (H : HS h z (2 ^ n - 1) c0) (hd : d ≤ 6) (W : ∀ x, x < 372736 → isB (mg_i h 46 x) (fun e => (e < d ∧ WI z (2 ^ n - 1) c0 sp e (x % 4096) (x / 4096)) ∨ (e = d ∧ FW z (2 ^ n - 1) c0 sp d (x % 4096) (x / 4096)))) (q : ∀ h', md [46] [39] h h' → (∀ x, x < 372736 → isB (mg_i h' 46 x) (fun e => e ≤ d ∧ WI z (2 ^ n - 1) c0 sp e (x % 4096) (x / 4096))) → Q h') : wp_keepIdle Q (nI d) h := by
  have hp := pow_n hn
  have hp1 := Nat.two_pow_pos n
  have l46 : mg_len 46 = 376832 := rfl
  unfold wp_keepIdle
  intro R2 R11 R96 R90 c2 c11 c96 c90
  obtain ⟨J, hJ⟩ : ∃ J : Nat → Nat → mg_H → Prop, ∀ i j g, J i j g ↔ (md [46] [39] h g ∧ ∀ x, x < 372736 → isB (mg_i g 46 x) (fun e => (e < d ∧ WI z (2 ^ n - 1) c0 sp e (x % 4096) (x / 4096)) ∨ (e = d ∧ KI z (2 ^ n - 1) c0 sp d i j x))) := ⟨_, fun _ _ _ => Iff.rfl⟩
  refine lp (σ := mg_H) (R := fun i g => R2 (nI i) g) (fun i g => J i 0 g) 0 368640 (Nat.zero_le _) ?_ ?_ h ((hJ _ _ _).mpr ⟨md.rf, fun x hx => (W x hx).congr (fun e => or_congr_right (and_congr_right (fun _ => ⟨Or.inl, fun hk => hk.elim id (fun ⟨i', s', a, _⟩ => by omega)⟩)))⟩)
  · intro g hg
    obtain ⟨e, hs⟩ := (hJ _ _ _).mp hg
    refine c2 _ _ (bq_t (by decide) (q g e (fun x hx => (hs x hx).congr (fun e => ?_))))
    rw [KI_WI hz hc0 (by omega)]
    constructor
    · rintro (⟨a, b⟩ | ⟨a, b⟩)
      · exact ⟨by omega, b⟩
      · subst a; exact ⟨Nat.le_refl _, b⟩
    · rintro ⟨a, b⟩
      rcases Nat.lt_or_ge e d with h9 | h9
      · exact Or.inl ⟨h9, b⟩
      · have e9 : e = d := by omega
        subst e9; exact Or.inr ⟨rfl, b⟩
  · intro i g _ hi hg ih
    have nxt : ∀ j g', (2 ^ n - 1 < j ∨ ¬ WI z (2 ^ n - 1) c0 sp d (i % 4096) (i / 4096)) → J i j g' → R96 (nI i) g' := by
      intro j g' hj hg'
      obtain ⟨e, hs⟩ := (hJ _ _ _).mp hg'
      refine c96 _ _ ?_
      rintro _ rfl
      rw [nI_1]
      refine ih g' ((hJ _ _ _).mpr ⟨e, fun x hx => (hs x hx).congr (fun e => or_congr_right (and_congr_right (fun _ => or_congr_right ⟨?_, ?_⟩)))⟩)
      · rintro ⟨i', s', a, b⟩
        exact ⟨i', s', by omega, b⟩
      · rintro ⟨i', s', a, b, c⟩
        refine ⟨i', s', ?_, b, c⟩
        rcases Nat.lt_or_ge i' i with h9 | h9
        · exact Or.inl h9
        · have e9 : i' = i := by omega
          subst e9
          rcases hj with hj | hj
          · exact Or.inr ⟨rfl, by omega⟩
          · exact absurd c.1 hj
    -- bit d of place i
    have bit : ∀ j g', J i j g' → ∃ B, mg_i g' 46 i = nI B ∧ B < 2 ^ 31 ∧ (B.testBit d = true ↔ WI z (2 ^ n - 1) c0 sp d (i % 4096) (i / 4096)) := by
      intro j g' hg'
      obtain ⟨B, eB, hB⟩ := ((hJ _ _ _).mp hg').2 i (by omega)
      refine ⟨B, eB, hB.1, (hB.2 d).trans ?_⟩
      rw [KI_WI hz hc0 (by omega)]
      exact ⟨fun a => a.elim (fun a => absurd a.1 (Nat.lt_irrefl d)) (fun a => a.2), fun a => Or.inr ⟨rfl, a⟩⟩
    have k25 : ∀ g', md [46] [39] h g' → mg_i g' 0 25 = nI (2 ^ n - 1) := fun g' e' => (e'.2 25 (by decide)).trans H.2.1
    refine c2 _ _ (bq_f (nI_ge hi (by decide)) ?_)
    by_cases hw : WI z (2 ^ n - 1) c0 sp d (i % 4096) (i / 4096)
    · have hok := WI_ok hz hc0 hw
      refine lp (σ := mg_H) (R := fun j g => R11 (nI i) (nI j) g) (fun j g => J i j g) 0 (2 ^ n - 1 + 1) (Nat.zero_le _) ?_ ?_ g hg
      · intro g' hg'
        have e := ((hJ _ _ _).mp hg').1
        exact c11 _ _ _ (bq_t (by rw [k25 g' e]; exact nI_lt (by omega) (by omega)) (nxt _ g' (Or.inl (by omega)) hg'))
      · intro j g' _ hj hg' ih2
        obtain ⟨e, hs⟩ := (hJ _ _ _).mp hg'
        obtain ⟨B, eB, hB, hbt⟩ := bit j g' hg'
        have hd7 := dl_le (z := z) (c := i % 4096) (s := j) hz
        have hnc := nc_lt (z := z) (c := i % 4096) (s := j) hz
        have stp : ∀ x, KI z (2 ^ n - 1) c0 sp d i (j + 1) x ↔ (KI z (2 ^ n - 1) c0 sp d i j x ∨ (0 < dl z (i % 4096) j ∧ x = 4096 * (i / 4096 + dl z (i % 4096) j) + nc z (i % 4096) j)) := by
          intro x
          unfold KI
          constructor
          · rintro (a | ⟨i', s', a, b, c, f1, f2⟩)
            · exact Or.inl (Or.inl a)
            · by_cases h9 : i' < i ∨ i' = i ∧ s' < j
              · exact Or.inl (Or.inr ⟨i', s', h9, b, c, f1, f2⟩)
              · have e1 : i' = i := by omega
                have e2 : s' = j := by omega
                subst e1 e2
                exact Or.inr ⟨f1, f2⟩
          · rintro ((a | ⟨i', s', a, b⟩) | ⟨a, b⟩)
            · exact Or.inl a
            · exact Or.inr ⟨i', s', by omega, b⟩
            · exact Or.inr ⟨i, j, by omega, by omega, hw, a, b⟩
        have no : ∀ g2, md [46] [39] h g2 → (∀ x, mg_i g2 46 x = mg_i g' 46 x) → ¬ (0 < dl z (i % 4096) j ∧ i / 4096 + dl z (i % 4096) j ≤ 90) → R90 (nI i) (nI j) g2 := by
          intro g2 e2 hl2 hno
          refine c90 _ _ _ ?_
          rintro _ rfl
          rw [nI_1]
          refine ih2 g2 ((hJ _ _ _).mpr ⟨e2, fun x hx => ?_⟩)
          rw [hl2 x]
          refine (hs x hx).congr (fun e => or_congr_right (and_congr_right (fun _ => ?_)))
          rw [stp x]
          exact ⟨Or.inl, fun a => a.elim id (fun a => absurd ⟨a.1, by omega⟩ hno)⟩
        refine c11 _ _ _ (bq_f (by rw [k25 g' e]; exact nI_nlt (by omega) (by omega)) ?_)
        rw [nI_clamp (n := i) (by omega), eB]
        refine ⟨vp_in_nI (by omega) (by omega), lb_has hB (by omega) (fun _ => bq_f (by decide) ?_) (fun hb => absurd (hbt.mpr hw) (by rw [hb]; decide))⟩
        rw [nl_4096, pk_rem (by omega) (by decide) (by decide), pk_div (by omega) (by decide) (by decide)]
        refine sp_next hz (fun l hl => (e.1 27 (by decide) (by decide) l).trans (H.1 l hl)) hok (by omega) (fun d0 => bq_t (by decide) (no g' e (fun _ => rfl) (by omega))) (fun d0 => bq_f (nI_ge (a := 0) d0 (by omega)) ?_)
        have e2 : md [46] [39] h (mg_ui g' 0 39 (nI (nc z (i % 4096) j))) := e.u0 (by decide)
        rw [nI_add]
        by_cases hT2 : i / 4096 + dl z (i % 4096) j ≤ 90
        · refine bq_f (nI_nlt (b := i / 4096 + dl z (i % 4096) j) (a := 90) hT2 (by omega)) ?_
          obtain ⟨y, ey⟩ : ∃ y, y = 4096 * (i / 4096 + dl z (i % 4096) j) + nc z (i % 4096) j := ⟨_, rfl⟩
          have hy : y < 372736 := by omega
          rw [mi_same, pk_mul, nI_add, ← ey, nI_clamp (n := y) (by omega), mi_cell (by decide), bit_I (by omega)]
          refine ⟨vp_in_nI (by omega) (by omega), vp_in_nI (by omega) (by omega), ?_⟩
          rintro _ rfl
          refine c90 _ _ _ ?_
          rintro _ rfl
          rw [nI_1]
          refine ih2 _ ((hJ _ _ _).mpr ⟨e2.ui (by decide) (by decide), fun x hx => ?_⟩)
          by_cases hxy : x = y
          · rw [hxy, mi_same]
            refine (isB_or (hs y hy) (isB_bit (show d < 31 by omega))).congr (fun e => ?_)
            rw [stp y]
            constructor
            · rintro ((a | ⟨a, b⟩) | a)
              · exact Or.inl a
              · exact Or.inr ⟨a, Or.inl b⟩
              · exact Or.inr ⟨a, Or.inr ⟨d0, ey⟩⟩
            · rintro (a | ⟨a, b | b⟩)
              · exact Or.inl (Or.inl a)
              · exact Or.inl (Or.inr ⟨a, b⟩)
              · exact Or.inr a
          · rw [mi_place hxy, mi_cell (by decide)]
            refine (hs x hx).congr (fun e => or_congr_right (and_congr_right (fun _ => ?_)))
            rw [stp x]
            exact ⟨Or.inl, fun a => a.elim id (fun a => absurd (a.2.trans ey.symm) hxy)⟩
        · exact bq_t (nI_lt (a := 90) (by omega) (by omega)) (no _ e2 (fun x => mi_cell (by decide)) (by omega))
    · obtain ⟨e, hs⟩ := (hJ _ _ _).mp hg
      obtain ⟨B, eB, hB, hbt⟩ := bit 0 g hg
      refine c11 _ _ _ (bq_f (by rw [k25 g e]; exact nI_nlt (b := 0) (Nat.zero_le _) (by omega)) ?_)
      rw [nI_clamp (n := i) (by omega), eB]
      refine ⟨vp_in_nI (by omega) (by omega), lb_has hB (by omega) (fun hb => absurd (hbt.mp hb) hw) (fun _ => bq_t rfl (nxt 0 g (Or.inr hw) hg))⟩
theorem two_I {d : Nat} (hd : d < 30) : (2 : Int32) <<< (nI d &&& 31) = nI (2 ^ (d + 1)) := by
  have h1 : 2 ^ (d + 1) ≤ 2 ^ 30 := Nat.pow_le_pow_right (by decide) (by omega)
  have h2 : 2 * 2 ^ d = 2 ^ (d + 1) := by rw [Nat.pow_succ, Nat.mul_comm]
  rw [nl_2, nl_31, m31 (by omega), sl_I (by omega) (by omega), h2]
theorem PF_rc {z : Nat → Nat} {m : Nat} {wt : Nat → Nat} {I : Nat → Prop} {T c : Nat} : (∃ w, PF z m wt I 0 T c w) ↔ ∃ a, I a ∧ rc z m a T c := by
  constructor
  · rintro ⟨w, a, k, h1, h2⟩
    exact ⟨a, h1, rc_of h2⟩
  · rintro ⟨a, h1, h2⟩
    obtain ⟨k, w, h3⟩ := rc_to (wt := wt) h2
    exact ⟨w, a, k, h1, h3⟩
theorem sp_tellFrom {Q : mg_H → Prop} {h : mg_H} {z : Nat → Nat} {n c0 d t T : Nat} {I : Nat → Prop} (hz : zok z) (hn : n ≤ 4) (H : HS h z (2 ^ n - 1) c0) (hd : d ≤ 6) (hT1 : 1 ≤ T) (hT : T ≤ 30) (ht : t + T ≤ 90) (hI : ∀ c, I c → okc z c) (W : ∀ c, c < 4096 → ∃ B, mg_i h 46 (4096 * t + c) = nI B ∧ B < 2 ^ 31 ∧ (B.testBit d = true ↔ I c)) (q : ∀ h', md [40, 46] [39] h h' → (∀ x, (x < 4096 * (t + T) ∨ 4096 * (t + T) + 4096 ≤ x) → mg_i h' 46 x = mg_i h 46 x) → (∀ c p, c < 4096 → isB (mg_i h 46 (4096 * (t + T) + c)) p → isB (mg_i h' 46 (4096 * (t + T) + c)) (fun e => p e ∨ (e = d + 1 ∧ ∃ a, I a ∧ rc z (2 ^ n - 1) a T c))) → Q h') : wp_tellFrom Q (nI t) (nI T) (nI d) h := by
  have hp := pow_n hn
  have l46 : mg_len 46 = 376832 := rfl
  have l40 : mg_len 40 = 126976 := rfl
  have hB : ∀ s, s ≤ 2 ^ n - 1 → on4 s ≤ 40 := fun s _ => Nat.le_trans (on4_le s) (by decide)
  unfold wp_tellFrom
  intro R12 R95 R55 R143 R66 R71 c12 c95 c55 c143 c66 c71
  refine sp_clear (a := 0) (b := T) (by omega) hT (fun h1 e1 w1 => ?_)
  have e1' : md [40, 46] [39] h h1 := e1.mono (by simp) (by simp)
  refine lp (σ := mg_H × Nat) (R := fun c s => R12 (nI s.2) (nI c) s.1) (fun c s => md [40] [] h1 s.1 ∧ (∀ j, 4096 ≤ j → mg_i s.1 40 j = mg_i h1 40 j) ∧ (∀ j, j < c → lst (fun w => I j ∧ w = 0) (mg_i s.1 40 j)) ∧ ((s.2 = 1) ∨ (s.2 = 0 ∧ ∀ j, j < c → ¬ I j))) 0 4096 (Nat.zero_le _) ?_ ?_ (h1, 0) ⟨md.rf, fun _ _ => rfl, fun j hj => absurd hj (Nat.not_lt_zero j), Or.inr ⟨rfl, fun j hj => absurd hj (Nat.not_lt_zero j)⟩⟩
  · rintro ⟨g, fl⟩ ⟨e, a1, a2, a3⟩
    dsimp only at e a1 a2 a3 ⊢
    have e2 : md [40, 46] [39] h g := e1'.tr (e.mono (by simp) (by simp))
    refine c12 _ _ _ (bq_t (by decide) ?_)
    rcases a3 with a3 | ⟨a3, a4⟩
    · subst a3
      have H2 := H.mv e2 (by decide) (by decide) (by decide)
      refine bq_nt (by decide) (sp_goOn (F := 0) (T := T) (z := z) (m := 2 ^ n - 1) (wt := on4) I hz (by omega) (Nat.zero_le T) hT H2.1 H2.2.1 hI (fun h' _ s hs _ Q q => sp_cost0 hs q) hB (fun c hc => by rw [Nat.mul_zero, Nat.zero_add]; exact a2 c hc) (fun t' c g1 g2 g3 => by rw [a1 _ (by omega), w1, if_pos (by omega)]) (fun g2 e3 _ C => ?_))
      have e4 : md [40, 46] [39] h g2 := e2.tr (e3.mono (by simp) (by simp))
      have i46 : ∀ x, mg_i g2 46 x = mg_i h 46 x := fun x => ((e3.1 46 (by decide) (by decide) x).trans (e.1 46 (by decide) (by decide) x)).trans (e1.1 46 (by decide) (by decide) x)
      refine lp (σ := mg_H) (R := fun c g => R95 (nI c) g) (fun c g => md [46] [] g2 g ∧ (∀ x, (x < 4096 * (t + T) ∨ 4096 * (t + T) + c ≤ x) → mg_i g 46 x = mg_i h 46 x) ∧ (∀ c' p, c' < c → isB (mg_i h 46 (4096 * (t + T) + c')) p → isB (mg_i g 46 (4096 * (t + T) + c')) (fun e => p e ∨ (e = d + 1 ∧ ∃ a, I a ∧ rc z (2 ^ n - 1) a T c')))) 0 4096 (Nat.zero_le _) ?_ ?_ g2 ⟨md.rf, fun x _ => i46 x, fun c' _ hc => absurd hc (Nat.not_lt_zero c')⟩
      · rintro g3 ⟨e5, b1, b2⟩
        exact c95 _ _ (bq_t (by decide) (q g3 (e4.tr (e5.mono (by simp) (by simp))) b1 (fun c p hc => b2 c p hc)))
      · rintro c g3 _ hc ⟨e5, b1, b2⟩ ih
        refine c95 _ _ (bq_f (nI_ge hc (by decide)) ?_)
        rw [nI_add, nl_4096, pk_mul, pk_mul, nI_add, nI_add, nI_clamp (n := 4096 * (t + T) + c) (by omega), nI_clamp (n := 4096 * T + c) (by omega), b1 _ (Or.inr (Nat.le_refl _)), e5.1 40 (by decide) (by decide), two_I (by omega)]
        refine ⟨vp_in_nI (by omega) (by omega), vp_in_nI (by omega) (by omega), ?_⟩
        have go : ∀ v p0, isB v p0 → (∀ e, p0 e ↔ (e = d + 1 ∧ ∃ a, I a ∧ rc z (2 ^ n - 1) a T c)) → R143 (nI c) v (mg_i h 46 (4096 * (t + T) + c)) (nI (4096 * (t + T) + c)) g3 := by
          intro v p0 hv hp0
          refine c143 _ _ _ _ _ ?_
          rw [nI_clamp (n := 4096 * (t + T) + c) (by omega)]
          refine ⟨vp_in_nI (by omega) (by omega), ?_⟩
          rintro _ rfl _ rfl
          rw [nI_1]
          refine ih _ ⟨e5.ui (by decide) (by decide), fun x hx => ?_, fun c' p hc' hp' => ?_⟩
          · rw [mi_place (by omega)]; exact b1 x (by omega)
          · rcases Nat.lt_or_ge c' c with h9 | h9
            · rw [mi_place (by omega)]; exact b2 c' p h9 hp'
            · have e9 : c' = c := by omega
              subst e9
              rw [mi_same]
              exact (isB_or hp' hv).congr (fun e => or_congr_right (hp0 e))
        have hcl := C T c (Nat.zero_le T) (Nat.le_refl T) hc
        have hrc := PF_rc (z := z) (m := 2 ^ n - 1) (wt := on4) (I := I) (T := T) (c := c)
        rcases hcl with ⟨c1, c2⟩ | ⟨m0, c1, c2, _⟩
        · refine bq_nf (by rw [c1]; rfl) (go _ _ (isB_0 (p := fun _ => False) (fun _ => id)) (fun e => ⟨False.elim, fun a => ?_⟩))
          obtain ⟨w, hw⟩ := hrc.mpr a.2
          exact c2 w hw
        · have hb := CL_b hB hT c2
          refine bq_nt (by rw [c1, nl_m1, nI_eqM (by omega)]; exact id) (go _ _ (isB_bit (show d + 1 < 31 by omega)) (fun e => ⟨fun a => ⟨a, hrc.mp ⟨m0, c2⟩⟩, fun a => a.1⟩))
    · subst a3
      refine bq_nf rfl (q g e2 (fun x _ => (e.1 46 (by decide) (by decide) x).trans (e1.1 46 (by decide) (by decide) x)) (fun c p hc hp => ?_))
      rw [(e.1 46 (by decide) (by decide) _).trans (e1.1 46 (by decide) (by decide) _)]
      refine hp.congr (fun e => ⟨Or.inl, fun a => a.elim id (fun ⟨_, a, ha, _⟩ => absurd ha (a4 a (hI a ha).1))⟩)
  · rintro c ⟨g, fl⟩ _ hc ⟨e, a1, a2, a3⟩ ih
    dsimp only at e a1 a2 a3 ih ⊢
    refine c12 _ _ _ (bq_f (nI_ge hc (by decide)) ?_)
    obtain ⟨B, eB, hB2, hbt⟩ := W c hc
    rw [nl_4096, pk_mul, nI_add, nI_clamp (by omega), (e.1 46 (by decide) (by decide) _).trans (e1.1 46 (by decide) (by decide) _), eB]
    refine ⟨vp_in_nI (by omega) (by omega), ?_⟩
    have st : ∀ (v : Int32) g2 fl2, lst (fun w => I c ∧ w = 0) v → g2 = mg_ui g 40 c v → ((fl2 = 1) ∨ (fl2 = 0 ∧ ∀ j, j < c + 1 → ¬ I j)) → R71 (nI c) (nI fl2) g2 := by
      rintro v g2 fl2 hv rfl hf
      refine c71 _ _ _ ?_
      rintro _ rfl
      rw [nI_1]
      refine ih (_, fl2) ⟨e.ui (by decide) (by decide), fun j hj => (mi_place (by omega)).trans (a1 j hj), fun j hj => ?_, hf⟩
      show lst (fun w => I j ∧ w = 0) (mg_i (mg_ui g 40 c v) 40 j)
      rcases Nat.lt_or_ge j c with h9 | h9
      · rw [mi_place (by omega)]; exact a2 j h9
      · have e9 : j = c := by omega
        subst e9
        rw [mi_same]; exact hv
    refine lb_has hB2 (by omega) (fun hb => bq_f (by decide) ?_) (fun hb => bq_t rfl ?_)
    · have hIc := hbt.mp hb
      refine c55 _ _ _ _ _ _ ⟨vp_in_nI (by omega) (by omega), ?_⟩
      rw [nI_clamp (n := c) (by omega)]
      rintro _ rfl
      have fin : R66 (nI c) (mg_ui g 40 c 0) := c66 _ _ (st (nI 0) _ 1 (Or.inr ⟨0, rfl, ⟨hIc, rfl⟩, fun j _ => Nat.zero_le j⟩) rfl (Or.inl rfl))
      exact ⟨fun _ => fin, fun _ => bq_f (by decide) fin⟩
    · have hIc : ¬ I c := fun hI2 => by rw [hbt.mpr hI2] at hb; cases hb
      refine c55 _ _ _ _ _ _ ⟨vp_in_nI (by omega) (by omega), ?_⟩
      rw [nI_clamp (n := c) (by omega)]
      rintro _ rfl
      have hv : lst (fun w => I c ∧ w = 0) nM := Or.inl ⟨rfl, fun w a => hIc a.1⟩
      rcases a3 with a3 | ⟨a3, a4⟩
      · subst a3
        exact bq_nt (by decide) (c66 _ _ (st nM _ 1 hv rfl (Or.inl rfl)))
      · subst a3
        refine bq_nf rfl (bq_t rfl (st nM _ 0 hv rfl (Or.inr ⟨rfl, fun j hj => ?_⟩)))
        rcases Nat.lt_or_ge j c with h9 | h9
        · exact a4 j h9
        · rw [show j = c by omega]; exact hIc
theorem sp_firstIdle {Q : Int32 → mg_H → Prop} {h : mg_H} {d : Nat} {P : Nat → Prop} (hd : d < 31) (W : ∀ x, x < 372736 → ∃ B, mg_i h 46 x = nI B ∧ B < 2 ^ 31 ∧ (B.testBit d = true ↔ P x)) (q : ∀ v, lst (fun w => ∃ c, c < 4096 ∧ w ≤ 90 ∧ P (4096 * w + c)) v → Q v h) : wp_firstIdle Q (nI d) h := by
  have l46 : mg_len 46 = 376832 := rfl
  unfold wp_firstIdle
  intro R2 c2
  refine lp (σ := Unit) (R := fun i _ => R2 (nI i) h) (fun i _ => ∀ x, x < i → ¬ P x) 0 372736 (Nat.zero_le _) ?_ ?_ () (fun x hx => absurd hx (Nat.not_lt_zero x))
  · intro _ hno
    exact c2 _ _ (bq_t (by decide) (q _ (Or.inl ⟨rfl, fun w ⟨c, h1, h2, h3⟩ => hno _ (by omega) h3⟩)))
  · intro i _ _ hi hno ih
    obtain ⟨B, eB, hB, hbt⟩ := W i hi
    refine c2 _ _ (bq_f (nI_ge hi (by decide)) ?_)
    rw [nI_clamp (n := i) (by omega), eB]
    refine ⟨vp_in_nI (by omega) (by omega), lb_has hB (by omega) (fun hb => bq_f (by decide) ?_) (fun hb => bq_t rfl ?_)⟩
    · rw [nl_4096, pk_div (by omega) (by decide) (by decide)]
      refine q _ (Or.inr ⟨i / 4096, rfl, ⟨i % 4096, by omega, by omega, by rw [show 4096 * (i / 4096) + i % 4096 = i by omega]; exact hbt.mp hb⟩, fun w ⟨c, h1, h2, h3⟩ => ?_⟩)
      rcases Nat.lt_or_ge (4096 * w + c) i with h9 | h9
      · exact absurd h3 (hno _ h9)
      · omega
    · rintro _ rfl
      rw [nI_1]
      refine ih () (fun x hx => ?_)
      rcases Nat.lt_or_ge x i with h9 | h9
      · exact hno x h9
      · rw [show x = i by omega]
        exact fun hp => by rw [hbt.mpr hp] at hb; cases hb
/-- the row of an order: its spans -/
def OR (p : Nat → Nat → Int32) (o n : Nat) (sp : Nat → Nat) : Prop := n ≤ 6 ∧ p 9 (7 * o) = nI n ∧ ∀ j, j < n → p 9 (7 * o + (1 + j)) = nI (sp j) ∧ 1 ≤ sp j ∧ sp j ≤ 30
theorem FW_le {z : Nat → Nat} {m c0 d c w : Nat} {sp : Nat → Nat} (h : FW z m c0 sp (d + 1) c w) : ∃ c' w', w' ≤ w ∧ FW z m c0 sp d c' w' := by
  obtain ⟨c1, w1, t1, c2, h1, _, _, rfl⟩ := h
  exact ⟨c1, w1, by omega, h1⟩
theorem FW_dn {z : Nat → Nat} {m c0 d : Nat} {sp : Nat → Nat} : ∀ e c w, FW z m c0 sp (d + e) c w → ∃ c' w', w' ≤ w ∧ FW z m c0 sp d c' w'
  | 0, c, w, h => ⟨c, w, Nat.le_refl w, h⟩
  | e + 1, c, w, h => by
    obtain ⟨c1, w1, h1, h2⟩ := FW_le h
    obtain ⟨c2, w2, h3, h4⟩ := FW_dn e c1 w1 h2
    exact ⟨c2, w2, by omega, h4⟩
theorem sp_plan {Q : Int32 → mg_H → Prop} {h : mg_H} {k o n no K : Nat} {z t pr sp : Nat → Nat} (ok : mp_shs h) (hv : 0 ≤ nI k ∧ nI k ≤ mg_i h 5 0 - 1) (hk : k < 2) (S : SR (mg_i h) k n z t pr) (hvo : 0 ≤ nI o ∧ nI o ≤ mg_i h 5 3 - 1) (ho : o < 2) (O : OR (mg_i h) o no sp) (hK : K ≤ no) (q : ∀ v h', mp_same h h' → lst (fun w => w ≤ 90 ∧ DN z (2 ^ n - 1) sp K K (c4 t) w) v → Q v h') : wp_plan Q (nI k) (nI o) (nI K) h := by
  have SHh := S.sh
  have hz := SHh.zok
  have hc0 := SHh.ok
  have hm := SHh.m
  have hn4 := SHh.1
  have hc4 := hc0.1
  have hno := O.1
  have l46 : mg_len 46 = 376832 := rfl
  unfold wp_plan
  intro R38 R76 R114 c38 c76 c114
  rintro _ rfl
  unfold wp_hasOrder
  rintro _ rfl
  refine sp_is (vp_in_nI (n := 3) (N := 16) (by decide) (by decide)) (fun _ _ => ⟨Or.inr rfl, bq_f (by decide) ?_⟩) (fun c => absurd hvo (mp_not c))
  refine sp_spans (d := o) (by omega) mi_same ?_
  rw [show mg_i (mg_ui (mg_ui h 0 0 0) 0 45 (nI o)) 9 (7 * o) = nI no from O.2.1]
  refine sp_inT (lo := 0) (hi := no) (Nat.zero_le K) hK (by omega) (bq_f (by decide) (sp_handS (h := mg_ui (mg_ui h 0 0 0) 0 45 (nI o)) ok hv hk S (fun h2 eh2 H2 f23 f24 _ => bq_nt (by decide) ?_)))
  have es0 : mp_same h h2 := (mp_ui (mp_ui mp_same.rf (by decide)) (by decide)).tr (eh2.same (by decide))
  have f45 : mg_i h2 0 45 = nI o := (eh2.2 45 (by decide)).trans mi_same
  -- all places empty
  refine lp (σ := mg_H) (R := fun k s => R38 (nI k) s) (fun k s => md [40, 46] [39] h2 s ∧ ∀ x, x < k → mg_i s 46 x = 0) 0 372736 (Nat.zero_le _) ?_ ?_ h2 ⟨md.rf, fun x hx => absurd hx (Nat.not_lt_zero x)⟩
  · rintro s ⟨e, hs⟩
    refine c38 _ _ (bq_t (by decide) ?_)
    rw [(e.2 26 (by decide)).trans H2.2.2, nI_clamp (by omega)]
    refine ⟨vp_in_nI (by omega) (by omega), ?_⟩
    rintro _ rfl
    -- spans, one by one
    obtain ⟨J, hJ⟩ : ∃ J : Nat → mg_H → Prop, ∀ d g, J d g ↔ (md [40, 46] [39] h2 g ∧ ∀ x, x < 372736 → isB (mg_i g 46 x) (fun e => (e < d ∧ WI z (2 ^ n - 1) (c4 t) sp e (x % 4096) (x / 4096)) ∨ (e = d ∧ FW z (2 ^ n - 1) (c4 t) sp d (x % 4096) (x / 4096)))) := ⟨_, fun _ _ => Iff.rfl⟩
    refine lp (σ := mg_H × Int32) (R := fun d s => R76 s.2 (nI d) s.1) (fun d s => J d s.1 ∧ lst (fun w => w ≤ 90 ∧ ∃ c, FW z (2 ^ n - 1) (c4 t) sp d c w) s.2) 0 K (Nat.zero_le K) ?_ ?_ (mg_ui s 46 (c4 t) 1, nI 0) ⟨(hJ _ _).mpr ⟨e.ui (by decide) (by decide), fun x hx => ?_⟩, ?_⟩
    · rintro ⟨g, v⟩ ⟨hg, hv2⟩
      obtain ⟨e, _⟩ := (hJ _ _).mp hg
      refine c76 _ _ _ (bq_t (nI_le (Nat.le_refl K) (by omega)) (q v g (es0.tr (e.same (by decide))) (lst_congr hv2 (fun w => and_congr_right (fun _ => FW_DN.symm)))))
    · rintro d ⟨g, v⟩ _ hd ⟨hg, hv2⟩ ih
      dsimp only at hg hv2 ih ⊢
      obtain ⟨e, hs⟩ := (hJ _ _).mp hg
      refine c76 _ _ _ (bq_f (nI_ge hd (by omega)) ?_)
      rcases hv2 with ⟨rfl, hno2⟩ | ⟨a, rfl, ⟨ha90, ha⟩, hleast⟩
      · refine bq_t rfl (q _ g (es0.tr (e.same (by decide))) (Or.inl ⟨rfl, fun w ⟨h1, h2⟩ => ?_⟩))
        obtain ⟨c, hc⟩ := FW_DN.mp h2
        obtain ⟨c', w', h3, h4⟩ := FW_dn (d := d) (K - d) c w (by rw [show d + (K - d) = K by omega]; exact hc)
        exact hno2 w' ⟨by omega, c', h4⟩
      · refine bq_f (by rw [nl_m1, nI_eqM (by omega)]; exact id) ?_
        have hspd := O.2.2 d (by omega)
        have e9 : mg_i g 9 (7 * o + (1 + d)) = nI (sp d) := ((e.1 9 (by decide) (by decide) _).trans (es0 9 (by decide) _)).trans hspd.1
        have eix : 7 * nI o + 1 + nI d = nI (7 * o + (1 + d)) := by rw [nl_7, nl_1, pk_mul, nI_add, nI_add, Nat.add_assoc]
        rw [eix, nI_clamp (n := 7 * o + (1 + d)) (by omega), e9]
        refine ⟨vp_in_nI (show 7 * o + (1 + d) < 56 by omega) (by decide), ?_⟩
        rintro _ rfl
        refine sp_keepIdle hz hc0 hn4 (H2.mv e (by decide) (by decide) (by decide)) (by omega) hs (fun g1 e1 hs1 => ?_)
        have e1' : md [40, 46] [39] h2 g1 := e.tr (e1.mono (by simp) (by simp))
        have hWa : ∀ c w, WI z (2 ^ n - 1) (c4 t) sp d c w → w ≤ 90 → a ≤ w := by
          rintro c w ⟨c1, w1, t1, h1, h2, rfl⟩ hw
          have := hleast w1 ⟨by omega, c1, h1⟩
          omega
        obtain ⟨M, hM⟩ : ∃ M, M = max a (91 - sp d) := ⟨_, rfl⟩
        refine lp (σ := mg_H) (R := fun u g => R114 (nI d) (nI (sp d)) (nI u) g) (fun u g => md [40, 46] [39] h2 g ∧ ∀ x, x < 372736 → isB (mg_i g 46 x) (fun e => (e ≤ d ∧ WI z (2 ^ n - 1) (c4 t) sp e (x % 4096) (x / 4096)) ∨ (e = d + 1 ∧ ∃ w2 c2, w2 < u ∧ WI z (2 ^ n - 1) (c4 t) sp d c2 w2 ∧ rc z (2 ^ n - 1) c2 (sp d) (x % 4096) ∧ x / 4096 = w2 + sp d))) a M (by omega) ?_ ?_ g1 ⟨e1', fun x hx => (hs1 x hx).congr (fun e => ⟨Or.inl, fun b => b.elim id (fun ⟨_, w2, c2, b1, b2, b3, b4⟩ => ?_)⟩)⟩
        · rintro g2 ⟨e2, hs2⟩
          refine c114 _ _ _ _ ?_
          rw [nI_add]
          refine bq_t (nI_lt (a := 90) (by omega) (by omega)) ?_
          rw [nI_1]
          have hs3 : ∀ x, x < 372736 → isB (mg_i g2 46 x) (fun e => (e < d + 1 ∧ WI z (2 ^ n - 1) (c4 t) sp e (x % 4096) (x / 4096)) ∨ (e = d + 1 ∧ FW z (2 ^ n - 1) (c4 t) sp (d + 1) (x % 4096) (x / 4096))) := by
            intro x hx
            refine (hs2 x hx).congr (fun e => or_congr ⟨fun b => ⟨by omega, b.2⟩, fun b => ⟨by omega, b.2⟩⟩ (and_congr_right (fun _ => ?_)))
            rw [FW_s]
            constructor
            · rintro ⟨w2, c2, b1, b2, b3, b4⟩
              exact ⟨c2, w2, b2, b3, b4⟩
            · rintro ⟨c2, w2, b2, b3, b4⟩
              exact ⟨w2, c2, by omega, b2, b3, b4⟩
          refine sp_firstIdle (P := fun x => FW z (2 ^ n - 1) (c4 t) sp (d + 1) (x % 4096) (x / 4096)) (by omega) (fun x hx => ?_) (fun v hv3 => ?_)
          · obtain ⟨B, eB, hB⟩ := hs3 x hx
            exact ⟨B, eB, hB.1, (hB.2 (d + 1)).trans ⟨fun b => b.elim (fun b => absurd b.1 (Nat.lt_irrefl _)) (fun b => b.2), fun b => Or.inr ⟨rfl, b⟩⟩⟩
          · rintro _ rfl
            refine ih (g2, v) ⟨(hJ _ _).mpr ⟨e2, hs3⟩, lst_congr hv3 (fun w => ?_)⟩
            constructor
            · rintro ⟨c, b1, b2, b3⟩
              rw [show (4096 * w + c) % 4096 = c by omega, show (4096 * w + c) / 4096 = w by omega] at b3
              exact ⟨b2, c, b3⟩
            · rintro ⟨b2, c, b3⟩
              have := (FW_ok hz hc0 _ _ _ b3).1
              refine ⟨c, this, b2, ?_⟩
              rw [show (4096 * w + c) % 4096 = c by omega, show (4096 * w + c) / 4096 = w by omega]
              exact b3
        · rintro u g2 hau huM ⟨e2, hs2⟩ ih2
          refine c114 _ _ _ _ ?_
          rw [nI_add]
          refine bq_f (nI_nlt (b := u + sp d) (a := 90) (by omega) (by omega)) ?_
          refine sp_tellFrom (I := fun c => WI z (2 ^ n - 1) (c4 t) sp d c u) hz hn4 (H2.mv e2 (by decide) (by decide) (by decide)) (by omega) hspd.2.1 hspd.2.2 (by omega) (fun c hc => WI_ok hz hc0 hc) (fun c hc => ?_) (fun g3 e3 b1 b2 => ?_)
          · obtain ⟨B, eB, hB⟩ := hs2 (4096 * u + c) (by omega)
            refine ⟨B, eB, hB.1, (hB.2 d).trans ?_⟩
            rw [show (4096 * u + c) % 4096 = c by omega, show (4096 * u + c) / 4096 = u by omega]
            exact ⟨fun b => b.elim (fun b => b.2) (fun b => by have := b.1; omega), fun b => Or.inl ⟨Nat.le_refl d, b⟩⟩
          · rintro _ rfl
            rw [nI_1]
            refine ih2 g3 ⟨e2.tr e3, fun x hx => ?_⟩
            by_cases hrow : x / 4096 = u + sp d
            · have ex : x = 4096 * (u + sp d) + x % 4096 := by omega
              have := b2 (x % 4096) _ (by omega) (by rw [← ex]; exact hs2 x hx)
              rw [← ex] at this
              refine this.congr (fun e => ?_)
              constructor
              · rintro ((b | ⟨b, w2, c2, b3, b4⟩) | ⟨b, c2, b3, b4⟩)
                · exact Or.inl b
                · exact Or.inr ⟨b, w2, c2, by omega, b4⟩
                · exact Or.inr ⟨b, u, c2, by omega, b3, b4, hrow⟩
              · rintro (b | ⟨b, w2, c2, b3, b4, b5, b6⟩)
                · exact Or.inl (Or.inl b)
                · have e8 : w2 = u := by omega
                  subst e8
                  exact Or.inr ⟨b, c2, b4, b5⟩
            · rw [b1 x (by omega)]
              refine (hs2 x hx).congr (fun e => or_congr_right (and_congr_right (fun _ => ?_)))
              constructor
              · rintro ⟨w2, c2, b3, b4⟩
                exact ⟨w2, c2, by omega, b4⟩
              · rintro ⟨w2, c2, b3, b4, b5, b6⟩
                exact ⟨w2, c2, by omega, b4, b5, b6⟩
        · have := hWa c2 w2 b2 (by omega)
          omega
    · by_cases h9 : x = c4 t
      · rw [h9, mi_same]
        refine (isB_bit (show 0 < 31 by decide)).congr (fun e => ⟨fun b => Or.inr ⟨b, ?_⟩, fun b => b.elim (fun b => absurd b.1 (Nat.not_lt_zero e)) (fun b => b.1)⟩)
        exact ⟨Nat.mod_eq_of_lt hc4, Nat.div_eq_of_lt hc4⟩
      · rw [mi_place h9, hs x hx]
        refine isB_0 (fun e b => b.elim (fun b => absurd b.1 (Nat.not_lt_zero e)) (fun b => h9 ?_))
        obtain ⟨b1, b2⟩ := b.2
        omega
    · exact Or.inr ⟨0, rfl, ⟨Nat.zero_le _, c4 t, rfl, rfl⟩, fun j _ => Nat.zero_le j⟩
  · rintro x s _ hx ⟨e, hs⟩ ih
    refine c38 _ _ (bq_f (nI_ge hx (by decide)) ?_)
    rw [nI_clamp (by omega)]
    refine ⟨vp_in_nI (by omega) (by omega), ?_⟩
    rintro _ rfl _ rfl
    rw [nI_1]
    refine ih _ ⟨e.ui (by decide) (by decide), fun y hy => ?_⟩
    by_cases h9 : y = x
    · rw [h9, mi_same]
    · rw [mi_place h9]; exact hs y (by omega)
