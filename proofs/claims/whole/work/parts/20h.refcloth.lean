/-! the reference: under the cloth: the day with other tops -/
def wZ (n : Nat) (w : wS) : Prop := ∀ t g, n ≤ g → (w.2.2.2.2.2.2.2 t).testBit g = false
theorem wZ_P {n : Nat} {w : wS} (h : wZ n w) : wZ n (wP n w) := by
  intro t g hg
  show (if t = w.2.1 + 1 then wm w n else w.2.2.2.2.2.2.2 t).testBit g = false
  by_cases e : t = w.2.1 + 1
  · rw [if_pos e]
    unfold wm
    rw [bsm_bit, decide_eq_false (by omega), Bool.false_and]
  · rw [if_neg e]; exact h t g hg
theorem wZ_I {n : Nat} {w : wS} (h : wZ n w) : ∀ j, wZ n (wI n w j)
  | 0 => h
  | j + 1 => wZ_P (wZ_I h j)
theorem wZ_D {n k y : Nat} {w : wS} (h : wZ n w) : wZ n (wD n k y w).2 := by
  unfold wD
  by_cases h0 : k = 0
  · rw [if_pos h0]
    by_cases h1 : w.2.1 + y ≤ 99
    · rw [if_pos h1]; exact wZ_I h y
    · rw [if_neg h1]; exact h
  · rw [if_neg h0]
    by_cases h1 : y < n ∧ gM k (w.1 y) = true
    · rw [if_pos h1]; exact h
    · rw [if_neg h1]; exact h
theorem wZ_T {n : Nat} {kd yy : Nat → Nat} {w : wS} (h : wZ n w) : ∀ k, wZ n (wT n kd yy w k)
  | 0 => h
  | k + 1 => wZ_D (wZ_T h k)
theorem wZ_F {n v : Nat} {kd yy z t : Nat → Nat} : wZ n (wF n kd yy z t v) := wZ_I (wZ_T (fun _ g _ => Nat.zero_testBit g) v) _
theorem dg_hi {c j : Nat} (hc : c < 4096) (hj : 4 ≤ j) : dg c j = 0 := by
  unfold dg
  have h1 : 8 ^ 4 ≤ 8 ^ j := Nat.pow_le_pow_right (by decide) hj
  rw [Nat.div_eq_of_lt (Nat.lt_of_lt_of_le hc h1)]
theorem SH_dg {n c : Nat} {z t : Nat → Nat} (S : SH n z t) (hc : okc z c) : SH n z (dg c) := by
  refine ⟨S.1, fun j hj => ⟨(S.2.1 j hj).1, (S.2.1 j hj).2.1, hc.2 j (by have := S.1; omega)⟩, fun j hj => ⟨(S.2.2 j hj).1, ?_⟩⟩
  rcases Nat.lt_or_ge j 4 with h | h
  · have := hc.2 j h
    have := (S.2.2 j hj).1
    omega
  · exact dg_hi hc.1 h
set_option maxHeartbeats 1000000 in
theorem sp_playBy {Q : mg_H → Prop} {h : mg_H} {k n o m c : Nat} {z t pr kd yy : Nat → Nat} (S : SR (mg_i h) k n z t pr) (hk : k < 2) (h23 : mg_i h 0 23 = nI k) (h24 : mg_i h 0 24 = nI n) (h25 : mg_i h 0 25 = nI (2 ^ n - 1)) (h29 : mg_i h 0 29 = nI o) (ho : o < 2) (D : DY (mg_i h) o m kd yy) (hc : okc z c) (q : ∀ h' v, md [27, 28, 37, 38] [25, 26, 30, 31, 32, 33, 34, 35, 36] h h' → mg_i h' 0 25 = nI (2 ^ n - 1) → isF (stP n kd yy z (dg c)) m v → DR h' n (wF n kd yy z (dg c) v) → Q h') : wp_playBy Q (nI c) h := by
  have SHh := S.sh
  have hn4 := S.1
  have SD := SH_dg SHh hc
  have hc4 := hc.1
  obtain ⟨v, Fv⟩ := isF_ex (stP n kd yy z (dg c)) m
  unfold wp_playBy
  intro R14 R48 c14 c48
  rw [h25]
  refine sp_alone h23 (by omega) ?_
  have A := al_HS S (sb_full.mpr (Nat.le_refl _))
  rw [zr_full (fun j hj => (SHh.2.2 j hj).1), zr_full (fun j hj => (SHh.2.2 j hj).2)] at A
  have ea : md [27, 28] [25, 26] h (mp_al h (nI (2 ^ n - 1)) k 4) := al_md 4
  generalize mp_al h (nI (2 ^ n - 1)) k 4 = h1 at A ea
  refine sp_beginDayW hn4 ((ea.2 24 (by decide)).trans h24) A.1.1 A.2 (fun h2 e2 D2 => ?_)
  have e02 : md [27, 28, 37, 38] [25, 26, 30, 31, 32, 33, 34, 35, 36] h h2 := (ea.mono (by decide) (by decide)).tr (e2.mono (by decide) (by decide))
  have f25 : mg_i h2 0 25 = nI (2 ^ n - 1) := (e2.2 25 (by decide)).trans A.1.2.1
  refine lp (σ := mg_H) (R := fun j g => R14 (nI j) g) (fun j g => md [28] [] h2 g ∧ ∀ i, i < j → mg_i g 28 i = nI (dg c i)) 0 4 (by decide) ?_ ?_ h2 ⟨md.rf, fun i hi => absurd hi (Nat.not_lt_zero i)⟩
  · rintro g ⟨e, hg⟩
    have e0 : md [27, 28, 37, 38] [25, 26, 30, 31, 32, 33, 34, 35, 36] h g := e02.tr (e.mono (by decide) (by decide))
    have Dg : DR g n (w0 z (dg c)) := by
      obtain ⟨d24, d30, d32, d33, d34, d35, d36, d31, dgl, d38⟩ := D2
      refine ⟨(e.2 24 (by decide)).trans d24, (e.2 30 (by decide)).trans d30, (e.2 32 (by decide)).trans d32, (e.2 33 (by decide)).trans d33, (e.2 34 (by decide)).trans d34, (e.2 35 (by decide)).trans d35, (e.2 36 (by decide)).trans d36, (e.2 31 (by decide)).trans d31, fun j hj => ⟨(e.1 27 (by decide) (by decide) j).trans (dgl j hj).1, hg j (by omega), (e.1 37 (by decide) (by decide) j).trans (dgl j hj).2.2⟩, fun x hx => (e.1 38 (by decide) (by decide) x).trans (d38 x hx)⟩
    have Yg : DY (mg_i g) o m kd yy := DYx D (e0.same (by decide))
    refine c14 _ _ (bq_t (by decide) (sp_deeds (d := o) (by omega) ((e0.2 29 (by decide)).trans h29) ?_))
    rw [Yg.2.1]
    refine sp_playW Dg (w0_K SD) ((e0.2 29 (by decide)).trans h29) ho Yg (Nat.le_refl m) (fun j g2 e2' E2 D2' => ?_)
    have ej : j = v := wE_one E2 (stop_E Fv)
    rw [ej] at D2'
    have e00 : md [27, 28, 37, 38] [25, 26, 30, 31, 32, 33, 34, 35, 36] h g2 := e0.tr (e2'.mono (by decide) (by decide))
    have g25 : mg_i g2 0 25 = nI (2 ^ n - 1) := (e2'.2 25 (by decide)).trans ((e.2 25 (by decide)).trans f25)
    have Kv := wT_K (kd := kd) (yy := yy) (w0_K SD) v
    have hmv := Kv.2.2.1
    -- the minutes behind the day
    refine lp (σ := mg_H) (R := fun _ g => R48 g) (fun i g => md [28, 37, 38] [30, 32, 34, 35, 36] g2 g ∧ DR g n (wI n (wT n kd yy (w0 z (dg c)) v) i)) 0 (99 - (wT n kd yy (w0 z (dg c)) v).2.1) (Nat.zero_le _) ?_ ?_ g2 ⟨md.rf, D2'⟩
    · rintro g3 ⟨e3, D3⟩
      refine c48 _ (bq_t ?_ (q g3 v (e00.tr (e3.mono (by decide) (by decide))) ((e3.2 25 (by decide)).trans g25) Fv D3))
      rw [D3.2.1, wI_m]
      exact nI_le (a := 99) (by omega) (by omega)
    · rintro i g3 _ hi ⟨e3, D3⟩ ih
      refine c48 _ (bq_f ?_ (sp_goByW D3 (wI_K Kv i (by omega)) (by rw [wI_m]; omega) (fun g4 e4 D4 => ih g4 ⟨e3.tr e4, D4⟩)))
      rw [D3.2.1, wI_m]
      exact nI_ge (b := 99) (by omega) (by decide)
  · rintro j g _ hj ⟨e, hg⟩ ih
    refine c14 _ _ (bq_f (nI_ge (b := 4) hj (by decide)) ⟨vp_in_nI (show j < 4 from hj) (by decide), ?_⟩)
    rw [nI_clamp (by omega), dg_I (by omega) hj]
    rintro _ rfl _ rfl
    rw [nI_1]
    refine ih _ ⟨md.ui e (by decide) (by decide), fun i hi => ?_⟩
    by_cases ei : i = j
    · rw [ei, mi_same]
    · rw [mi_place ei]; exact hg i (by omega)
/-- the row of a log -/
def LGr (p : Nat → Nat → Int32) (o c : Nat) (mi gl : Nat → Nat) : Prop := c ≤ 8 ∧ p 8 (17 * o) = nI c ∧ ∀ j, j < c → p 8 (17 * o + (1 + 2 * j + 0)) = nI (mi j) ∧ p 8 (17 * o + (1 + 2 * j + 1)) = glI (gl j) ∧ 1 ≤ mi j ∧ mi j ≤ 40 ∧ (gl j ≤ 3 ∨ gl j = 9)
theorem LGx {g g2 : mg_H} {o c : Nat} {mi gl : Nat → Nat} (S : LGr (mg_i g) o c mi gl) (e : mp_same g g2) : LGr (mg_i g2) o c mi gl := ⟨S.1, (e 8 (by decide) _).trans S.2.1, fun j hj => ⟨(e 8 (by decide) _).trans (S.2.2 j hj).1, (e 8 (by decide) _).trans (S.2.2 j hj).2.1, (S.2.2 j hj).2.2⟩⟩
theorem sp_isSoW {Q : Int32 → mg_H → Prop} {h : mg_H} {o c : Nat} {mi gl ra : Nat → Nat} (h52 : mg_i h 0 52 = nI o) (ho : o < 2) (L : LGr (mg_i h) o c mi gl) (h38 : ∀ x, x ≤ 99 → mg_i h 38 x = nI (ra x)) (hra : ∀ x, ra x < 16) (q1 : (∀ j, j < c → (gl j = 9 → ra (mi j) = 0) ∧ (gl j ≠ 9 → (ra (mi j)).testBit (gl j) = true)) → Q 1 h) (q0 : ¬ (∀ j, j < c → (gl j = 9 → ra (mi j) = 0) ∧ (gl j ≠ 9 → (ra (mi j)).testBit (gl j) = true)) → Q 0 h) : wp_isSo Q h := by
  have hc8 := L.1
  unfold wp_isSo
  intro R2 R51 c2 c51
  refine lp (σ := Unit) (R := fun k _ => R2 (nI k) h) (fun k _ => ∀ j, j < k → (gl j = 9 → ra (mi j) = 0) ∧ (gl j ≠ 9 → (ra (mi j)).testBit (gl j) = true)) 0 c (Nat.zero_le c) ?_ ?_ () (fun j hj => absurd hj (Nat.not_lt_zero j))
  · intro _ hj
    refine c2 _ _ (sp_facts (d := o) (by omega) h52 ?_)
    rw [L.2.1]
    exact bq_t (nI_le (Nat.le_refl c) (by omega)) (q1 hj)
  · intro k _ _ hk hj ih
    obtain ⟨f1, f2, f3, f4, f5⟩ := L.2.2 k hk
    have hr := hra (mi k)
    have next : (gl k = 9 → ra (mi k) = 0) → (gl k ≠ 9 → (ra (mi k)).testBit (gl k) = true) → R51 (nI k) h := fun a b => by
      refine c51 _ _ ?_
      rintro _ rfl
      rw [nI_1]
      refine ih () (fun j h9 => ?_)
      rcases Nat.lt_or_ge j k with h8 | h8
      · exact hj j h8
      · rw [show j = k by omega]; exact ⟨a, b⟩
    refine c2 _ _ (sp_facts (d := o) (by omega) h52 ?_)
    rw [L.2.1]
    refine bq_f (nI_ge hk (by omega)) (sp_factOf (w := 0) (by omega) (by omega) (by decide) h52 ?_)
    rw [f1]
    refine ⟨vp_in_nI (show mi k < 100 by omega) (by decide), ?_⟩
    rw [nI_clamp (by omega), h38 _ (by omega)]
    rintro _ rfl
    refine sp_factOf (w := 1) (by omega) (by omega) (by decide) h52 ?_
    rw [f2]
    by_cases g9 : gl k = 9
    · have eg : glI (gl k) = nM := if_pos g9
      rw [eg]
      refine bq_nf rfl ?_
      by_cases z0 : ra (mi k) = 0
      · exact bq_t (by rw [z0]; rfl) (next (fun _ => z0) (fun c => absurd g9 c))
      · exact bq_f (fun c => z0 ((nI_eq (b := 0) (by omega) (by decide)).mp c)) (q0 (fun c => z0 ((c k hk).1 g9)))
    · have eg : glI (gl k) = nI (gl k) := if_neg g9
      have hg3 : gl k ≤ 3 := f5.elim id (fun c => absurd c g9)
      rw [eg]
      refine bq_nt (by rw [nl_m1, nI_eqM (by omega)]; exact id) (lb_has (by omega) (by omega) (fun hb => bq_nt (by decide) (next (fun c => absurd c g9) (fun _ => hb))) (fun hb => bq_nf rfl (q0 (fun c => ?_))))
      have := (c k hk).2 g9
      rw [hb] at this
      cases this
/-- the facts are so, told by the day played out -/
theorem FIT_iff {n m c v : Nat} {z T kd yy mi gl : Nat → Nat} (hn : n ≤ 4) (hgl : ∀ j, j < c → gl j ≤ 3 ∨ gl j = 9) (F : isF (stP n kd yy z T) m v) : (∀ j, j < c → (gl j = 9 → (wF n kd yy z T v).2.2.2.2.2.2.2 (mi j) = 0) ∧ (gl j ≠ 9 → ((wF n kd yy z T v).2.2.2.2.2.2.2 (mi j)).testBit (gl j) = true)) ↔ FIT n m c z T kd yy mi gl := by
  have z0 : ∀ x, (wF n kd yy z T v).2.2.2.2.2.2.2 x = 0 ↔ ∀ g, g < n → RO g kd yy (z g) (T g) v x = false := by
    intro x
    constructor
    · intro e g hg
      rw [← RO_wF hg F, e]; exact Nat.zero_testBit g
    · intro e
      apply Nat.eq_of_testBit_eq
      intro g
      rw [Nat.zero_testBit]
      rcases Nat.lt_or_ge g n with h | h
      · rw [RO_wF h F]; exact e g h
      · exact wZ_F x g h
  constructor
  · intro h
    refine ⟨v, F, fun j hj => ⟨fun g9 => (z0 _).mp ((h j hj).1 g9), fun g9 => ?_⟩⟩
    have hb := (h j hj).2 g9
    have hg : gl j < n := Nat.lt_of_not_le (fun c => by rw [wZ_F (mi j) (gl j) c] at hb; cases hb)
    exact ⟨hg, by rw [← RO_wF hg F]; exact hb⟩
  · rintro ⟨v', F', hf⟩ j hj
    have ev := isF_one F F'
    subst ev
    refine ⟨fun g9 => (z0 _).mpr ((hf j hj).1 g9), fun g9 => ?_⟩
    obtain ⟨hg, hr⟩ := (hf j hj).2 g9
    rw [RO_wF hg F]; exact hr
theorem ANY_iff {n m v x : Nat} {z T kd yy : Nat → Nat} (F : isF (stP n kd yy z T) m v) : ¬ (wF n kd yy z T v).2.2.2.2.2.2.2 x = 0 ↔ ANY n m z T kd yy x := by
  constructor
  · intro h
    refine ⟨v, F, ?_⟩
    refine Classical.byContradiction (fun c => h ?_)
    apply Nat.eq_of_testBit_eq
    intro g
    rw [Nat.zero_testBit]
    rcases Nat.lt_or_ge g n with h9 | h9
    · rw [RO_wF h9 F]
      exact Bool.eq_false_iff.mpr (fun c2 => c ⟨g, h9, c2⟩)
    · exact wZ_F x g h9
  · rintro ⟨v', F', g, hg, hr⟩ e
    have ev := isF_one F F'
    subst ev
    rw [← RO_wF hg F, e, Nat.zero_testBit] at hr
    cases hr
