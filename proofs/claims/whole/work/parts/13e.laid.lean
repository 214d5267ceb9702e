/-! reference: what is read off the laid out minutes -/
def rg (k : Nat) (p : Nat → Prop) (T : Nat) : Prop := (1 ≤ T ∧ T < k) ∧ p T
theorem rg_31 {p : Nat → Prop} (m : Nat) : rg 31 p m ↔ ((1 ≤ m ∧ m ≤ 30) ∧ p m) := ⟨fun ⟨⟨a, b⟩, c⟩ => ⟨⟨a, by omega⟩, c⟩, fun ⟨⟨a, b⟩, c⟩ => ⟨⟨a, by omega⟩, c⟩⟩
theorem rg_s {p : Nat → Prop} {k m : Nat} (h : rg (k + 1) p m) : rg k p m ∨ (m = k ∧ p k) := by
  obtain ⟨⟨a, b⟩, c⟩ := h
  rcases Nat.lt_or_ge m k with h9 | h9
  · exact Or.inl ⟨⟨a, h9⟩, c⟩
  · have e : m = k := by omega
    subst e; exact Or.inr ⟨rfl, c⟩
theorem rg_i {p : Nat → Prop} {k m : Nat} (h : rg k p m) : rg (k + 1) p m := ⟨⟨h.1.1, by have := h.1.2; omega⟩, h.2⟩
theorem lst_rk {p : Nat → Prop} {k : Nat} {r : Int32} (h : lst (rg k p) r) (hr : r ≠ nM ∨ ¬ p k) : lst (rg (k + 1) p) r := by
  rcases h with ⟨e, no⟩ | ⟨m, e, hm, hl⟩
  · have hr := hr.elim (fun h => absurd e h) id
    exact Or.inl ⟨e, fun m hm => (rg_s hm).elim (no m) (fun h => hr h.2)⟩
  · refine Or.inr ⟨m, e, rg_i hm, fun j hj => (rg_s hj).elim (hl j) (fun h => ?_)⟩
    have := hm.1.2
    omega
theorem lst_rn {p : Nat → Prop} {k : Nat} {r : Int32} (h : lst (rg k p) r) (h1 : 1 ≤ k) (hk : k < 100) (hr : r = nM) (hp : p k) : lst (rg (k + 1) p) (nI k) := by
  rcases h with ⟨e, no⟩ | ⟨m, e, hm, hl⟩
  · exact Or.inr ⟨k, rfl, ⟨⟨h1, by omega⟩, hp⟩, fun j hj => (rg_s hj).elim (fun h => absurd h (no j)) (fun h => by have := h.1; omega)⟩
  · have := hm.1.2
    rw [hr] at e
    rw [nM_eqI (by omega)] at e; exact e.elim
theorem gst_rk {p : Nat → Prop} {k : Nat} {r : Int32} (h : gst (rg k p) r) (hr : ¬ p k) : gst (rg (k + 1) p) r := by
  rcases h with ⟨e, no⟩ | ⟨m, e, hm, hl⟩
  · exact Or.inl ⟨e, fun m hm => (rg_s hm).elim (no m) (fun h => hr h.2)⟩
  · exact Or.inr ⟨m, e, rg_i hm, fun j hj => (rg_s hj).elim (hl j) (fun h => absurd h.2 hr)⟩
theorem gst_rn {p : Nat → Prop} {k : Nat} (h1 : 1 ≤ k) (hp : p k) : gst (rg (k + 1) p) (nI k) := Or.inr ⟨k, rfl, ⟨⟨h1, by omega⟩, hp⟩, fun j hj => by have := hj.1.2; omega⟩
theorem gst_congr {P P' : Nat → Prop} {v : Int32} (h : gst P v) (e : ∀ m, P m ↔ P' m) : gst P' v := by
  have : P = P' := funext (fun m => propext (e m))
  rw [← this]; exact h
theorem sp_edge0 {Q : Int32 → mg_H → Prop} {h : mg_H} {v : Int32} {p : Nat → Prop} (hp : ∀ T, 1 ≤ T → T ≤ 30 → (mp_has v (nI T) ↔ p T)) (q : ∀ r, lst (fun T => (1 ≤ T ∧ T ≤ 30) ∧ p T) r → Q r h) : wp_edge Q v 0 h := by
  unfold wp_edge
  intro R4 R31 R27 R32 c4 c31 c27 c32
  refine lp (σ := Int32) (R := fun k r => R4 r (nI k) h) (fun k r => lst (rg k p) r) 1 31 (by decide) ?_ ?_ nM (Or.inl ⟨rfl, fun m hm => by have := hm.1; omega⟩)
  · intro r hr
    exact c4 _ _ _ (bq_t (by decide) (q r (lst_congr hr rg_31)))
  · intro k r h1 hk hr ih
    have fin : ∀ r', lst (rg (k + 1) p) r' → R32 (nI k) r' h := by
      intro r' h'
      refine c32 _ _ _ ?_
      rintro _ rfl
      rw [nI_1]; exact ih r' h'
    refine c4 _ _ _ (bq_f (nI_nlt (b := k) (a := 30) (by omega) (by decide)) (sp_has (fun c => bq_f (by decide) (bq_nf rfl ?_)) (fun c => bq_t rfl (c31 _ _ _ (fin r (lst_rk hr (Or.inr (fun hpk => c ((hp k h1 (by omega)).mpr hpk)))))))))
    exact ⟨fun hne => c31 _ _ _ (fin r (lst_rk hr (Or.inl hne))), fun he => c27 _ _ (fin _ (lst_rn hr h1 (by omega) he ((hp k h1 (by omega)).mp c)))⟩
theorem sp_edge1 {Q : Int32 → mg_H → Prop} {h : mg_H} {v : Int32} {p : Nat → Prop} (hp : ∀ T, 1 ≤ T → T ≤ 30 → (mp_has v (nI T) ↔ p T)) (q : ∀ r, gst (fun T => (1 ≤ T ∧ T ≤ 30) ∧ p T) r → Q r h) : wp_edge Q v 1 h := by
  unfold wp_edge
  intro R4 R31 R27 R32 c4 c31 c27 c32
  refine lp (σ := Int32) (R := fun k r => R4 r (nI k) h) (fun k r => gst (rg k p) r) 1 31 (by decide) ?_ ?_ nM (Or.inl ⟨rfl, fun m hm => by have := hm.1; omega⟩)
  · intro r hr
    exact c4 _ _ _ (bq_t (by decide) (q r (gst_congr hr rg_31)))
  · intro k r h1 hk hr ih
    have fin : ∀ r', gst (rg (k + 1) p) r' → R32 (nI k) r' h := by
      intro r' h'
      refine c32 _ _ _ ?_
      rintro _ rfl
      rw [nI_1]; exact ih r' h'
    exact c4 _ _ _ (bq_f (nI_nlt (b := k) (a := 30) (by omega) (by decide)) (sp_has (fun c => bq_f (by decide) (bq_nt (by decide) (c27 _ _ (fin _ (gst_rn h1 ((hp k h1 (by omega)).mp c)))))) (fun c => bq_t rfl (c31 _ _ _ (fin r (gst_rk hr (fun hpk => c ((hp k h1 (by omega)).mpr hpk))))))))
theorem sp_reachedTops {Q : Int32 → mg_H → Prop} {h : mg_H} {z : Nat → Nat} {m c0 : Nat} {wt : Nat → Nat} (hB : ∀ s, s ≤ m → wt s ≤ 40) (C : CL z m wt (fun a => a = c0) 0 30 h) (q : Q (nI (cntc (fun c => ∃ T, T ≤ 30 ∧ rc z m c0 T c))) h) : wp_reachedTops Q h := by
  unfold wp_reachedTops
  intro R4 R16 R56 R49 R66 c4' c16 c56 c49 c66
  refine mp_up (P := fun c => R4 (nI (fb_ct (fun c => dcd (∃ T, T ≤ 30 ∧ rc z m c0 T c)) c)) (nI c) h) (n := 4096) (c4' _ _ _ (bq_t (by decide) q)) (fun c hc ih => ?_)
  have join : ∀ u, u = (if dcd (∃ T, T ≤ 30 ∧ rc z m c0 T c) then 1 else 0) → R66 (nI c) (nI u) (nI (fb_ct (fun c => dcd (∃ T, T ≤ 30 ∧ rc z m c0 T c)) c)) h := by
    rintro u rfl
    refine c66 _ _ _ _ ?_
    rintro _ rfl _ rfl
    rw [nI_add, nI_1]
    rw [fb_ct_succ] at ih
    exact ih
  have r1 : (∃ T, T ≤ 30 ∧ rc z m c0 T c) → R56 (nI (fb_ct (fun c => dcd (∃ T, T ≤ 30 ∧ rc z m c0 T c)) c)) (nI c) 1 h := fun hx => c56 _ _ _ _ (bq_f (by decide) (join 1 (by rw [dcd_iff.mpr hx]; rfl)))
  have r0 : (¬ ∃ T, T ≤ 30 ∧ rc z m c0 T c) → R56 (nI (fb_ct (fun c => dcd (∃ T, T ≤ 30 ∧ rc z m c0 T c)) c)) (nI c) 0 h := fun hx => c56 _ _ _ _ (bq_t rfl (join 0 (by rw [dcd_f.mpr hx]; rfl)))
  refine c4' _ _ _ (bq_f (nI_ge hc (by decide)) ?_)
  refine lp (σ := Unit) (R := fun k _ => R16 (nI (fb_ct (fun c => dcd (∃ T, T ≤ 30 ∧ rc z m c0 T c)) c)) (nI c) 0 (nI k) h) (fun k _ => ∀ T, T < k → ¬ rc z m c0 T c) 0 31 (by decide) ?_ ?_ () (fun T hT => absurd hT (Nat.not_lt_zero T))
  · intro _ hno
    exact c16 _ _ _ _ _ (bq_t (by decide) (r0 (fun ⟨T, hT, hr⟩ => hno T (by omega) hr)))
  · intro k _ _ hk hno ih2
    have hr := CL_rc hB C (t := k) (by omega) hc
    refine c16 _ _ _ _ _ (bq_f (nI_nlt (b := k) (a := 30) (by omega) (by decide)) (bq_nf rfl ?_))
    rw [nl_4096, pk_mul, nI_add, nI_clamp (by omega)]
    refine ⟨vp_in_nI (show 4096 * k + c < 126976 by omega) (by decide), fun e => c49 _ _ _ _ _ ?_, fun e => c49 _ _ _ _ _ ?_⟩
    · rintro _ rfl
      rw [nI_1]
      refine ih2 () (fun T hT => ?_)
      rcases Nat.lt_or_ge T k with h9 | h9
      · exact hno T h9
      · rw [show T = k by omega]; exact hr.mp e
    · rintro _ rfl
      have hx := r1 ⟨k, by omega, Classical.byContradiction (fun hno => e (hr.mpr hno))⟩
      exact c16 _ _ _ _ _ ⟨fun _ => hx, fun _ => bq_nt (by decide) hx⟩
/-- the longest row of minutes of p: so far, and the one under way -/
noncomputable def lr1 (p : Nat → Prop) : Nat → Nat × Nat
  | 0 => (0, 0)
  | k + 1 => (if (lr1 p k).1 ≤ (if dcd (p (k + 1)) then (lr1 p k).2 + 1 else 0) then (if dcd (p (k + 1)) then (lr1 p k).2 + 1 else 0) else (lr1 p k).1, if dcd (p (k + 1)) then (lr1 p k).2 + 1 else 0)
theorem lr1_le (p : Nat → Prop) : ∀ k, (lr1 p k).1 ≤ k ∧ (lr1 p k).2 ≤ k
  | 0 => ⟨Nat.le_refl 0, Nat.le_refl 0⟩
  | k + 1 => by
    have ih := lr1_le p k
    unfold lr1
    dsimp only
    have : (if dcd (p (k + 1)) then (lr1 p k).2 + 1 else 0) ≤ k + 1 := by split <;> omega
    refine ⟨?_, this⟩
    revert this
    generalize (if dcd (p (k + 1)) then (lr1 p k).2 + 1 else 0) = u
    intro hu
    split <;> omega
theorem sp_longestRow {Q : Int32 → mg_H → Prop} {h : mg_H} {v : Int32} {p : Nat → Prop} (hv : isB v p) (q : Q (nI (lr1 p 30).1) h) : wp_longestRow Q v h := by
  obtain ⟨B, rfl, hB⟩ := hv
  unfold wp_longestRow
  intro R6 R27 c6 c27
  refine mp_up (P := fun k => R6 (nI (lr1 p k).1) (nI (lr1 p k).2) (nI (k + 1)) h) (n := 30) (c6 _ _ _ _ (bq_t (by decide) q)) (fun k hk ih => ?_)
  have hl := lr1_le p k
  have join : R27 (nI (lr1 p k).1) (nI (k + 1)) (nI (if dcd (p (k + 1)) then (lr1 p k).2 + 1 else 0)) h := by
    refine c27 _ _ _ _ (sp_greater ?_)
    rintro _ rfl
    rw [nI_1]
    have e9 : (if nI (lr1 p k).1 ≤ nI (if dcd (p (k + 1)) then (lr1 p k).2 + 1 else 0) then nI (if dcd (p (k + 1)) then (lr1 p k).2 + 1 else 0) else nI (lr1 p k).1) = nI (lr1 p (k + 1)).1 := by
      have h2 : (if dcd (p (k + 1)) then (lr1 p k).2 + 1 else 0) < 2 ^ 31 := by split <;> omega
      rw [show (lr1 p (k + 1)).1 = (if (lr1 p k).1 ≤ (if dcd (p (k + 1)) then (lr1 p k).2 + 1 else 0) then (if dcd (p (k + 1)) then (lr1 p k).2 + 1 else 0) else (lr1 p k).1) from rfl]
      generalize (if dcd (p (k + 1)) then (lr1 p k).2 + 1 else 0) = u at h2
      by_cases h9 : (lr1 p k).1 ≤ u
      · rw [if_pos h9, if_pos ((nI_leI (by omega) h2).mpr h9)]
      · rw [if_neg h9, if_neg (fun c => h9 ((nI_leI (by omega) h2).mp c))]
    rw [e9]
    exact ih
  refine c6 _ _ _ _ (bq_f (nI_nlt (b := k + 1) (a := 30) (by omega) (by decide)) (lb_has hB.1 (by omega) (fun hb => ⟨fun c => absurd c (by decide), fun _ => ?_⟩) (fun hb => ⟨fun _ => ?_, fun c => absurd rfl c⟩)))
  · rw [dcd_iff.mpr ((hB.2 (k + 1)).mp hb)] at join
    rw [nI_1]; exact join
  · have hn : ¬ p (k + 1) := fun hx => by rw [(hB.2 (k + 1)).mpr hx] at hb; cases hb
    rw [dcd_f.mpr hn] at join
    exact join
theorem nI_leI' {a b : Nat} (ha : a < 2 ^ 31) (hb : b < 2 ^ 31) (h : ¬ a ≤ b) : ¬ nI a ≤ nI b := fun c => h ((nI_leI ha hb).mp c)
def DEk (z : Nat → Nat) (m c0 k : Nat) (v u : Int32) : Prop := (v = nM ∧ u = nM ∧ ∀ T x, 1 ≤ T → T < k → ¬ TL z m c0 on4 T x) ∨ ∃ b xb, v = nI b ∧ u = nI xb ∧ (1 ≤ b ∧ b < k) ∧ lsN (TL z m c0 on4 b) xb ∧ ∀ T x, 1 ≤ T → T < k → lsN (TL z m c0 on4 T) x → x ≤ xb ∧ (T < b → x < xb)
theorem sp_dearest {Q : Int32 → mg_H → Prop} {h : mg_H} {z : Nat → Nat} {m c0 : Nat} (hz : zok z) (hc : okc z c0) (hB : ∀ s, s ≤ m → on4 s ≤ 40) (C : CL z m on4 (fun a => a = c0) 0 30 h) (q : ∀ v u, DE z m c0 v u → Q v h) : wp_dearest Q h := by
  unfold wp_dearest
  intro R6 R26 c6 c26
  refine lp (σ := Int32 × Int32) (R := fun k r => R6 r.1 r.2 (nI k) h) (fun k r => DEk z m c0 k r.1 r.2) 1 31 (by decide) ?_ ?_ (nM, nM) (Or.inl ⟨rfl, rfl, fun T x h1 h2 => by omega⟩)
  · rintro ⟨v, u⟩ hr
    refine c6 _ _ _ _ (bq_t (by decide) ?_)
    rcases hr with ⟨e1, e2, no⟩ | ⟨b, xb, e1, e2, hb, hx, hl⟩
    · exact q v (nI 0) (Or.inl ⟨e1, rfl, fun T x h1 h2 => no T x h1 (by omega)⟩)
    · exact q v u (Or.inr ⟨b, xb, e1, e2, ⟨hb.1, by omega⟩, hx, fun T x h1 h2 => hl T x h1 (by omega)⟩)
  · rintro k ⟨v, u⟩ h1 hk hr ih
    dsimp only at hr ⊢
    refine c6 _ _ _ _ (bq_f (nI_nlt (b := k) (a := 30) (by omega) (by decide)) (sp_leastC hz hc hB (by omega) C (fun r2 hr2 => ?_)))
    have fin : ∀ v' u', DEk z m c0 (k + 1) v' u' → (if u ≤ r2 then r2 else u) = u' → R26 u (nI k) v' h := by
      intro v' u' hd e
      refine c26 _ _ _ _ (sp_leastC hz hc hB (by omega) C (fun r4 hr4 => sp_greater ?_))
      rintro _ rfl
      rw [lst_one hr4 hr2 (fun _ => Iff.rfl), e, nI_1]
      exact ih (v', u') hd
    have bnd : ∀ T x, T ≤ 30 → TL z m c0 on4 T x → x ≤ 120 := fun T x hT h => TL_b hT h
    rcases hr2 with ⟨e2, no2⟩ | ⟨x, e2, hx, hlx⟩
    · rcases hr with ⟨ev, eu, no⟩ | ⟨b, xb, ev, eu, hb, hxb, hl⟩
      · subst e2 ev eu
        refine bq_t (by decide) (fin _ nM (Or.inl ⟨rfl, rfl, fun T y h1 h2 => ?_⟩) (by decide))
        rcases Nat.lt_or_ge T k with h9 | h9
        · exact no T y h1 h9
        · rw [show T = k by omega]; exact no2 y
      · have hb3 := bnd b xb (by omega) hxb.1
        subst e2 ev eu
        refine bq_t (by rw [nM_leI (by omega)]; trivial) (fin _ (nI xb) (Or.inr ⟨b, xb, rfl, rfl, ⟨hb.1, by omega⟩, hxb, fun T y h1 h2 hy => ?_⟩) (by rw [if_neg (by rw [nI_leM (by omega)]; exact id)]))
        rcases Nat.lt_or_ge T k with h9 | h9
        · exact hl T y h1 h9 hy
        · rw [show T = k by omega] at hy; exact absurd hy.1 (no2 y)
    · have hx3 := bnd k x (by omega) hx
      have hxl : lsN (TL z m c0 on4 k) x := ⟨hx, hlx⟩
      rcases hr with ⟨ev, eu, no⟩ | ⟨b, xb, ev, eu, hb, hxb, hl⟩
      · subst e2 ev eu
        refine bq_f (by rw [nI_leM (by omega)]; exact id) (fin _ (nI x) (Or.inr ⟨k, x, rfl, rfl, ⟨h1, by omega⟩, hxl, fun T y h1 h2 hy => ?_⟩) (by rw [if_pos (by rw [nM_leI (by omega)]; trivial)]))
        rcases Nat.lt_or_ge T k with h9 | h9
        · exact absurd hy.1 (no T y h1 h9)
        · have : T = k := by omega
          subst this
          have := lsN_one hy hxl
          omega
      · have hb3 := bnd b xb (by omega) hxb.1
        subst e2 ev eu
        by_cases h9 : x ≤ xb
        · refine bq_t ((nI_leI (by omega) (by omega)).mpr h9) (fin _ (nI xb) (Or.inr ⟨b, xb, rfl, rfl, ⟨hb.1, by omega⟩, hxb, fun T y h1 h2 hy => ?_⟩) ?_)
          · rcases Nat.lt_or_ge T k with h8 | h8
            · exact hl T y h1 h8 hy
            · have : T = k := by omega
              subst this
              have := lsN_one hy hxl
              omega
          · by_cases h8 : xb ≤ x
            · rw [if_pos ((nI_leI (by omega) (by omega)).mpr h8), show x = xb by omega]
            · rw [if_neg (nI_leI' (by omega) (by omega) h8)]
        · refine bq_f (nI_leI' (by omega) (by omega) h9) (fin _ (nI x) (Or.inr ⟨k, x, rfl, rfl, ⟨h1, by omega⟩, hxl, fun T y h1 h2 hy => ?_⟩) (by rw [if_pos ((nI_leI (by omega) (by omega)).mpr (by omega))]))
          rcases Nat.lt_or_ge T k with h8 | h8
          · have := (hl T y h1 h8 hy).1
            omega
          · have : T = k := by omega
            subst this
            have := lsN_one hy hxl
            omega
