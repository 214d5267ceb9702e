/-! the class: what the bench tells -/
/-- what state() tells of what is so -/
def SV (n : Nat) (w : wS) (x v : Int32) : Prop := (x = 0 → v = nI w.2.1) ∧ (x = 1 → v = nI (wl w n)) ∧ (x = 2 → v = nI w.2.2.1) ∧ (x = 3 → v = nI w.2.2.2.1) ∧ (∀ g, g < n → (x = nI (10 + g) → v = nI (w.1 g).2.1) ∧ (x = nI (20 + g) → v = nI ((w.1 g).1 - (w.1 g).2.1)) ∧ (x = nI (30 + g) → v = nI (w.1 g).2.2.2)) ∧ (¬ x = 0 → ¬ x = 1 → ¬ x = 2 → ¬ x = 3 → (∀ g, g < n → ¬ x = nI (10 + g) ∧ ¬ x = nI (20 + g) ∧ ¬ x = nI (30 + g)) → v = nM)
theorem SV_one {n : Nat} {w : wS} {x v v' : Int32} (h : SV n w x v) (h' : SV n w x v') : v = v' := by
  obtain ⟨a0, a1, a2, a3, a4, a5⟩ := h
  obtain ⟨b0, b1, b2, b3, b4, b5⟩ := h'
  by_cases c0 : x = 0
  · rw [a0 c0, b0 c0]
  by_cases c1 : x = 1
  · rw [a1 c1, b1 c1]
  by_cases c2 : x = 2
  · rw [a2 c2, b2 c2]
  by_cases c3 : x = 3
  · rw [a3 c3, b3 c3]
  by_cases c4 : ∃ g, g < n ∧ x = nI (10 + g)
  · obtain ⟨g, hg, e⟩ := c4
    rw [(a4 g hg).1 e, (b4 g hg).1 e]
  by_cases c5 : ∃ g, g < n ∧ x = nI (20 + g)
  · obtain ⟨g, hg, e⟩ := c5
    rw [(a4 g hg).2.1 e, (b4 g hg).2.1 e]
  by_cases c6 : ∃ g, g < n ∧ x = nI (30 + g)
  · obtain ⟨g, hg, e⟩ := c6
    rw [(a4 g hg).2.2 e, (b4 g hg).2.2 e]
  have no : ∀ g, g < n → ¬ x = nI (10 + g) ∧ ¬ x = nI (20 + g) ∧ ¬ x = nI (30 + g) := fun g hg => ⟨fun e => c4 ⟨g, hg, e⟩, fun e => c5 ⟨g, hg, e⟩, fun e => c6 ⟨g, hg, e⟩⟩
  rw [a5 c0 c1 c2 c3 no, b5 c0 c1 c2 c3 no]
theorem bsm_or {p : Nat → Bool} {k : Nat} (hk : k < 31) : nI (bsm p k) ||| nI (2 ^ k) = nI (bsm p k + 2 ^ k) := by
  have h1 := Nat.two_pow_add_eq_or_of_lt (bsm_lt p k) 1
  rw [Nat.mul_one] at h1
  rw [fa_or, Nat.or_comm, ← h1, Nat.add_comm]
theorem sp_X0_look {Y : xg_Y} {Q : Int32 → xg_H → Prop} {h : xg_H} {nm : Nat → Nat} {n d : Nat} {w : wS} {x : Int32} (B : XB Y h nm) (R : BR h nm n w) (K : wK n d w) (q : ∀ v, SV n w x v → Q v h) : wp_X0_look Y Q (nm 10) x h := by
  have hn4 := K.1
  obtain ⟨r6, r7, r0, r4, r1, r2, r3, rg⟩ := R
  have small : ∀ a b, a < 2 ^ 31 → b < 2 ^ 31 → a ≠ b → ∀ {y : Int32}, y = nI a → ¬ y = nI b := fun a b ha hb hab y h1 h2 => hab ((nI_eq ha hb).mp (h1.symm.trans h2))
  unfold wp_X0_look
  refine ⟨B.1, fun c => ?_, fun c => ?_, fun c => ?_, fun c => ?_, fun c0 c1 c2 c3 => ?_⟩
  · rw [r7]
    refine q _ ⟨fun _ => rfl, fun c' => absurd (c.symm.trans c') (by decide), fun c' => absurd (c.symm.trans c') (by decide), fun c' => absurd (c.symm.trans c') (by decide), fun g hg => ⟨fun c' => absurd c' (small 0 _ (by decide) (by omega) (by omega) c), fun c' => absurd c' (small 0 _ (by decide) (by omega) (by omega) c), fun c' => absurd c' (small 0 _ (by decide) (by omega) (by omega) c)⟩, fun c' => absurd c c'⟩
  · unfold wp_X0_laidGlasses
    refine ⟨B.1, fun R4 R32 c4 c32 => ?_⟩
    refine mp_up (P := fun k => R4 (nI (bsm (fun g => (w.1 g).2.2.1) k)) (nI k) h) (n := n) ?_ (fun k hk ih => ?_)
    · refine c4 _ _ _ (bq_t (by rw [r6]; exact nI_le (Nat.le_refl n) (by omega)) (q _ ⟨fun c' => absurd (c.symm.trans c') (by decide), fun _ => rfl, fun c' => absurd (c.symm.trans c') (by decide), fun c' => absurd (c.symm.trans c') (by decide), fun g hg => ⟨fun c' => absurd c' (small 1 _ (by decide) (by omega) (by omega) c), fun c' => absurd c' (small 1 _ (by decide) (by omega) (by omega) c), fun c' => absurd c' (small 1 _ (by decide) (by omega) (by omega) c)⟩, fun _ c' => absurd c c'⟩))
    · have e1 : bsm (fun g => (w.1 g).2.2.1) (k + 1) = bsm (fun g => (w.1 g).2.2.1) k + (if (w.1 k).2.2.1 = true then 2 ^ k else 0) := rfl
      refine c4 _ _ _ (bq_f (by rw [r6]; exact nI_ge hk (by omega)) ⟨nm 11, B.2.1, B.2.2.1.1, ?_⟩)
      rw [B.2.2.1.2, nI_clamp (by omega)]
      refine ⟨vp_in_nI (by omega) (by decide), nm (12 + k), (B.2.2.2 k (by omega)).1, (B.2.2.2 k (by omega)).2, ?_⟩
      rw [(rg k hk).2.2.1]
      cases hl : (w.1 k).2.2.1
      · refine bq_t rfl (c32 _ _ _ _ ?_)
        rintro _ rfl _ rfl
        rw [nl_0, fa_or, Nat.or_zero, nI_1]
        rw [e1, hl, if_neg (by decide), Nat.add_zero] at ih
        exact ih
      · refine bq_f (by decide) (c32 _ _ _ _ ?_)
        rintro _ rfl _ rfl
        rw [bit_I (by omega), bsm_or (by omega), nI_1]
        rw [e1, hl, if_pos rfl] at ih
        exact ih
  · rw [r0]
    refine q _ ⟨fun c' => absurd (c.symm.trans c') (by decide), fun c' => absurd (c.symm.trans c') (by decide), fun _ => rfl, fun c' => absurd (c.symm.trans c') (by decide), fun g hg => ⟨fun c' => absurd c' (small 2 _ (by decide) (by omega) (by omega) c), fun c' => absurd c' (small 2 _ (by decide) (by omega) (by omega) c), fun c' => absurd c' (small 2 _ (by decide) (by omega) (by omega) c)⟩, fun _ _ c' => absurd c c'⟩
  · rw [r4]
    refine q _ ⟨fun c' => absurd (c.symm.trans c') (by decide), fun c' => absurd (c.symm.trans c') (by decide), fun c' => absurd (c.symm.trans c') (by decide), fun _ => rfl, fun g hg => ⟨fun c' => absurd c' (small 3 _ (by decide) (by omega) (by omega) c), fun c' => absurd c' (small 3 _ (by decide) (by omega) (by omega) c), fun c' => absurd c' (small 3 _ (by decide) (by omega) (by omega) c)⟩, fun _ _ _ c' => absurd c c'⟩
  · unfold wp_X0_lookAtGlass
    refine ⟨B.1, fun R2 c2' => ?_⟩
    refine lp (σ := Unit) (R := fun k _ => R2 (nI k) h) (fun k _ => ∀ g, g < k → ¬ x = nI (10 + g) ∧ ¬ x = nI (20 + g) ∧ ¬ x = nI (30 + g)) 0 n (Nat.zero_le n) ?_ ?_ () (fun g hg => absurd hg (Nat.not_lt_zero g))
    · intro _ hno
      exact c2' _ _ (bq_t (by rw [r6]; exact nI_le (Nat.le_refl n) (by omega)) (q _ ⟨fun c => absurd c c0, fun c => absurd c c1, fun c => absurd c c2, fun c => absurd c c3, fun g hg => ⟨fun c => absurd c (hno g hg).1, fun c => absurd c (hno g hg).2.1, fun c => absurd c (hno g hg).2.2⟩, fun _ _ _ _ _ => rfl⟩))
    · intro k _ _ hk hno ih
      have e1 : (10 : Int32) + nI k = nI (10 + k) := by rw [nl_10, nI_add]
      have e2 : (20 : Int32) + nI k = nI (20 + k) := by rw [nl_20, nI_add]
      have e3 : (30 : Int32) + nI k = nI (30 + k) := by rw [nl_30, nI_add]
      have Gk := rg k hk
      have Kk := K.2.1 k hk
      refine c2' _ _ (bq_f (by rw [r6]; exact nI_ge hk (by omega)) ?_)
      rw [e1, e2, e3, nI_clamp (n := k) (by omega)]
      refine ⟨fun n1 => ⟨fun n2 => ⟨fun n3 => ?_, fun c => ?_⟩, fun c => ?_⟩, fun c => ?_⟩
      · rintro _ rfl
        rw [nI_1]
        refine ih () (fun g hg => ?_)
        rcases Nat.lt_or_ge g k with h9 | h9
        · exact hno g h9
        · rw [show g = k by omega]; exact ⟨n1, n2, n3⟩
      · refine ⟨nm 11, B.2.1, B.2.2.1.1, ?_⟩
        rw [B.2.2.1.2]
        refine ⟨vp_in_nI (by omega) (by decide), nm (12 + k), (B.2.2.2 k (by omega)).1, (B.2.2.2 k (by omega)).2, ?_⟩
        rw [Gk.2.2.2]
        refine q _ ⟨fun c => absurd c c0, fun c => absurd c c1, fun c => absurd c c2, fun c => absurd c c3, fun g hg => ⟨fun c' => absurd c' (small _ _ (by omega) (by omega) (by omega) c), fun c' => absurd c' (small _ _ (by omega) (by omega) (by omega) c), fun c' => ?_⟩, fun _ _ _ _ hno2 => absurd c (hno2 k hk).2.2⟩
        have := (nI_eq (by omega) (by omega)).mp (c.symm.trans c')
        rw [show g = k by omega]
      · refine ⟨nm 11, B.2.1, B.2.2.1.1, ?_⟩
        rw [B.2.2.1.2]
        refine ⟨vp_in_nI (by omega) (by decide), nm (12 + k), (B.2.2.2 k (by omega)).1, (B.2.2.2 k (by omega)).2, vp_in_nI (by omega) (by decide), ?_⟩
        rw [Gk.1, Gk.2.1, pk_sub Kk.2.2.1]
        refine q _ ⟨fun c => absurd c c0, fun c => absurd c c1, fun c => absurd c c2, fun c => absurd c c3, fun g hg => ⟨fun c' => absurd c' (small _ _ (by omega) (by omega) (by omega) c), fun c' => ?_, fun c' => absurd c' (small _ _ (by omega) (by omega) (by omega) c)⟩, fun _ _ _ _ hno2 => absurd c (hno2 k hk).2.1⟩
        have := (nI_eq (by omega) (by omega)).mp (c.symm.trans c')
        rw [show g = k by omega]
      · refine ⟨nm 11, B.2.1, B.2.2.1.1, ?_⟩
        rw [B.2.2.1.2]
        refine ⟨vp_in_nI (by omega) (by decide), nm (12 + k), (B.2.2.2 k (by omega)).1, (B.2.2.2 k (by omega)).2, ?_⟩
        rw [Gk.2.1]
        refine q _ ⟨fun c => absurd c c0, fun c => absurd c c1, fun c => absurd c c2, fun c => absurd c c3, fun g hg => ⟨fun c' => ?_, fun c' => absurd c' (small _ _ (by omega) (by omega) (by omega) c), fun c' => absurd c' (small _ _ (by omega) (by omega) (by omega) c)⟩, fun _ _ _ _ hno2 => absurd c (hno2 k hk).1⟩
        have := (nI_eq (by omega) (by omega)).mp (c.symm.trans c')
        rw [show g = k by omega]
/-- who ran out most often, of several the first; -1: none -/
def KNv (f : Nat → Nat) : Nat → Nat × Nat
  | 0 => (0, 0)
  | k + 1 => if (KNv f k).2 < f k then (k + 1, f k) else KNv f k
theorem KNv_le {f : Nat → Nat} {M : Nat} : ∀ k, (∀ i, i < k → f i ≤ M) → (KNv f k).1 ≤ k ∧ (KNv f k).2 ≤ M
  | 0, _ => ⟨Nat.le_refl 0, Nat.zero_le _⟩
  | k + 1, h => by
    have ih := KNv_le (f := f) (M := M) k (fun i hi => h i (by omega))
    have h1 := h k (by omega)
    simp only [KNv]
    split
    · exact ⟨by simp only; omega, h1⟩
    · exact ⟨by omega, ih.2⟩
theorem KNv_val {f : Nat → Nat} : ∀ k, ((KNv f k).1 = 0 → (KNv f k).2 = 0) ∧ (0 < (KNv f k).1 → (KNv f k).1 ≤ k ∧ (KNv f k).2 = f ((KNv f k).1 - 1))
  | 0 => ⟨fun _ => rfl, fun h => absurd h (Nat.lt_irrefl 0)⟩
  | k + 1 => by
    have ih := KNv_val (f := f) k
    simp only [KNv]
    split
    · exact ⟨fun h => by simp only at h; omega, fun _ => ⟨Nat.le_refl _, by simp⟩⟩
    · exact ⟨ih.1, fun h => ⟨by have := ih.2 h; omega, (ih.2 h).2⟩⟩
def kn1 (v : Nat) : Int32 := if v = 0 then nM else nI (v - 1)
theorem sp_X0_keenest {Y : xg_Y} {Q : Int32 → xg_H → Prop} {h : xg_H} {nm : Nat → Nat} {n d : Nat} {w : wS} (B : XB Y h nm) (R : BR h nm n w) (K : wK n d w) (q : Q (kn1 (KNv (fun g => (w.1 g).2.2.2) n).1) h) : wp_X0_keenest Y Q (nm 10) h := by
  have hn4 := K.1
  have hm99 := K.2.2.1
  obtain ⟨r6, r7, r0, r4, r1, r2, r3, rg⟩ := R
  have hb : ∀ k, k ≤ n → (KNv (fun g => (w.1 g).2.2.2) k).2 ≤ 99 := fun k hk => (KNv_le k (fun i hi => by have := (K.2.1 i (by omega)).2.2.2; omega)).2
  unfold wp_X0_keenest
  refine ⟨B.1, fun R6 R39 c6 c39 => ?_⟩
  refine mp_up (P := fun k => k ≤ n → R6 (kn1 (KNv (fun g => (w.1 g).2.2.2) k).1) (nI (KNv (fun g => (w.1 g).2.2.2) k).2) (nI k) h) (n := n) ?_ (fun k hk ih => ?_) (Nat.zero_le n)
  · exact fun _ => c6 _ _ _ _ (bq_t (by rw [r6]; exact nI_le (Nat.le_refl n) (by omega)) q)
  · intro _
    have ih := ih (by omega)
    have h1 := hb k (by omega)
    have h2 := (K.2.1 k hk).2.2.2
    refine c6 _ _ _ _ (bq_f (by rw [r6]; exact nI_ge hk (by omega)) ⟨nm 11, B.2.1, B.2.2.1.1, ?_⟩)
    rw [B.2.2.1.2, nI_clamp (by omega)]
    refine ⟨vp_in_nI (by omega) (by decide), nm (12 + k), (B.2.2.2 k (by omega)).1, (B.2.2.2 k (by omega)).2, ?_⟩
    rw [(rg k hk).2.2.2]
    have e1 : KNv (fun g => (w.1 g).2.2.2) (k + 1) = if (KNv (fun g => (w.1 g).2.2.2) k).2 < (w.1 k).2.2.2 then (k + 1, (w.1 k).2.2.2) else KNv (fun g => (w.1 g).2.2.2) k := rfl
    by_cases hc : (KNv (fun g => (w.1 g).2.2.2) k).2 < (w.1 k).2.2.2
    · refine bq_f (nI_ge hc (by omega)) ⟨vp_in_nI (by omega) (by decide), ?_⟩
      rintro _ rfl
      refine c39 _ _ _ _ ?_
      rintro _ rfl
      rw [nI_1]
      rw [e1, if_pos hc] at ih
      unfold kn1 at ih
      rw [if_neg (by simp)] at ih
      exact ih
    · refine bq_t (nI_le (by omega) (by omega)) (c39 _ _ _ _ ?_)
      rintro _ rfl
      rw [nI_1]
      rw [e1, if_neg hc] at ih
      exact ih
