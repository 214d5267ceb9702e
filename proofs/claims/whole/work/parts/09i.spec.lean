/-! image, again of the reference: rows copied from frame to frame -/
/-- k places of frame f of row c (n wide) come to frame t -/
def mp_cpr (g : mg_H) (c n f t : Nat) : Nat → mg_H
  | 0 => g
  | k + 1 => mg_ui (mp_cpr g c n f t k) c (n * t + k) (mg_i (mp_cpr g c n f t k) c (n * f + k))
theorem mp_mul {n f t : Nat} (h : f ≠ t) : n * f + n ≤ n * t ∨ n * t + n ≤ n * f := by
  rcases Nat.lt_or_gt_of_ne h with h | h
  · left; have := Nat.mul_le_mul_left n (show f + 1 ≤ t from h); rw [Nat.mul_add, Nat.mul_one] at this; exact this
  · right; have := Nat.mul_le_mul_left n (show t + 1 ≤ f from h); rw [Nat.mul_add, Nat.mul_one] at this; exact this
theorem mp_cpr_i {g : mg_H} {c n f t : Nat} (hft : f ≠ t) : ∀ k, k ≤ n → ∀ d j, mg_i (mp_cpr g c n f t k) d j = if d = c ∧ n * t ≤ j ∧ j < n * t + k then mg_i g c (n * f + (j - n * t)) else mg_i g d j
  | 0, _, d, j => by rw [if_neg (fun h => by omega)]; rfl
  | k + 1, hk, d, j => by
    have ih := mp_cpr_i (g := g) (c := c) (n := n) hft k (by omega)
    have hm := mp_mul (n := n) hft
    show mg_i (mg_ui (mp_cpr g c n f t k) c (n * t + k) (mg_i (mp_cpr g c n f t k) c (n * f + k))) d j = _
    have e0 : mg_i (mp_cpr g c n f t k) c (n * f + k) = mg_i g c (n * f + k) := (ih c (n * f + k)).trans (if_neg (fun h => by omega))
    rw [mi_ui, e0, ih d j]
    by_cases hd : d = c
    · by_cases hj : j = n * t + k
      · rw [if_pos ⟨hd, hj⟩, if_pos ⟨hd, by omega, by omega⟩, show j - n * t = k by omega]
      · rw [if_neg (fun h => hj h.2)]
        by_cases h2 : n * t ≤ j ∧ j < n * t + k
        · rw [if_pos ⟨hd, h2⟩, if_pos ⟨hd, h2.1, by omega⟩]
        · rw [if_neg (fun h => h2 h.2), if_neg (fun h => h2 ⟨h.2.1, by omega⟩)]
    · rw [if_neg (fun h => hd h.1), if_neg (fun h => hd h.1), if_neg (fun h => hd h.1)]
theorem sp_copyRow {Q : mg_H → Prop} {c n f t : Nat} {h : mg_H} (hc : c ∈ mg_cs ∧ mg_kd c = 2) (hf : n * f + n ≤ mg_len c) (ht : n * t + n ≤ mg_len c) (hl : mg_len c < 2 ^ 31) (q : Q (mp_cpr h c n f t n)) : wp_copyRow Q c (nI n) (nI f) (nI t) h := by
  unfold wp_copyRow
  refine ⟨hc, fun R3 c3 => ?_⟩
  have st : ∀ k, k < n → R3 (nI (k + 1)) (mp_cpr h c n f t (k + 1)) → R3 (nI k) (mp_cpr h c n f t k) := by
    intro k hk hr
    have e1 : nI n * nI f + nI k = nI (n * f + k) := by rw [pk_mul, nI_add]
    have e2 : nI n * nI t + nI k = nI (n * t + k) := by rw [pk_mul, nI_add]
    refine c3 _ _ ⟨fun c => absurd c (nI_ge hk (by omega)), fun _ => ?_⟩
    rw [e1, e2, nI_clamp (by omega), nI_clamp (by omega)]
    refine ⟨vp_in_nI (by omega) hl, vp_in_nI (by omega) hl, fun h1 eh z ez => ?_⟩
    subst eh
    rw [ez, nI_1]
    exact hr
  have go : ∀ k, k ≤ n → R3 (nI (n - k)) (mp_cpr h c n f t (n - k)) := by
    intro k
    induction k with
    | zero => exact fun _ => c3 _ _ ⟨fun _ => q, fun c9 => absurd (nI_le (Nat.le_refl n) (by omega)) c9⟩
    | succ k ih =>
      intro hk
      have := ih (by omega)
      refine st (n - (k + 1)) (by omega) ?_
      rw [show n - (k + 1) + 1 = n - k by omega]
      exact this
  have := go n (Nat.le_refl n)
  rw [Nat.sub_self] at this
  exact this
/-- the tape's frame -/
def mp_cpt (g : mg_H) (f t : Nat) : Nat → mg_H
  | 0 => g
  | k + 1 => mg_ui (mp_cpt g f t k) 1 (600 * t + k) (vp_nar .byte (mg_i (mp_cpt g f t k) 1 (600 * f + k)))
theorem mp_cpt_i {g : mg_H} {f t : Nat} (hft : f ≠ t) : ∀ k, k ≤ 600 → ∀ d j, mg_i (mp_cpt g f t k) d j = if d = 1 ∧ 600 * t ≤ j ∧ j < 600 * t + k then vp_nar .byte (mg_i g 1 (600 * f + (j - 600 * t))) else mg_i g d j
  | 0, _, d, j => by rw [if_neg (fun h => by omega)]; rfl
  | k + 1, hk, d, j => by
    have ih := mp_cpt_i (g := g) hft k (by omega)
    have hm := mp_mul (n := 600) hft
    show mg_i (mg_ui (mp_cpt g f t k) 1 (600 * t + k) (vp_nar .byte (mg_i (mp_cpt g f t k) 1 (600 * f + k)))) d j = _
    have e0 : mg_i (mp_cpt g f t k) 1 (600 * f + k) = mg_i g 1 (600 * f + k) := (ih 1 (600 * f + k)).trans (if_neg (fun h => by omega))
    rw [mi_ui, e0, ih d j]
    by_cases hd : d = 1
    · by_cases hj : j = 600 * t + k
      · rw [if_pos ⟨hd, hj⟩, if_pos ⟨hd, by omega, by omega⟩, show j - 600 * t = k by omega]
      · rw [if_neg (fun h => hj h.2)]
        by_cases h2 : 600 * t ≤ j ∧ j < 600 * t + k
        · rw [if_pos ⟨hd, h2⟩, if_pos ⟨hd, h2.1, by omega⟩]
        · rw [if_neg (fun h => h2 h.2), if_neg (fun h => h2 ⟨h.2.1, by omega⟩)]
    · rw [if_neg (fun h => hd h.1), if_neg (fun h => hd h.1), if_neg (fun h => hd h.1)]
/-- a frame comes over another -/
def mp_cpa (g : mg_H) (f t : Nat) : mg_H := mp_cpr (mp_cpr (mp_cpr (mp_cpr (mp_cpr (mp_cpr (mp_cpr (mp_cpr (mp_cpt g f t 600) 2 1 f t 1) 3 1 f t 1) 4 1 f t 1) 5 4 f t 4) 6 26 f t 26) 7 162 f t 162) 8 34 f t 34) 9 14 f t 14
theorem sp_copyAll {Q : mg_H → Prop} {f t : Nat} {h : mg_H} (hf : f < 4) (ht : t < 4) (q : Q (mp_cpa h f t)) : wp_copyAll Q (nI f) (nI t) h := by
  unfold wp_copyAll
  intro R2 c2
  have st : ∀ k, k < 600 → R2 (nI (k + 1)) (mp_cpt h f t (k + 1)) → R2 (nI k) (mp_cpt h f t k) := by
    intro k hk hr
    have e1 : 600 * nI f + nI k = nI (600 * f + k) := by rw [show (600 : Int32) = nI 600 from rfl, pk_mul, nI_add]
    have e2 : 600 * nI t + nI k = nI (600 * t + k) := by rw [show (600 : Int32) = nI 600 from rfl, pk_mul, nI_add]
    refine c2 _ _ ⟨fun c => absurd c (nI_ge hk (by decide)), fun _ => ?_⟩
    rw [e1, e2, nI_clamp (by omega), nI_clamp (by omega)]
    refine ⟨vp_in_nI (show _ < 2400 by omega) (by decide), vp_in_nI (show _ < 2400 by omega) (by decide), fun h1 eh z ez => ?_⟩
    subst eh
    rw [ez, nI_1]
    exact hr
  have fin : R2 (nI 600) (mp_cpt h f t 600) := by
    refine c2 _ _ ⟨fun _ => ?_, fun c9 => absurd (by decide) c9⟩
    refine sp_copyRow (n := 1) (by decide) (show 1 * f + 1 ≤ 4 by omega) (show 1 * t + 1 ≤ 4 by omega) (by decide) ?_
    refine sp_copyRow (n := 1) (by decide) (show 1 * f + 1 ≤ 4 by omega) (show 1 * t + 1 ≤ 4 by omega) (by decide) ?_
    refine sp_copyRow (n := 1) (by decide) (show 1 * f + 1 ≤ 4 by omega) (show 1 * t + 1 ≤ 4 by omega) (by decide) ?_
    refine sp_copyRow (n := 4) (by decide) (show 4 * f + 4 ≤ 16 by omega) (show 4 * t + 4 ≤ 16 by omega) (by decide) ?_
    refine sp_copyRow (n := 26) (by decide) (show 26 * f + 26 ≤ 104 by omega) (show 26 * t + 26 ≤ 104 by omega) (by decide) ?_
    refine sp_copyRow (n := 162) (by decide) (show 162 * f + 162 ≤ 648 by omega) (show 162 * t + 162 ≤ 648 by omega) (by decide) ?_
    refine sp_copyRow (n := 34) (by decide) (show 34 * f + 34 ≤ 136 by omega) (show 34 * t + 34 ≤ 136 by omega) (by decide) ?_
    exact sp_copyRow (n := 14) (by decide) (show 14 * f + 14 ≤ 56 by omega) (show 14 * t + 14 ≤ 56 by omega) (by decide) q
  have go : ∀ k, k ≤ 600 → R2 (nI (600 - k)) (mp_cpt h f t (600 - k)) := by
    intro k
    induction k with
    | zero => exact fun _ => fin
    | succ k ih =>
      intro hk
      have := ih (by omega)
      refine st (600 - (k + 1)) (by omega) ?_
      rw [show 600 - (k + 1) + 1 = 600 - k by omega]
      exact this
  exact go 600 (Nat.le_refl 600)
