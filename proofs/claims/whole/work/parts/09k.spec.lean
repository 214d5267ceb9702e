/-! ones, beginDay of the reference -/
def mp_ones (x : Int32) : Nat → Int32
  | 0 => 0
  | k + 1 => mp_ones x k + (if mp_has x (nI k) then 1 else 0)
theorem sp_ones {Q : Int32 → mg_H → Prop} {x : Int32} {h : mg_H} (q : Q (mp_ones x 4) h) : wp_ones Q x h := by
  unfold wp_ones
  intro R4 R23 c4 c23
  have st : ∀ k, k < 4 → R4 (mp_ones x (k + 1)) (nI (k + 1)) h → R4 (mp_ones x k) (nI k) h := by
    intro k hk hr
    have join : ∀ v : Int32, v = (if mp_has x (nI k) then 1 else 0) → R23 (nI k) v (mp_ones x k) h := by
      intro v hv
      refine c23 _ _ _ _ (fun z3 e3 z4 e4 => ?_)
      rw [e3, e4, hv, nI_1]
      exact hr
    refine c4 _ _ _ ⟨fun c => absurd c (nI_ge hk (by decide)), fun _ => sp_has (fun hh => ⟨fun c => absurd c (by decide), fun _ => join 1 (by rw [if_pos hh])⟩) (fun hh => ⟨fun _ => join 0 (by rw [if_neg hh]), fun c => absurd rfl c⟩)⟩
  refine st 0 (by decide) (st 1 (by decide) (st 2 (by decide) (st 3 (by decide) ?_)))
  exact c4 _ _ _ ⟨fun _ => q, fun c => absurd (by decide) c⟩
/-- the first k places of row c hold v -/
def mp_fill (g : mg_H) (c : Nat) (v : Int32) : Nat → mg_H
  | 0 => g
  | k + 1 => mg_ui (mp_fill g c v k) c k v
theorem mp_fill_i {g : mg_H} {c : Nat} {v : Int32} : ∀ (k d j : Nat), mg_i (mp_fill g c v k) d j = if d = c ∧ j < k then v else mg_i g d j
  | 0, d, j => by rw [if_neg (fun h => by omega)]; rfl
  | k + 1, d, j => by
    show mg_i (mg_ui (mp_fill g c v k) c k v) d j = _
    rw [mi_ui, mp_fill_i k d j]
    by_cases hd : d = c
    · by_cases hj : j = k
      · rw [if_pos ⟨hd, hj⟩, if_pos ⟨hd, by omega⟩]
      · rw [if_neg (fun h => hj h.2)]
        by_cases h2 : j < k
        · rw [if_pos ⟨hd, h2⟩, if_pos ⟨hd, by omega⟩]
        · rw [if_neg (fun h => h2 h.2), if_neg (fun h => h2 (by omega))]
    · rw [if_neg (fun h => hd h.1), if_neg (fun h => hd h.1), if_neg (fun h => hd h.1)]
/-- a loop that goes up from 0 to n -/
theorem mp_up {P : Nat → Prop} {n : Nat} (hn : P n) (hs : ∀ k, k < n → P (k + 1) → P k) : P 0 := by
  have go : ∀ k, k ≤ n → P (n - k) := by
    intro k
    induction k with
    | zero => exact fun _ => hn
    | succ k ih =>
      intro hk
      refine hs _ (by omega) ?_
      rw [show n - (k + 1) + 1 = n - k by omega]
      exact ih (by omega)
  have := go n (Nat.le_refl n)
  rw [Nat.sub_self] at this
  exact this
def mp_day0 (g : mg_H) : mg_H := mp_fill (mp_fill (mg_ui (mg_ui (mg_ui (mg_ui (mg_ui (mg_ui (mg_ui g 0 30 0) 0 31 0) 0 32 0) 0 33 0) 0 34 (-1)) 0 35 0) 0 36 0) 37 0 4) 38 0 100
theorem sp_beginDay {Q : mg_H → Prop} {h : mg_H} (q : Q (mp_day0 h)) : wp_beginDay Q h := by
  unfold wp_beginDay
  intro R37 R57 c37 c57 h1 e1 h2 e2 h3 e3 h4 e4 h5 e5 h6 e6 h7 e7
  subst e1; subst e2; subst e3; subst e4; subst e5; subst e6; subst e7
  refine mp_up (P := fun k => R37 (nI k) (mp_fill _ 37 0 k)) (n := 4) (c37 _ _ ⟨fun _ => ?_, fun c => absurd (by decide) c⟩) (fun k hk hr => ?_)
  · refine mp_up (P := fun k => R57 (nI k) (mp_fill _ 38 0 k)) (n := 100) (c57 _ _ ⟨fun _ => q, fun c => absurd (by decide) c⟩) (fun k hk hr => ?_)
    refine c57 _ _ ⟨fun c => absurd c (nI_ge hk (by decide)), fun _ => ⟨vp_in_nI (show k < 100 from hk) (by decide), fun h10 e10 z e => ?_⟩⟩
    rw [nI_clamp (by omega)] at e10
    rw [e10, e, nI_1]
    exact hr
  · refine c37 _ _ ⟨fun c => absurd c (nI_ge hk (by decide)), fun _ => ⟨vp_in_nI (show k < 4 from hk) (by decide), fun h8 e8 z e => ?_⟩⟩
    rw [nI_clamp (by omega)] at e8
    rw [e8, e, nI_1]
    exact hr
