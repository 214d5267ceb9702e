/-! the reference's answers where a number is none of a text's, or an argument is out of its range -/
theorem rz_s {h : mg_H} : mp_same h (mg_ui h 0 0 0) := mp_ui mp_same.rf (by decide)
theorem rz_in {α : Type} {Q : α → mg_H → Prop} {A : mg_H → Prop} {x1 x2 lo hi : Int32} {v : α} {h : mg_H} (ok : mp_shs h) (hb : noN (mg_i h) 0 x1 ∨ ¬ (lo ≤ x2 ∧ x2 ≤ hi)) (q : ∀ h', mp_same h h' → Q v h') : wp_in (fun r3 h2 => (((r3 = 0) → Q v h2) ∧ ((¬ r3 = 0) → wp_hand (fun r5 h4 => (((¬ r5 = 0) → A h4) ∧ ((r5 = 0) → Q v h4))) x1 h2))) x2 lo hi (mg_ui h 0 0 0) := by
  refine sp_in (fun a b => ⟨fun c => absurd c (by decide), fun _ => ?_⟩) (fun _ => ⟨fun _ => q _ rz_s, fun c => absurd rfl c⟩)
  rcases hb with hb | hb
  · exact sp_hand1 (h := mg_ui h 0 0 0) ok hb ⟨fun c => absurd rfl c, fun _ => q _ rz_s⟩
  · exact absurd ⟨a, b⟩ hb
theorem sp_tell0 {Q : Int32 → mg_H → Prop} {h : mg_H} {x1 x2 x3 : Int32} (ok : mp_shs h) (hb : noN (mg_i h) 0 x1 ∨ ¬ (1 ≤ x2 ∧ x2 ≤ 30)) (q : ∀ h', mp_same h h' → Q (-1) h') : wp_tell Q x1 x2 x3 h := by
  unfold wp_tell
  intro R67 R72 R99 _ _ _
  rintro _ rfl
  exact rz_in ok hb q
theorem sp_purse0 {Q : Int32 → mg_H → Prop} {h : mg_H} {x1 x2 : Int32} (ok : mp_shs h) (hb : noN (mg_i h) 0 x1 ∨ ¬ (0 ≤ x2 ∧ x2 ≤ 99)) (q : ∀ h', mp_same h h' → Q (-1) h') : wp_purse Q x1 x2 h := by
  unfold wp_purse
  rintro _ rfl
  exact rz_in ok hb q
theorem sp_span0 {Q : Int32 → mg_H → Prop} {h : mg_H} {x1 x2 : Int32} (ok : mp_shs h) (hb : noN (mg_i h) 0 x1 ∨ ¬ (1 ≤ x2 ∧ x2 ≤ 30)) (q : ∀ h', mp_same h h' → Q (-1) h') : wp_span Q x1 x2 h := by
  unfold wp_span
  intro R36 R55 R97 _ _ _
  rintro _ rfl
  exact rz_in ok hb q
theorem sp_need0 {Q : Int32 → mg_H → Prop} {h : mg_H} {x1 x2 x3 : Int32} (ok : mp_shs h) (hb : noN (mg_i h) 0 x1 ∨ ¬ (1 ≤ x2 ∧ x2 ≤ 30)) (q : ∀ h', mp_same h h' → Q (-1) h') : wp_need Q x1 x2 x3 h := by
  unfold wp_need
  intro R42 _
  rintro _ rfl
  exact rz_in ok hb q
theorem sp_couples0 {Q : Int32 → mg_H → Prop} {h : mg_H} {x1 x2 : Int32} (ok : mp_shs h) (hb : noN (mg_i h) 0 x1 ∨ ¬ (1 ≤ x2 ∧ x2 ≤ 30)) (q : ∀ h', mp_same h h' → Q (-1) h') : wp_couples Q x1 x2 h := by
  unfold wp_couples
  intro R30 R42 R75 _ _ _
  rintro _ rfl
  exact rz_in ok hb q
theorem sp_crowd0 {Q : Int32 → mg_H → Prop} {h : mg_H} {x1 x2 : Int32} (ok : mp_shs h) (hb : noN (mg_i h) 0 x1 ∨ ¬ (0 ≤ x2 ∧ x2 ≤ 30)) (q : ∀ h', mp_same h h' → Q (-1) h') : wp_crowd Q x1 x2 h := by
  unfold wp_crowd
  intro R35 R66 _ _
  rintro _ rfl
  exact rz_in ok hb q
theorem sp_same0 {Q : Int32 → mg_H → Prop} {h : mg_H} {x1 x2 : Int32} (ok : mp_shs h) (hb : noN (mg_i h) 0 x1 ∨ ¬ (1 ≤ x2 ∧ x2 ≤ 30)) (q : ∀ h', mp_same h h' → Q (-1) h') : wp_same Q x1 x2 h := by
  unfold wp_same
  intro R33 _
  rintro _ rfl
  exact rz_in ok hb q
theorem sp_early0 {Q : Int32 → mg_H → Prop} {h : mg_H} {x1 x2 x3 : Int32} (ok : mp_shs h) (hb : noN (mg_i h) 0 x1 ∨ ¬ (0 ≤ x2 ∧ x2 ≤ 20)) (q : ∀ h', mp_same h h' → Q (-1) h') : wp_early Q x1 x2 x3 h := by
  unfold wp_early
  intro _ _ _ _ _ _ _ _ _ _ _ _ _ _ _ _ _ _
  rintro _ rfl
  exact rz_in ok hb q
theorem sp_luck0 {Q : Int64 → mg_H → Prop} {h : mg_H} {x1 x2 x3 : Int32} (ok : mp_shs h) (hb : noN (mg_i h) 0 x1 ∨ ¬ (1 ≤ x2 ∧ x2 ≤ 10)) (q : ∀ h', mp_same h h' → Q (-1) h') : wp_luck Q x1 x2 x3 h := by
  unfold wp_luck
  intro _ _ _ _ _ _ _ _ _ _ _ _
  rintro _ rfl
  exact rz_in ok hb q
theorem sp_duel0 {Q : Int32 → mg_H → Prop} {h : mg_H} {x1 x2 x3 : Int32} (ok : mp_shs h) (hb : noN (mg_i h) 0 x1 ∨ ¬ (0 ≤ x2 ∧ x2 ≤ 4)) (q : ∀ h', mp_same h h' → Q (-9) h') : wp_duel Q x1 x2 x3 h := by
  unfold wp_duel
  intro _ _ _ _ _ _ _ _
  rintro _ rfl
  exact rz_in ok hb q
theorem sp_chance0 {Q : Int32 → mg_H → Prop} {h : mg_H} {x1 x2 x3 x4 : Int32} (ok : mp_shs h) (hb : noN (mg_i h) 0 x1 ∨ ¬ (0 ≤ x2 ∧ x2 ≤ 10) ∨ ¬ (0 ≤ x3 ∧ x3 ≤ 7)) (q : ∀ h', mp_same h h' → Q (-1) h') : wp_chance Q x1 x2 x3 x4 h := by
  unfold wp_chance
  intro _ _ _ _ _ _ _ _
  rintro _ rfl
  refine sp_in (fun a b => ⟨fun c => absurd c (by decide), fun _ => ?_⟩) (fun _ => ⟨fun _ => q _ rz_s, fun c => absurd rfl c⟩)
  refine rz_in ok ?_ q
  rcases hb with hb | hb | hb
  · exact Or.inl hb
  · exact absurd ⟨a, b⟩ hb
  · exact Or.inr hb
theorem sp_times0 {Q : Int32 → mg_H → Prop} {h : mg_H} {x1 x2 : Int32} (ok : mp_shs h) (hb : noN (mg_i h) 0 x1) (q : ∀ h', mp_same h h' → Q (-2) h') : wp_times Q x1 x2 h := by
  unfold wp_times
  rintro _ rfl
  exact sp_hand1 (h := mg_ui h 0 0 0) ok hb ⟨fun c => absurd rfl c, fun _ => q _ rz_s⟩
theorem sp_wheel0 {Q : Int32 → mg_H → Prop} {h : mg_H} {x1 x2 : Int32} (ok : mp_shs h) (hb : noN (mg_i h) 0 x1 ∨ ∃ k n z t pr, okN (mg_i h) 0 x1 k ∧ SR (mg_i h) k n z t pr ∧ ¬ (0 ≤ x2 ∧ x2 ≤ 3)) (q : ∀ h', mp_same h h' → Q (-2) h') : wp_wheel Q x1 x2 h := by
  unfold wp_wheel
  rintro _ rfl
  rcases hb with hb | ⟨k, n, z, t, pr, hx, S, hb⟩
  · exact sp_hand1 (h := mg_ui h 0 0 0) ok hb ⟨fun _ => q _ rz_s, fun c => absurd rfl c⟩
  · rw [hx.1]
    refine sp_hand0 ok hx.2.2 hx.2.1 S (fun h2 e2 _ _ _ _ _ => ⟨fun c => absurd c (by decide), fun _ => ?_⟩)
    exact sp_in (fun a b => absurd ⟨a, b⟩ hb) (fun _ => ⟨fun c => absurd rfl c, fun _ => q _ e2⟩)
theorem sp_apart0 {Q : Int32 → mg_H → Prop} {h : mg_H} {x1 x2 : Int32} (ok : mp_shs h) (hb : noN (mg_i h) 0 x1 ∨ noN (mg_i h) 0 x2) (q : ∀ h', mp_same h h' → Q (-1) h') : wp_apart Q x1 x2 h := by
  unfold wp_apart
  rintro _ rfl
  refine sp_is (mp_in0 (by decide) (by decide)) (fun a b => ⟨fun c => absurd c (by decide), fun _ => ?_⟩) (fun _ => ⟨fun _ => q _ rz_s, fun c => absurd rfl c⟩)
  rcases hb with hb | hb
  · exact sp_hand1 (h := mg_ui h 0 0 0) ok hb ⟨fun c => absurd rfl c, fun _ => q _ rz_s⟩
  · exact absurd ⟨a, b⟩ hb
theorem sp_plan0 {Q : Int32 → mg_H → Prop} {h : mg_H} {x1 x2 x3 : Int32} (ok : mp_shs h) (hb : noN (mg_i h) 3 x2 ∨ ∃ o no sp, okN (mg_i h) 3 x2 o ∧ OR (mg_i h) o no sp ∧ (noN (mg_i h) 0 x1 ∨ ¬ (0 ≤ x3 ∧ x3 ≤ nI no))) (q : ∀ h', mp_same h h' → Q (-1) h') : wp_plan Q x1 x2 x3 h := by
  have s2 : mp_same h (mg_ui (mg_ui h 0 0 0) 0 45 x2) := mp_ui rz_s (by decide)
  unfold wp_plan
  intro R38 R76 R114 _ _ _
  rintro _ rfl
  unfold wp_hasOrder
  rintro _ rfl
  refine sp_is (vp_in_nI (n := 3) (N := 16) (by decide) (by decide)) (fun a b => ⟨Or.inr rfl, bq_f (by decide) ?_⟩) (fun c => ⟨Or.inl rfl, bq_t rfl (q _ s2)⟩)
  rcases hb with hb | ⟨o, no, sp, ho, O, hb⟩
  · exact absurd ⟨a, b⟩ hb
  · refine sp_spans (d := o) (by have := ho.2.1; omega) (mi_same.trans ho.1) ?_
    rw [show mg_i (mg_ui (mg_ui h 0 0 0) 0 45 x2) 9 (7 * o) = nI no from O.2.1]
    refine sp_in (fun a b => ⟨fun c => absurd c (by decide), fun _ => ?_⟩) (fun _ => ⟨fun _ => q _ s2, fun c => absurd rfl c⟩)
    rcases hb with hb | hb
    · exact sp_hand1 (h := mg_ui (mg_ui h 0 0 0) 0 45 x2) ok hb ⟨fun c => absurd rfl c, fun _ => q _ s2⟩
    · exact absurd ⟨a, b⟩ hb
