/-! layAll, stop, in the reference -/
theorem sp_layAll {Q : Int32 → mg_H → Prop} {x y : Int32} {h : mg_H} (okd : mp_days h) (oks : mp_shs h) (q1 : ∀ k c d : Nat, k < 2 → c ≤ 4 → d < 2 → x = nI k → y = nI d → (0 ≤ x ∧ x ≤ mg_i h 5 0 - 1) → (0 ≤ y ∧ y ≤ mg_i h 5 1 - 1) → mg_i h 6 (13 * k) = nI c → Q 1 (mp_day0 (mp_hand (mg_ui h 0 29 y) k c))) (q0 : ¬ ((0 ≤ x ∧ x ≤ mg_i h 5 0 - 1) ∧ (0 ≤ y ∧ y ≤ mg_i h 5 1 - 1)) → Q 0 (mg_ui h 0 29 y)) : wp_layAll Q x y h := by
  obtain ⟨⟨m, hm, em⟩, _⟩ := okd
  unfold wp_layAll wp_hasDay
  intro h1 e1
  subst e1
  refine sp_is (vp_in_nI (n := 1) (by decide) (by decide)) (fun a b => ⟨Or.inr rfl, fun c => absurd c (by decide), fun _ => ?_⟩) (fun c => ⟨Or.inl rfl, fun _ => q0 (fun hh => mp_not c hh.2), fun c2 => absurd rfl c2⟩)
  have b : y ≤ mg_i h 5 1 - 1 := b
  refine sp_hand (h := mg_ui h 0 29 y) oks (fun k c hk hc ex a1 b1 en => ⟨fun _ => sp_beginDay ?_, fun c9 => absurd c9 (by decide)⟩) (fun hh => ⟨fun c9 => absurd rfl c9, fun _ => q0 (fun h9 => hh h9.1)⟩)
  obtain ⟨d, hd, ed⟩ := mp_rng (m := m) (by omega) a (by rw [← em]; exact b)
  exact q1 k c d hk hc (by omega) ex ed ⟨a1, b1⟩ ⟨a, b⟩ en
