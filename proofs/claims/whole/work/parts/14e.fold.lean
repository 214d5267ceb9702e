/-! reference: the best of sixteen places -/
theorem sp_fold {Q : Int32 → mg_H → Prop} {h : mg_H} {late : Bool} {B m : Nat} {v : Nat → Nat} (hm : m < 16) (hB : B + 16 ≤ 65536) (hv : ∀ s, s ≤ m → v s < 2 ^ 30) (cl : ∀ s, s < 16 → mg_i h 50 (B + s) = if s ≤ m then nI (v s) else nM) (q : ∀ h', md [] [51] h h' → mg_i h' 0 51 = nI (bst late v (m + 1)).2 → Q (nI (bst late v (m + 1)).1) h') : wp_fold Q (nI B) (lt32 late) h := by
  unfold wp_fold
  intro R10 R67 R58 c10 c67 c58
  rintro _ rfl
  -- value and place so far
  refine lp (σ := mg_H × Int32) (R := fun s g => R10 g.2 (nI s) g.1) (fun s g => md [] [51] h g.1 ∧ ((s = 0 ∧ g.2 = nM) ∨ (1 ≤ s ∧ s ≤ m + 1 ∧ g.2 = nI (bst late v s).1 ∧ mg_i g.1 0 51 = nI (bst late v s).2) ∨ (m + 1 < s ∧ g.2 = nI (bst late v (m + 1)).1 ∧ mg_i g.1 0 51 = nI (bst late v (m + 1)).2))) 0 16 (Nat.zero_le _) ?_ ?_ (mg_ui h 0 51 (-1), nM) ⟨md.u0 md.rf (by decide), Or.inl ⟨rfl, rfl⟩⟩
  · rintro ⟨g, r⟩ ⟨e, hr⟩
    refine c10 _ _ _ (bq_t (by decide) ?_)
    rcases hr with ⟨h0, _⟩ | ⟨h1, h2, h3, h4⟩ | ⟨h1, h3, h4⟩
    · omega
    · have e9 : m + 1 = 16 := by omega
      rw [← e9] at h3 h4
      have h3 : r = nI (bst late v (m + 1)).1 := h3
      rw [h3]; exact q g e h4
    · have h3 : r = nI (bst late v (m + 1)).1 := h3
      rw [h3]; exact q g e h4
  · rintro s ⟨g, r⟩ _ hs ⟨e, hr⟩ ih
    dsimp only at hr e ⊢
    have keep : ∀ g2 r2, md [] [51] h g2 → ((1 ≤ s + 1 ∧ s + 1 ≤ m + 1 ∧ r2 = nI (bst late v (s + 1)).1 ∧ mg_i g2 0 51 = nI (bst late v (s + 1)).2) ∨ (m + 1 < s + 1 ∧ r2 = nI (bst late v (m + 1)).1 ∧ mg_i g2 0 51 = nI (bst late v (m + 1)).2)) → R67 r2 (nI s) g2 := by
      intro g2 r2 e2 h2
      refine c67 _ _ _ ?_
      rintro _ rfl
      rw [nI_1]
      exact ih (g2, r2) ⟨e2, Or.inr h2⟩
    refine c10 _ _ _ (bq_f (nI_ge hs (by decide)) ?_)
    rw [nI_add, nI_clamp (by omega), e.1 50 (by decide) (by decide), cl s hs]
    refine ⟨vp_in_nI (show B + s < 65536 by omega) (by decide), ?_⟩
    rintro _ rfl
    by_cases hsm : s ≤ m
    · have hvs := hv s hsm
      rw [if_pos hsm]
      have take : bst late v (s + 1) = (v s, s) → R58 (nI s) (nI (v s)) g := by
        intro eb
        refine c58 _ _ _ ?_
        rintro _ rfl
        refine keep _ _ (e.u0 (by decide)) (Or.inl ⟨by omega, by omega, ?_, ?_⟩)
        · rw [eb]
        · rw [mi_same, eb]
      refine bq_f (by rw [nl_m1, nI_eqM (by omega)]; exact id) ?_
      rcases hr with ⟨h0, h1⟩ | ⟨h1, h2, h3, h4⟩ | ⟨h1, _⟩
      · subst h0
        refine bq_t h1 (take ?_)
        simp [bst]
      · have hb := (bst_le (late := late) (f := v) (M := 2 ^ 30) s (fun i hi => by have := hv i (by omega); omega)).1
        subst h3
        refine bq_f (by rw [nl_m1, nI_eqM (by omega)]; exact id) ?_
        have stay : ¬ (s = 0 ∨ (late = true ∧ (bst late v s).1 < v s) ∨ (late = false ∧ v s < (bst late v s).1)) → R67 (nI (bst late v s).1) (nI s) g := by
          intro hno
          have eb : bst late v (s + 1) = bst late v s := by
            show (if s = 0 ∨ (late = true ∧ (bst late v s).1 < v s) ∨ (late = false ∧ v s < (bst late v s).1) then (v s, s) else bst late v s) = _
            rw [if_neg hno]
          exact keep g _ e (Or.inl ⟨by omega, by omega, by rw [eb], by rw [eb]; exact h4⟩)
        have tk : (s = 0 ∨ (late = true ∧ (bst late v s).1 < v s) ∨ (late = false ∧ v s < (bst late v s).1)) → R58 (nI s) (nI (v s)) g := by
          intro hy
          refine take ?_
          show (if s = 0 ∨ (late = true ∧ (bst late v s).1 < v s) ∨ (late = false ∧ v s < (bst late v s).1) then (v s, s) else bst late v s) = _
          rw [if_pos hy]
        cases late with
        | false =>
          refine bq_t (by decide) ⟨fun c => stay ?_, fun c => tk (Or.inr (Or.inr ⟨rfl, ?_⟩))⟩
          · have := (nI_leI (by omega) (by omega)).mp c
            rintro (h | ⟨h, _⟩ | ⟨_, h⟩)
            · omega
            · cases h
            · omega
          · rcases Nat.lt_or_ge (v s) (bst false v s).1 with h9 | h9
            · exact h9
            · exact absurd ((nI_leI (by omega) (by omega)).mpr h9) c
        | true =>
          refine bq_f (by decide) ⟨fun c => stay ?_, fun c => tk (Or.inr (Or.inl ⟨rfl, ?_⟩))⟩
          · have := (nI_leI (by omega) (by omega)).mp c
            rintro (h | ⟨_, h⟩ | ⟨h, _⟩)
            · omega
            · omega
            · cases h
          · rcases Nat.lt_or_ge (bst true v s).1 (v s) with h9 | h9
            · exact h9
            · exact absurd ((nI_leI (by omega) (by omega)).mpr h9) c
      · omega
    · rw [if_neg hsm]
      refine bq_t rfl (keep g r e (Or.inr ⟨by omega, ?_⟩))
      rcases hr with ⟨h0, h1⟩ | ⟨h1, h2, h3, h4⟩ | ⟨h1, h3, h4⟩
      · omega
      · have e9 : s = m + 1 := by omega
        rw [e9] at h3 h4
        exact ⟨h3, h4⟩
      · exact ⟨h3, h4⟩
