/-! the class: the shelf's own numbers -/
noncomputable def cpu (n : Nat) (P : Nat → Nat → Prop) : Nat := fb_sm (fun a => fb_sm (fun j => if dcd (P a (a + 1 + j)) then 1 else 0) (n - (a + 1))) n
theorem cpu_cpl {n : Nat} {P : Nat → Nat → Prop} (hn : n ≤ 4) (sy : ∀ a b, P a b ↔ P b a) : cpu n P = cpl n P := by
  have e : ∀ a b, dcd (P a b) = dcd (P b a) := fun a b => dcd_congr (sy a b)
  unfold cpu cpl
  rcases (show n = 0 ∨ n = 1 ∨ n = 2 ∨ n = 3 ∨ n = 4 by omega) with rfl | rfl | rfl | rfl | rfl
  · rfl
  · rfl
  · simp [fb_sm, e 1 0]
  · simp [fb_sm, e 1 0, e 2 0, e 2 1]; omega
  · simp [fb_sm, e 1 0, e 2 0, e 2 1, e 3 0, e 3 1, e 3 2]; omega
theorem sp_X11_alikeCouples {Y : xg_Y} {Q : Int32 → xg_H → Prop} {h : xg_H} {nm : Nat → Nat} {tx n : Nat} {z t pr : Nat → Nat} (X : XS Y h nm tx n z t pr) (H : SH n z t) (q : Q (nI (cpl n (fun a b => z a = z b ∧ t a = t b))) h) : wp_X11_alikeCouples Y Q (some (nm tx)) h := by
  have hn4 := H.1
  have hz := H.zok
  rw [← cpu_cpl hn4 (fun a b => ⟨fun h => ⟨h.1.symm, h.2.symm⟩, fun h => ⟨h.1.symm, h.2.symm⟩⟩)] at q
  obtain ⟨a1, a2, a3, _, a5, a6, _⟩ := X
  unfold wp_X11_alikeCouples
  intro R4 R16 R57 c4' c16 c57
  have zt : ∀ j, j < n → z j ≤ 7 ∧ t j ≤ 7 := fun j hj => by
    have h1 := hz j (by omega)
    have h2 := H.2.1 j hj
    omega
  refine mp_up (P := fun a => R4 (nI (fb_sm (fun a => fb_sm (fun j => if dcd (z a = z (a + 1 + j) ∧ t a = t (a + 1 + j)) then 1 else 0) (n - (a + 1))) a)) (nI a) h) (n := n) (c4' _ _ _ ⟨nm tx, rfl, a1, bq_t (by rw [a5]; exact nI_le (Nat.le_refl n) (by omega)) q⟩) (fun a ha ih => c4' _ _ _ ⟨nm tx, rfl, a1, bq_f (by rw [a5]; exact nI_ge ha (by omega)) ?_⟩)
  rintro _ rfl
  rw [nI_1]
  refine mp_up (P := fun j => R16 (nI (fb_sm (fun a => fb_sm (fun j => if dcd (z a = z (a + 1 + j) ∧ t a = t (a + 1 + j)) then 1 else 0) (n - (a + 1))) a + fb_sm (fun j => if dcd (z a = z (a + 1 + j) ∧ t a = t (a + 1 + j)) then 1 else 0) j)) (nI a) (nI (a + 1 + j)) h) (n := n - (a + 1)) ?_ (fun j hj ih2 => ?_)
  · refine c16 _ _ _ _ ⟨nm tx, rfl, a1, bq_t (by rw [a5]; exact nI_le (by omega) (by omega)) ?_⟩
    rintro _ rfl
    rw [nI_1]; exact ih
  · have go : ∀ u, u = (if dcd (z a = z (a + 1 + j) ∧ t a = t (a + 1 + j)) then 1 else 0) → R57 (nI (fb_sm (fun a => fb_sm (fun j => if dcd (z a = z (a + 1 + j) ∧ t a = t (a + 1 + j)) then 1 else 0) (n - (a + 1))) a + fb_sm (fun j => if dcd (z a = z (a + 1 + j) ∧ t a = t (a + 1 + j)) then 1 else 0) j + u)) (nI a) (nI (a + 1 + j)) h := by
      rintro u rfl
      refine c57 _ _ _ _ ?_
      rintro _ rfl
      rw [nI_1, Nat.add_assoc]; exact ih2
    have za := zt a ha
    have zb := zt (a + 1 + j) (by omega)
    have fa := a6 a ha
    have fb := a6 (a + 1 + j) (by omega)
    refine c16 _ _ _ _ ⟨nm tx, rfl, a1, bq_f (by rw [a5]; exact nI_ge (by omega) (by omega)) ⟨nm (tx + 10), a2.1, a2.2.1, ?_⟩⟩
    rw [nI_clamp (n := a) (by omega), nI_clamp (n := a + 1 + j) (by omega), fa.1, fb.1, show xg_n Y (nm (tx + 10)) = 4 from a2.2.2]
    refine ⟨vp_in_nI (by omega) (by decide), vp_in_nI (by omega) (by decide), fun c => ?_, fun c => ⟨nm (tx + 20), a3.1, a3.2.1, ?_⟩⟩
    · have := go 0 (by rw [dcd_f.mpr (fun e => c (by rw [e.1]))]; rfl)
      exact this
    · rw [fa.2.1, fb.2.1, show xg_n Y (nm (tx + 20)) = 4 from a3.2.2]
      refine ⟨vp_in_nI (by omega) (by decide), vp_in_nI (by omega) (by decide), fun d => ?_, fun d => ?_⟩
      · have := go 0 (by rw [dcd_f.mpr (fun e => d (by rw [e.2]))]; rfl)
        exact this
      · rintro _ rfl
        have c9 := (nI_eq (by omega) (by omega)).mp c
        have d9 := (nI_eq (by omega) (by omega)).mp d
        have := go 1 (by rw [dcd_iff.mpr ⟨c9, d9⟩]; rfl)
        rw [nI_1]
        exact this
