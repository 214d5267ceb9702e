/-! the class: ofShelf -/
theorem sp_X11_ofShelf {Y : xg_Y} {Q : Int32 → xg_H → Prop} {h : xg_H} {nm : Nat → Nat} {tx n k : Nat} {z t pr : Nat → Nat} (X : XS Y h nm tx n z t pr) (H : SH n z t) (hk1 : 9 ≤ k) (hk2 : k ≤ 13) (q : ∀ v, TI n z t (nI k) v → Q v h) : wp_X11_ofShelf Y Q (some (nm tx)) (nI k) h := by
  have hn4 := H.1
  have hz := H.zok
  have X0 := X
  obtain ⟨a1, a2, a3, _, a5, a6, _⟩ := X
  have zt : ∀ j, j < n → (1 ≤ z j ∧ z j ≤ 7) ∧ t j ≤ 7 := fun j hj => by
    have h1 := hz j (by omega)
    have h2 := H.2.1 j hj
    omega
  have t7 : ∀ j, t j ≤ 7 := fun j => by
    rcases Nat.lt_or_ge j n with h9 | h9
    · exact (zt j h9).2
    · have := H.2.2 j h9
      omega
  have lit : ∀ j, j < 100 → nI k = nI j → k = j := fun j hj e => (nI_eq (by omega) (by omega)).mp e
  unfold wp_X11_ofShelf
  intro R13 R75 c13 c75
  refine lp (σ := Int32) (R := fun i v => R13 (nI (cgs z i)) (nI (fb_sm t i)) v (nI (mxf t i)) (nI i) h) (fun i v => isB v (fun g => g < i ∧ 2 * t g = z g)) 0 n (Nat.zero_le n) ?_ ?_ (nI 0) (isB_0 (fun i hi => absurd hi.1 (Nat.not_lt_zero i)))
  · intro v hv
    refine c13 _ _ _ _ _ _ ⟨nm tx, rfl, a1, bq_t (by rw [a5]; exact nI_le (Nat.le_refl n) (by omega)) ⟨fun e => ?_, fun e => ?_, fun e => ?_, fun e => ?_, fun n9 n10 n11 n12 => ?_⟩⟩
    · have := lit 9 (by decide) e; subst this
      exact q _ (TI_k (k := 9) (by decide) (fun e => by omega) (fun _ => rfl) (fun e => by omega) (fun e => by omega) (fun e => by omega) (fun e => by omega) (fun e => by omega) hn4)
    · have := lit 10 (by decide) e; subst this
      exact q _ (TI_k (k := 10) (by decide) (fun e => by omega) (fun e => by omega) (fun _ => rfl) (fun e => by omega) (fun e => by omega) (fun e => by omega) (fun e => by omega) hn4)
    · have := lit 11 (by decide) e; subst this
      exact q _ (TI_k (k := 11) (by decide) (fun e => by omega) (fun e => by omega) (fun e => by omega) (fun _ => hv) (fun e => by omega) (fun e => by omega) (fun e => by omega) hn4)
    · have := lit 12 (by decide) e; subst this
      exact q _ (TI_k (k := 12) (by decide) (fun e => by omega) (fun e => by omega) (fun e => by omega) (fun e => by omega) (fun _ => rfl) (fun e => by omega) (fun e => by omega) hn4)
    · have : k = 13 := by
        have w9 : k ≠ 9 := fun e => n9 (by rw [e]; rfl)
        have w10 : k ≠ 10 := fun e => n10 (by rw [e]; rfl)
        have w11 : k ≠ 11 := fun e => n11 (by rw [e]; rfl)
        have w12 : k ≠ 12 := fun e => n12 (by rw [e]; rfl)
        omega
      subst this
      exact sp_X11_alikeCouples X0 H (q _ (TI_k (k := 13) (by decide) (fun e => by omega) (fun e => by omega) (fun e => by omega) (fun e => by omega) (fun e => by omega) (fun _ => rfl) (fun e => by omega) hn4))
  · intro i v _ hi hv ih
    have hzi := zt i hi
    have hg := cgs_le (fun j hj => (zt j hj).1) i (by omega)
    have hmx := mxf_le t7 i
    have f := a6 i hi
    have fin : ∀ u p, isB u p → (∀ g, (g < i ∧ 2 * t g = z g) ∨ p g ↔ (g < i + 1 ∧ 2 * t g = z g)) → R75 (nI (cgs z (i + 1))) (nI (fb_sm t (i + 1))) (nI (mxf t i)) (nI i) (nI (t i)) u v h := by
      intro u p hu hp
      refine c75 _ _ _ _ _ _ _ _ ?_
      rintro _ rfl _ rfl _ rfl
      have e9 : (if nI (mxf t i) < nI (t i) then nI (t i) else nI (mxf t i)) = nI (mxf t (i + 1)) := by
        show _ = nI (if mxf t i ≤ t i then t i else mxf t i)
        rcases Nat.lt_trichotomy (mxf t i) (t i) with h9 | h9 | h9
        · rw [if_pos (nI_lt h9 (by omega)), if_pos (by omega)]
        · rw [if_neg (nI_nlt (by omega) (by omega)), if_pos (by omega), h9]
        · rw [if_neg (nI_nlt (by omega) (by omega)), if_neg (by omega)]
      rw [nI_1, e9]
      exact ih _ ((isB_or hv hu).congr hp)
    refine c13 _ _ _ _ _ _ ⟨nm tx, rfl, a1, bq_f (by rw [a5]; exact nI_ge hi (by omega)) ⟨nm (tx + 20), a3.1, a3.2.1, ?_⟩⟩
    rw [show xg_n Y (nm (tx + 20)) = 4 from a3.2.2, nI_clamp (n := i) (by omega), f.2.1]
    refine ⟨vp_in_nI (by omega) (by decide), ?_⟩
    rintro _ rfl
    refine ⟨nm (tx + 10), a2.1, a2.2.1, ?_⟩
    rw [show xg_n Y (nm (tx + 10)) = 4 from a2.2.2, f.1, nI_l (n := cgs z i) (by omega), nI_l (n := z i) (by omega)]
    refine ⟨vp_in_nI (by omega) (by decide), sp_X11_common (by omega) (by omega) ?_⟩
    rintro _ rfl _ rfl
    refine ⟨nm (tx + 10), a2.1, a2.2.1, ?_⟩
    rw [show xg_n Y (nm (tx + 10)) = 4 from a2.2.2, f.1, nl_2, pk_mul, lN_i, nI_add]
    refine ⟨vp_in_nI (by omega) (by decide), fun c => ?_, fun c => ?_⟩
    · have c9 : ¬ 2 * t i = z i := fun e => c (by rw [Nat.mul_comm, e])
      refine fin (nI 0) (fun _ => False) (isB_0 (fun _ => id)) (fun g => ⟨fun hg => ?_, fun hg => Or.inl ⟨?_, hg.2⟩⟩)
      · exact hg.elim (fun hg => ⟨by omega, hg.2⟩) False.elim
      · rcases Nat.lt_or_ge g i with h9 | h9
        · exact h9
        · have e : g = i := by omega
          rw [e] at hg
          exact absurd hg.2 c9
    · have c9 := (nI_eq (by omega) (by omega)).mp c
      rw [bit_I (by omega)]
      refine fin _ _ (isB_bit (by omega)) (fun g => ⟨fun hg => ?_, fun hg => ?_⟩)
      · rcases hg with hg | rfl
        · exact ⟨by omega, hg.2⟩
        · exact ⟨by omega, by omega⟩
      · rcases Nat.lt_or_ge g i with h9 | h9
        · exact Or.inl ⟨h9, hg.2⟩
        · exact Or.inr (by omega)
