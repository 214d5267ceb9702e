/-! the class: what is read off the told minutes -/
theorem tb_hi {x i : Nat} (hx : x < 2 ^ 31) (hi : 31 ≤ i) : x.testBit i = false := Nat.testBit_lt_two_pow (Nat.lt_of_lt_of_le hx (Nat.pow_le_pow_right (by decide) hi))
theorem tb_46 : ∀ i, i < 31 → ((2147483646 : Nat).testBit i = decide (1 ≤ i)) := by decide +kernel
theorem tb_47 : ∀ i, i < 31 → ((2147483647 : Nat).testBit i = true) := by decide +kernel
theorem isB_46 : isB (nI 2147483646) (fun i => 1 ≤ i ∧ i ≤ 30) := by
  refine ⟨2147483646, rfl, by decide, fun i => ?_⟩
  rcases Nat.lt_or_ge i 31 with h9 | h9
  · rw [tb_46 i h9, decide_eq_true_iff]
    exact ⟨fun h => ⟨h, by omega⟩, fun h => h.1⟩
  · rw [tb_hi (by decide) h9]
    exact ⟨fun h => absurd h (by decide), fun h => by omega⟩
theorem isB_47 : isB (nI 2147483647) (fun i => i ≤ 30) := by
  refine ⟨2147483647, rfl, by decide, fun i => ?_⟩
  rcases Nat.lt_or_ge i 31 with h9 | h9
  · rw [tb_47 i h9]
    exact ⟨fun _ => by omega, fun _ => rfl⟩
  · rw [tb_hi (by decide) h9]
    exact ⟨fun h => absurd h (by decide), fun h => by omega⟩
theorem m_46 : ∀ i, i < 32 → (bt 2147483647 i && bt (-2) i) = bt 2147483646 i := by decide +kernel
theorem and_46 (y : Int32) : (2147483647 &&& y) &&& (-2) = nI 2147483646 &&& y := by
  apply b_ext
  intro i hi
  have := m_46 i hi
  show bt ((2147483647 &&& y) &&& (-2)) i = bt ((2147483646 : Int32) &&& y) i
  rw [b_and, b_and, b_and, ← this]
  cases bt 2147483647 i <;> cases bt (-2) i <;> cases bt y i <;> rfl
theorem sp_X11_longestRow {Y : xg_Y} {Q : Int32 → xg_H → Prop} {h : xg_H} {v : Int32} {p : Nat → Prop} (hv : isB v p) (h0 : ¬ p 0) (q : Q (nI (lr1 p 30).1) h) : wp_X11_longestRow Y Q v h := by
  obtain ⟨B, rfl, hB⟩ := hv
  unfold wp_X11_longestRow
  intro R6 R27 c6 c27
  have main : R6 (nI 0) (nI 0) (nI 1) h := by
    refine mp_up (P := fun k => R6 (nI (lr1 p k).1) (nI (lr1 p k).2) (nI (k + 1)) h) (n := 30) (c6 _ _ _ _ (bq_t (by decide) q)) (fun k hk ih => ?_)
    have hl := lr1_le p k
    have join : R27 (nI (lr1 p k).1) (nI (k + 1)) (nI (if dcd (p (k + 1)) then (lr1 p k).2 + 1 else 0)) h := by
      refine c27 _ _ _ _ ?_
      rintro _ rfl _ rfl
      rw [nI_1]
      have e9 : (if nI (lr1 p k).1 < nI (if dcd (p (k + 1)) then (lr1 p k).2 + 1 else 0) then nI (if dcd (p (k + 1)) then (lr1 p k).2 + 1 else 0) else nI (lr1 p k).1) = nI (lr1 p (k + 1)).1 := by
        have h2 : (if dcd (p (k + 1)) then (lr1 p k).2 + 1 else 0) < 2 ^ 31 := by split <;> omega
        rw [show (lr1 p (k + 1)).1 = (if (lr1 p k).1 ≤ (if dcd (p (k + 1)) then (lr1 p k).2 + 1 else 0) then (if dcd (p (k + 1)) then (lr1 p k).2 + 1 else 0) else (lr1 p k).1) from rfl]
        generalize (if dcd (p (k + 1)) then (lr1 p k).2 + 1 else 0) = u at h2
        rcases Nat.lt_trichotomy (lr1 p k).1 u with h9 | h9 | h9
        · rw [if_pos (nI_lt h9 h2), if_pos (by omega)]
        · rw [if_neg (nI_nlt (by omega) (by omega)), if_pos (by omega), h9]
        · rw [if_neg (nI_nlt (by omega) (by omega)), if_neg (by omega)]
      rw [e9]
      exact ih
    refine c6 _ _ _ _ (bq_f (nI_nlt (b := k + 1) (a := 30) (by omega) (by decide)) (sp_X11_has hB.1 (by omega) (fun hb => ⟨fun c => absurd c (by decide), fun _ => ?_⟩) (fun hb => ⟨fun _ => ?_, fun c => absurd rfl c⟩)))
    · rw [dcd_iff.mpr ((hB.2 (k + 1)).mp hb)] at join
      rw [nI_1]; exact join
    · have hn : ¬ p (k + 1) := fun hx => by rw [(hB.2 (k + 1)).mpr hx] at hb; cases hb
      rw [dcd_f.mpr hn] at join
      exact join
  refine c6 _ _ _ _ (bq_f (by decide) (sp_X11_has (k := 0) hB.1 (by decide) (fun hb => absurd ((hB.2 0).mp hb) h0) (fun hb => ⟨fun _ => c27 _ _ _ _ ?_, fun c => absurd rfl c⟩)))
  rintro _ rfl _ rfl
  exact main
theorem LO_k {n k : Nat} {z t : Nat → Nat} {v : Int32} (h0 : k = 0 → isB v (fun T => (1 ≤ T ∧ T ≤ 30) ∧ ∃ b, rc z (2 ^ n - 1) (c4 t) T b)) (h1 : k = 1 → v = nI (cntc (fun c => ∃ T, T ≤ 30 ∧ rc z (2 ^ n - 1) (c4 t) T c))) (h2 : k = 2 → lst (fun T => (1 ≤ T ∧ T ≤ 30) ∧ ∃ b, rc z (2 ^ n - 1) (c4 t) T b) v) (h3 : k = 3 → gst (fun T => (1 ≤ T ∧ T ≤ 30) ∧ ∃ b, rc z (2 ^ n - 1) (c4 t) T b) v) (h4 : k = 4 → lst (fun T => (1 ≤ T ∧ T ≤ 30) ∧ ¬ ∃ b, rc z (2 ^ n - 1) (c4 t) T b) v) (h5 : k = 5 → v = nI (lr1 (fun T => (1 ≤ T ∧ T ≤ 30) ∧ ∃ b, rc z (2 ^ n - 1) (c4 t) T b) 30).1) (h6 : k = 6 → ∃ u, DE z (2 ^ n - 1) (c4 t) v u) (h7 : k = 7 → ∃ u, DE z (2 ^ n - 1) (c4 t) u v) (h8 : k = 8 → isB v (fun T => (1 ≤ T ∧ T ≤ 30) ∧ TL z (2 ^ n - 1) (c4 t) on4 T 0)) : LO n z t k v := ⟨h0, h1, h2, h3, h4, h5, h6, h7, h8⟩
theorem sp_X11_ofTimes {Y : xg_Y} {Q : Int32 → xg_H → Prop} {h : xg_H} {nm : Nat → Nat} {B N N2 n k : Nat} {z t : Nat → Nat} (hn : inj nm) (J : BJ Y h nm B N N2 n z t) (hk : k ≤ 8) (q : ∀ h' v, BJ Y h' nm B N N2 n z t → bf nm B h h' → LO n z t k v → Q v h') : wp_X11_ofTimes Y Q (some (nm B)) (nI k) h := by
  have rf : bf nm B h h := bf.rf
  have lit : ∀ j, j < 100 → nI k = nI j → k = j := fun j hj e => (nI_eq (by omega) (by omega)).mp e
  unfold wp_X11_ofTimes
  refine ⟨nm B, rfl, J.1.1, sp_X1_told J (fun r3 hT => ?_)⟩
  refine ⟨fun e => ?_, fun e => ?_, fun e => ?_, fun e => ?_, fun e => ?_, fun e => ?_, fun e => ?_, fun e => ?_, fun n0 n1 n2 n3 n4 n5 n6 n7 => ?_⟩
  · have := lit 0 (by decide) e; subst this
    exact q _ _ J rf (LO_k (fun _ => hT) (fun c => by omega) (fun c => by omega) (fun c => by omega) (fun c => by omega) (fun c => by omega) (fun c => by omega) (fun c => by omega) (fun c => by omega))
  · have := lit 1 (by decide) e; subst this
    refine sp_X1_rowsWithin J isB_47 (q _ _ J rf (LO_k (fun c => by omega) (fun _ => ?_) (fun c => by omega) (fun c => by omega) (fun c => by omega) (fun c => by omega) (fun c => by omega) (fun c => by omega) (fun c => by omega)))
    exact congrArg nI (cntc_congr (fun c _ => ⟨fun ⟨T, a, _, b⟩ => ⟨T, a, b⟩, fun ⟨T, a, b⟩ => ⟨T, a, a, b⟩⟩))
  · have := lit 2 (by decide) e; subst this
    exact sp_X11_lowest hT (fun r hr => q _ _ J rf (LO_k (fun c => by omega) (fun c => by omega) (fun _ => lst_congr hr (fun T => ⟨fun h => h.2, fun h => ⟨h.1.2, h⟩⟩)) (fun c => by omega) (fun c => by omega) (fun c => by omega) (fun c => by omega) (fun c => by omega) (fun c => by omega)))
  · have := lit 3 (by decide) e; subst this
    exact sp_X11_highest hT (fun r hr => q _ _ J rf (LO_k (fun c => by omega) (fun c => by omega) (fun c => by omega) (fun _ => gst_congr hr (fun T => ⟨fun h => h.2, fun h => ⟨h.1.2, h⟩⟩)) (fun c => by omega) (fun c => by omega) (fun c => by omega) (fun c => by omega) (fun c => by omega)))
  · have := lit 4 (by decide) e; subst this
    rw [and_46]
    exact sp_X11_lowest (isB_diff isB_46 hT) (fun r hr => q _ _ J rf (LO_k (fun c => by omega) (fun c => by omega) (fun c => by omega) (fun c => by omega) (fun _ => lst_congr hr (fun T => ⟨fun h => ⟨h.2.1, fun hb => h.2.2 ⟨h.2.1, hb⟩⟩, fun h => ⟨h.1.2, h.1, fun hb => h.2 hb.2⟩⟩)) (fun c => by omega) (fun c => by omega) (fun c => by omega) (fun c => by omega)))
  · have := lit 5 (by decide) e; subst this
    exact sp_X11_longestRow hT (fun h => by have := h.1.1; omega) (q _ _ J rf (LO_k (fun c => by omega) (fun c => by omega) (fun c => by omega) (fun c => by omega) (fun c => by omega) (fun _ => rfl) (fun c => by omega) (fun c => by omega) (fun c => by omega)))
  · have := lit 6 (by decide) e; subst this
    exact sp_X1_dearest hn J (fun h2 v u J2 e2 hd => q _ _ J2 e2 (LO_k (fun c => by omega) (fun c => by omega) (fun c => by omega) (fun c => by omega) (fun c => by omega) (fun c => by omega) (fun _ => ⟨u, hd⟩) (fun c => by omega) (fun c => by omega)))
  · have := lit 7 (by decide) e; subst this
    have fin : ∀ h' v u, BJ Y h' nm B N N2 n z t → bf nm B h h' → DE z (2 ^ n - 1) (c4 t) v u → Q u h' := fun h' v u J' e' hd => q h' u J' e' (LO_k (fun c => by omega) (fun c => by omega) (fun c => by omega) (fun c => by omega) (fun c => by omega) (fun c => by omega) (fun c => by omega) (fun _ => ⟨v, hd⟩) (fun c => by omega))
    refine sp_X1_dearest hn J (fun h2 v u J2 e2 hd => ⟨fun hne => sp_X1_dearest hn J2 (fun h3 v3 u3 J3 e3 hd3 => ?_), fun he => ?_⟩)
    · rw [(DE_one hd3 hd).1]
      have hd0 := hd
      rcases hd with ⟨e1, _⟩ | ⟨b, xb, rfl, rfl, hb, hxb, hl⟩
      · exact absurd e1 hne
      · refine sp_X1_fewestTurns hn J3 hb.1 hb.2 (fun h4 x J4 e4 hx6 hx => ?_)
        have : x = xb := by
          rcases hx with ⟨_, no⟩ | ⟨_, hx1, hx2⟩
          · exact absurd hxb.1 (no xb)
          · exact lsN_one ⟨hx1, hx2⟩ hxb
        rw [this]
        exact fin h4 _ _ J4 ((e2.tr e3).tr e4) hd0
    · have hd0 := hd
      rcases hd with ⟨e1, e2', _⟩ | ⟨b, xb, e1, e2', hb, _⟩
      · have := fin h2 _ _ J2 e2 hd0
        rw [e2'] at this
        exact this
      · rw [e1, nl_m1, nI_eqM (by omega)] at he
        exact he.elim
  · have : k = 8 := by
      have w : ∀ j, j < 8 → k ≠ j := by
        intro j hj e
        subst e
        rcases (show k = 0 ∨ k = 1 ∨ k = 2 ∨ k = 3 ∨ k = 4 ∨ k = 5 ∨ k = 6 ∨ k = 7 by omega) with e | e | e | e | e | e | e | e <;> subst e
        · exact n0 rfl
        · exact n1 rfl
        · exact n2 rfl
        · exact n3 rfl
        · exact n4 rfl
        · exact n5 rfl
        · exact n6 rfl
        · exact n7 rfl
      have := w k
      omega
    subst this
    exact sp_X1_toldFree hn J (fun h2 v J2 e2 hv => q _ _ J2 e2 (LO_k (fun c => by omega) (fun c => by omega) (fun c => by omega) (fun c => by omega) (fun c => by omega) (fun c => by omega) (fun c => by omega) (fun c => by omega) (fun _ => hv)))
