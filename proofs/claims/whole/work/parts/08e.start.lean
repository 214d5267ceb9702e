/-! from the law's entry: the static rows and words of the class, both constructors, then the loop: the claim rests on lw_sem alone -/
theorem st_arr : ∀ k, k < 7 → Cond.arrayOf (.static (xg_sc k).1 (xg_sc k).2 "[I") .int ∈ flatC (Jvm.Cond.and given_1 narrow_1) := by decide +kernel
theorem st_len : ∀ k, k < 7 → Cond.eq (.length (.static (xg_sc k).1 (xg_sc k).2 "[I")) (.int (Int32.ofNat (xg_sn k))) ∈ flatC (Jvm.Cond.and given_1 narrow_1) := by decide +kernel
theorem st_el : ∀ k, k < 7 → ∀ j, j < xg_sn k → Cond.eq (.elem (.static (xg_sc k).1 (xg_sc k).2 "[I") (.int (Int32.ofNat j))) (.int (xg_sv k j)) ∈ flatC (Jvm.Cond.and given_1 narrow_1) := by decide +kernel
theorem st_small : ∀ k, k < 7 → xg_sn k < 2 ^ 31 := by decide
theorem st_lay : ∀ k, k < 7 → Cond.laysStatic (xg_sc k).1 (xg_sc k).2 "[I" ∈ lw_tbl := by decide +kernel
theorem st_ini : ∀ k, k < 7 → Cond.initialized (xg_sc k).1 ∈ lw_tbl := by decide +kernel
theorem st_nw : ∀ w ∈ xg_nw, w ∈ lw_tbl := by decide +kernel
theorem st_ao : ∀ C ∈ xg_ao, Cond.arrayOver (.object C) ∈ lw_tbl := by decide +kernel
theorem st_tx : ∀ i, i < 10 → Cond.exactly (.string RX6 (xg_tk i)) "java/lang/String" ∈ flatC (Jvm.Cond.and given_1 narrow_1) := by decide +kernel
theorem st_tc : ∀ i, i < 10 → Cond.eq (.field (.string RX6 (xg_tk i)) "java/lang/String" "coder" "B") (.int 0) ∈ flatC (Jvm.Cond.and given_1 narrow_1) := by decide +kernel
theorem st_ta : ∀ i, i < 10 → Cond.arrayOf (.field (.string RX6 (xg_tk i)) "java/lang/String" "value" "[B") .byte ∈ flatC (Jvm.Cond.and given_1 narrow_1) := by decide +kernel
theorem st_tl : ∀ i, i < 10 → Cond.eq (.length (.field (.string RX6 (xg_tk i)) "java/lang/String" "value" "[B")) (.int (Int32.ofNat (xg_tl.getD i 0))) ∈ flatC (Jvm.Cond.and given_1 narrow_1) := by decide +kernel
theorem st_te : ∀ i, i < 10 → ∀ j, j < xg_tl.getD i 0 → Cond.eq (.elem (.field (.string RX6 (xg_tk i)) "java/lang/String" "value" "[B") (.int (Int32.ofNat j))) (.int ((xg_tb.getD i []).getD j 0)) ∈ flatC (Jvm.Cond.and given_1 narrow_1) := by decide +kernel
theorem st_tn : ∀ i, i < 10 → ∀ j, j < 10 → i ≠ j → (Cond.not (Cond.eq (.string RX6 (xg_tk i)) (.string RX6 (xg_tk j))) ∈ flatC (Jvm.Cond.and given_1 narrow_1) ∨ Cond.not (Cond.eq (.string RX6 (xg_tk j)) (.string RX6 (xg_tk i))) ∈ flatC (Jvm.Cond.and given_1 narrow_1)) := by decide +kernel
theorem st_tr : ∀ i, i < 10 → Cond.stringRef RX6 (xg_tk i) (xg_tt i) ∈ lw_tbl := by decide +kernel
theorem st_tz : ∀ i, i < 10 → xg_tl.getD i 0 < 2 ^ 31 := by decide
/-- what the class takes as given stands at the law's entry -/
theorem lw_world {s : State} {b : Nat} (hts : ∀ w ∈ lw_tbl, w.before #[Value.ref b] s = true) (hgv : (Jvm.Cond.and given_1 narrow_1).before #[Value.ref b] s = true) : ∃ zs : Nat → Nat, xg_St zs (fun q : Nat => s.heap.size ≤ q) s s.heap ∧ xg_Nw zs s := by
  have hfl := flat_of_before _ hgv
  have hA : ∀ a : Nat, a < s.heap.size → ¬ (fun q : Nat => s.heap.size ≤ q) a := fun a h => Nat.not_le.mpr h
  have h1 : ∀ k, k < 7 → ∃ t : Nat, (Term.static (xg_sc k).1 (xg_sc k).2 "[I").eval #[Value.ref b] s none [] s = some (.ref t) ∧ va_T .int t (xg_sn k) (fun j => .int (xg_sv k j)) (fun q : Nat => s.heap.size ≤ q) s s.heap := fun k hk => va_Tof (st_small k hk) (hfl _ (st_arr k hk)) (va_eqt (hfl _ (st_len k hk))) (fun j hj => va_eqt (hfl _ (st_el k hk j hj))) hA
  obtain ⟨adK, adV, hvS, hvE⟩ := vk_Sof (args := #[Value.ref b]) (s := s) (N := 10) (tm := fun i => Term.string RX6 (xg_tk i)) (len := xg_tl) (byt := xg_tb) (A := fun q : Nat => s.heap.size ≤ q) st_tz (fun i hi => hfl _ (st_tx i hi)) (fun i hi => hfl _ (st_tc i hi)) (fun i hi => hfl _ (st_ta i hi)) (fun i hi => hfl _ (st_tl i hi)) (fun i hi j hj => hfl _ (st_te i hi j hj)) (fun i j hi hj hij => (st_tn i hi j hj hij).elim (fun h => Or.inl (hfl _ h)) (fun h => Or.inr (hfl _ h))) hA
  have h2 : ∃ t : Nat → Nat, ∀ k, k < 7 → (Term.static (xg_sc k).1 (xg_sc k).2 "[I").eval #[Value.ref b] s none [] s = some (.ref (t k)) ∧ va_T .int (t k) (xg_sn k) (fun j => .int (xg_sv k j)) (fun q : Nat => s.heap.size ≤ q) s s.heap := by
    refine ⟨fun k => if hk : k < 7 then Classical.choose (h1 k hk) else 0, fun k hk => ?_⟩
    dsimp only
    rw [dif_pos hk]
    exact Classical.choose_spec (h1 k hk)
  obtain ⟨t, ht⟩ := h2
  refine ⟨fun k => if k < 7 then t k else if k < 30 then adK (k - 10) else adV (k - 30), ⟨?_, ?_, ?_, ?_⟩, ?_, ?_, ?_⟩
  · intro k hk
    dsimp only
    rw [if_pos hk]
    exact ⟨va_Zof (hts _ (st_lay k hk)) (hts _ (st_ini k hk)) (ht k hk).1 hA, (ht k hk).2⟩
  · have e1 : ∀ i, i < 10 → (if 10 + i < 7 then t (10 + i) else if 10 + i < 30 then adK (10 + i - 10) else adV (10 + i - 30)) = adK i := fun i hi => by
      rw [if_neg (by omega), if_pos (by omega), Nat.add_sub_cancel_left]
    have e2 : ∀ i, (if 30 + i < 7 then t (30 + i) else if 30 + i < 30 then adK (30 + i - 10) else adV (30 + i - 30)) = adV i := fun i => by
      rw [if_neg (by omega), if_neg (by omega), Nat.add_sub_cancel_left]
    refine ⟨fun i hi => ?_, fun i j hi hj h => ?_⟩
    · obtain ⟨g1, g2, g3, g4⟩ := hvS.1 i hi
      simp only [e1 i hi, e2 i]
      exact ⟨g1, g2, g3, g4⟩
    · simp only [e1 i hi, e1 j hj] at h
      exact hvS.2 i j hi hj h
  · exact va_Zof (hts (.laysStatic "java/lang/String" "COMPACT_STRINGS" "Z") (by decide +kernel)) (hts (.initialized "java/lang/String") (by decide +kernel)) (va_eqi (hfl (.eq (.static "java/lang/String" "COMPACT_STRINGS" "Z") (.int 1)) (by decide +kernel))) hA
  · exact va_Zqof (hts (.laysStatic "jdk/internal/util/Preconditions" "SIOOBE_FORMATTER" "Ljava/util/function/BiFunction;") (by decide +kernel)) (hts (.initialized "jdk/internal/util/Preconditions") (by decide +kernel)) (hfl (.isRef (.static "jdk/internal/util/Preconditions" "SIOOBE_FORMATTER" "Ljava/util/function/BiFunction;")) (by decide +kernel)) hA
  · exact fun w hw => va_Nw.of (xg_nw_on w hw) (hts w (st_nw w hw))
  · exact fun C hC => va_AO.of (hts _ (st_ao C hC))
  · intro i hi
    dsimp only
    rw [if_neg (by omega), if_pos (by omega), Nat.add_sub_cancel_left]
    exact vk_R.of (hts _ (st_tr i hi)) (hvE i hi)
