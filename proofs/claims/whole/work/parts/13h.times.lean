/-! reference: times -/
theorem in_num {w : Int32} {lo hi : Nat} (hl : lo < 2 ^ 30) (hh : hi < 2 ^ 30) (a : nI lo ≤ w) (b : w ≤ nI hi) : ∃ k, w = nI k ∧ lo ≤ k ∧ k ≤ hi := by
  obtain ⟨wv, hwv, rfl⟩ := nI_of (x := w) (fun c9 => by
    have h9 := Int32.le_iff_toInt_le.mp a
    have h8 := Int32.lt_iff_toInt_lt.mp c9
    have e0 : (0 : Int32).toInt = 0 := rfl
    rw [nI_toInt (by omega)] at h9
    omega)
  exact ⟨wv, rfl, (nI_leI (by omega) hwv).mp a, (nI_leI hwv (by omega)).mp b⟩
def TI (n : Nat) (z t : Nat → Nat) (w v : Int32) : Prop :=
  (∀ k, k ≤ 8 → w = nI k → LO n z t k v) ∧
  (w = nI 9 → v = nI (cgs z n)) ∧
  (w = nI 10 → v = nI (fb_sm t n)) ∧
  (w = nI 11 → isB v (fun g => g < n ∧ 2 * t g = z g)) ∧
  (w = nI 12 → v = nI (mxf t n)) ∧
  (w = nI 13 → v = nI (cpl n (fun a b => z a = z b ∧ t a = t b))) ∧
  (w = nI 14 → isMx (fun d => ∃ T c s, T ≤ 30 ∧ rc z (2 ^ n - 1) (c4 t) T c ∧ s ≤ 2 ^ n - 1 ∧ d = dl z c s) v) ∧
  (∀ g, g < n → w = nI (20 + g) → isB v (TB n z t (2 ^ g))) ∧
  ((∀ k, k ≤ 14 → w ≠ nI k) → (∀ g, g < n → w ≠ nI (20 + g)) → v = nM2)
theorem TI_one {n : Nat} {z t : Nat → Nat} {w v v' : Int32} (h : TI n z t w v) (h' : TI n z t w v') : v = v' := by
  obtain ⟨a8, a9, a10, a11, a12, a13, a14, ag, an⟩ := h
  obtain ⟨b8, b9, b10, b11, b12, b13, b14, bg, bn⟩ := h'
  by_cases h1 : ∃ k, k ≤ 14 ∧ w = nI k
  · obtain ⟨k, hk, e⟩ := h1
    rcases Nat.lt_or_ge k 9 with h9 | h9
    · exact LO_one (by omega) (a8 k (by omega) e) (b8 k (by omega) e)
    · rcases (show k = 9 ∨ k = 10 ∨ k = 11 ∨ k = 12 ∨ k = 13 ∨ k = 14 by omega) with c | c | c | c | c | c <;> rw [c] at e
      · rw [a9 e, b9 e]
      · rw [a10 e, b10 e]
      · exact isB_one (a11 e) (b11 e) (fun _ => Iff.rfl)
      · rw [a12 e, b12 e]
      · rw [a13 e, b13 e]
      · exact isMx_one (a14 e) (b14 e) (fun _ => Iff.rfl)
  · by_cases h2 : ∃ g, g < n ∧ w = nI (20 + g)
    · obtain ⟨g, hg, e⟩ := h2
      exact isB_one (ag g hg e) (bg g hg e) (fun _ => Iff.rfl)
    · rw [an (fun k hk e => h1 ⟨k, hk, e⟩) (fun g hg e => h2 ⟨g, hg, e⟩), bn (fun k hk e => h1 ⟨k, hk, e⟩) (fun g hg e => h2 ⟨g, hg, e⟩)]
/-- an answer for one small number -/
theorem TI_k {n k : Nat} {z t : Nat → Nat} {v : Int32} (hk : k ≤ 14) (h8 : k ≤ 8 → LO n z t k v) (h9 : k = 9 → v = nI (cgs z n)) (h10 : k = 10 → v = nI (fb_sm t n)) (h11 : k = 11 → isB v (fun g => g < n ∧ 2 * t g = z g)) (h12 : k = 12 → v = nI (mxf t n)) (h13 : k = 13 → v = nI (cpl n (fun a b => z a = z b ∧ t a = t b))) (h14 : k = 14 → isMx (fun d => ∃ T c s, T ≤ 30 ∧ rc z (2 ^ n - 1) (c4 t) T c ∧ s ≤ 2 ^ n - 1 ∧ d = dl z c s) v) (hn : n ≤ 4) : TI n z t (nI k) v := by
  have e9 : ∀ j, j < 100 → nI k = nI j → k = j := fun j hj e => (nI_eq (by omega) (by omega)).mp e
  refine ⟨fun j hj e => ?_, fun e => h9 (e9 9 (by decide) e), fun e => h10 (e9 10 (by decide) e), fun e => h11 (e9 11 (by decide) e), fun e => h12 (e9 12 (by decide) e), fun e => h13 (e9 13 (by decide) e), fun e => h14 (e9 14 (by decide) e), fun g hg e => ?_, fun hno => absurd rfl (hno k hk)⟩
  · have := e9 j (by omega) e
    subst this; exact h8 hj
  · have := e9 (20 + g) (by omega) e
    omega
theorem pow_sb {n g : Nat} (hg : g < n) : sb (2 ^ g) (2 ^ n - 1) := by
  unfold sb
  apply Nat.eq_of_testBit_eq
  intro i
  rw [Nat.testBit_and, full_bit, Nat.testBit_two_pow]
  by_cases e1 : g = i
  · subst e1; simp [hg]
  · simp [e1]
theorem sp_times {Q : Int32 → mg_H → Prop} {h : mg_H} {k n : Nat} {w : Int32} {z t pr : Nat → Nat} (ok : mp_shs h) (hv : 0 ≤ nI k ∧ nI k ≤ mg_i h 5 0 - 1) (hk : k < 2) (S : SR (mg_i h) k n z t pr) (q : ∀ v h', mp_same h h' → TI n z t w v → Q v h') : wp_times Q (nI k) w h := by
  have SHh := S.sh
  have hn4 := S.1
  have hzr : ∀ j, j < n → 1 ≤ z j ∧ z j ≤ 7 := fun j hj => by have := S.2.2.1 j hj; omega
  have hzt : ∀ j, z j ≤ 7 ∧ t j ≤ 7 := fun j => by have := S.z7 j; omega
  have hB : ∀ s, s ≤ 2 ^ n - 1 → on4 s ≤ 40 := fun s _ => Nat.le_trans (on4_le s) (by decide)
  unfold wp_times
  rintro _ rfl
  refine sp_hand0 ok hv hk S (fun h2 es2 H2 f23 f24 f28 S2 => bq_nt (by decide) ?_)
  have lay : ∀ (Q' : mg_H → Prop), (∀ h3, mp_same h h3 → HS h3 z (2 ^ n - 1) (c4 t) → CL z (2 ^ n - 1) on4 (fun a => a = c4 t) 0 30 h3 → Q' h3) → wp_layOut Q' 0 h2 := fun Q' q' => sp_layOut (wt := on4) H2 SHh.zok SHh.m SHh.ok (fun h' _ s hs _ Q q => sp_cost0 hs q) hB (fun h3 e3 C3 => q' h3 (es2.tr (e3.same (by decide))) (H2.mv e3 (by decide) (by decide) (by decide)) C3)
  refine sp_in (fun a b => bq_f (by decide) ?_) (fun c20 => bq_t rfl (sp_in (fun a b => bq_f (by decide) ?_) (fun c08 => bq_t rfl ?_)))
  · obtain ⟨kk, rfl, k1, k2⟩ := in_num (lo := 20) (hi := 23) (by decide) (by decide) a b
    rw [nl_20, pk_sub k1]
    refine sp_isGlass f24 (fun a b => bq_f (by decide) ?_) (fun hno => bq_t rfl (q _ _ es2 ⟨fun j hj e => ?_, fun e => ?_, fun e => ?_, fun e => ?_, fun e => ?_, fun e => ?_, fun e => ?_, fun g hg e => ?_, fun _ _ => rfl⟩))
    · obtain ⟨g, hg, e⟩ := mp_rng (by omega) a b
      have e := (nI_eq (a := kk - 20) (b := g) (by omega) (by omega)).mp e
      rw [e, bit_I (by omega)]
      refine sp_timesOf f23 hk S2 (pow_sb hg) (fun v h3 e3 hv => q v h3 (es2.tr (e3.same (by decide))) ⟨fun j hj e => ?_, fun e => ?_, fun e => ?_, fun e => ?_, fun e => ?_, fun e => ?_, fun e => ?_, fun g' hg' e' => ?_, fun _ hno => absurd (show nI kk = nI (20 + g) by rw [show 20 + g = kk by omega]) (hno g hg)⟩)
      · have := (nI_eq (a := kk) (b := j) (by omega) (by omega)).mp e; omega
      · have := (nI_eq (a := kk) (b := 9) (by omega) (by decide)).mp e; omega
      · have := (nI_eq (a := kk) (b := 10) (by omega) (by decide)).mp e; omega
      · have := (nI_eq (a := kk) (b := 11) (by omega) (by decide)).mp e; omega
      · have := (nI_eq (a := kk) (b := 12) (by omega) (by decide)).mp e; omega
      · have := (nI_eq (a := kk) (b := 13) (by omega) (by decide)).mp e; omega
      · have := (nI_eq (a := kk) (b := 14) (by omega) (by decide)).mp e; omega
      · have e9 := (nI_eq (a := kk) (b := 20 + g') (by omega) (by omega)).mp e'
        rw [show g' = g by omega]; exact hv
    · have := (nI_eq (a := kk) (b := j) (by omega) (by omega)).mp e; omega
    · have := (nI_eq (a := kk) (b := 9) (by omega) (by decide)).mp e; omega
    · have := (nI_eq (a := kk) (b := 10) (by omega) (by decide)).mp e; omega
    · have := (nI_eq (a := kk) (b := 11) (by omega) (by decide)).mp e; omega
    · have := (nI_eq (a := kk) (b := 12) (by omega) (by decide)).mp e; omega
    · have := (nI_eq (a := kk) (b := 13) (by omega) (by decide)).mp e; omega
    · have := (nI_eq (a := kk) (b := 14) (by omega) (by decide)).mp e; omega
    · have e9 := (nI_eq (a := kk) (b := 20 + g) (by omega) (by omega)).mp e
      refine absurd ?_ hno
      rw [show kk - 20 = g by omega]
      exact mp_rngI (by omega) hg
  · obtain ⟨kk, rfl, _, k2⟩ := in_num (lo := 0) (hi := 8) (by decide) (by decide) a b
    refine lay _ (fun h3 es3 H3 C3 => sp_laidOut SHh C3 k2 (fun v hv => q v h3 es3 (TI_k (by omega) (fun _ => hv) (fun e => by omega) (fun e => by omega) (fun e => by omega) (fun e => by omega) (fun e => by omega) (fun e => by omega) hn4)))
  · refine ⟨fun e => ?_, fun e => ?_, fun e => ?_, fun e => ?_, fun e => ?_, fun e => ?_, fun n9 n10 n11 n12 n13 n14 => ?_⟩
    · subst e
      exact sp_commonSize (t := t) hn4 hzr f24 H2.1 (q _ _ es2 (TI_k (k := 9) (by decide) (fun e => by omega) (fun _ => rfl) (fun e => by omega) (fun e => by omega) (fun e => by omega) (fun e => by omega) (fun e => by omega) hn4))
    · subst e
      exact sp_sand hn4 f24 f28 (q _ _ es2 (TI_k (k := 10) (by decide) (fun e => by omega) (fun e => by omega) (fun _ => rfl) (fun e => by omega) (fun e => by omega) (fun e => by omega) (fun e => by omega) hn4))
    · subst e
      exact sp_even hn4 hzt f24 H2.1 f28 (fun v hv => q v _ es2 (TI_k (k := 11) (by decide) (fun e => by omega) (fun e => by omega) (fun e => by omega) (fun _ => hv) (fun e => by omega) (fun e => by omega) (fun e => by omega) hn4))
    · subst e
      exact sp_dry hn4 (fun j => (hzt j).2) f24 f28 (q _ _ es2 (TI_k (k := 12) (by decide) (fun e => by omega) (fun e => by omega) (fun e => by omega) (fun e => by omega) (fun _ => rfl) (fun e => by omega) (fun e => by omega) hn4))
    · subst e
      exact sp_like hn4 hzt f24 H2.1 f28 (q _ _ es2 (TI_k (k := 13) (by decide) (fun e => by omega) (fun e => by omega) (fun e => by omega) (fun e => by omega) (fun e => by omega) (fun _ => rfl) (fun e => by omega) hn4))
    · subst e
      exact lay _ (fun h3 es3 H3 C3 => sp_still H3 SHh.zok SHh.m SHh.ok hB C3 (fun v h4 e4 hv => q v h4 (es3.tr (e4.same (by decide))) (TI_k (k := 14) (by decide) (fun e => by omega) (fun e => by omega) (fun e => by omega) (fun e => by omega) (fun e => by omega) (fun e => by omega) (fun _ => hv) hn4)))
    · have no : ∀ j, j ≤ 14 → w ≠ nI j := by
        intro j hj e
        rcases Nat.lt_or_ge j 9 with h9 | h9
        · refine mp_not c08 ?_
          rw [e]
          exact ⟨nI_pos' (by omega), (nI_leI (a := j) (b := 8) (by omega) (by decide)).mpr (by omega)⟩
        · rcases (show j = 9 ∨ j = 10 ∨ j = 11 ∨ j = 12 ∨ j = 13 ∨ j = 14 by omega) with c | c | c | c | c | c <;> subst c
          · exact n9 e
          · exact n10 e
          · exact n11 e
          · exact n12 e
          · exact n13 e
          · exact n14 e
      have no2 : ∀ g, g < n → w ≠ nI (20 + g) := by
        intro g hg e
        refine mp_not c20 ?_
        rw [e]
        exact ⟨(nI_leI (a := 20) (b := 20 + g) (by decide) (by omega)).mpr (by omega), (nI_leI (a := 20 + g) (b := 23) (by omega) (by decide)).mpr (by omega)⟩
      exact q _ _ es2 ⟨fun j hj e => absurd e (no j (by omega)), fun e => absurd e (no 9 (by decide)), fun e => absurd e (no 10 (by decide)), fun e => absurd e (no 11 (by decide)), fun e => absurd e (no 12 (by decide)), fun e => absurd e (no 13 (by decide)), fun e => absurd e (no 14 (by decide)), fun g hg e => absurd e (no2 g hg), fun _ _ => rfl⟩
