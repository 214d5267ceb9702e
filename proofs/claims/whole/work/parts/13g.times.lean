/-! reference: times, the shelf's own numbers -/
def cgs (z : Nat → Nat) : Nat → Nat
  | 0 => 0
  | k + 1 => Nat.gcd (cgs z k) (z k)
def mxf (t : Nat → Nat) : Nat → Nat
  | 0 => 0
  | k + 1 => if mxf t k ≤ t k then t k else mxf t k
theorem cgs_le {z : Nat → Nat} {n : Nat} (hz : ∀ j, j < n → 1 ≤ z j ∧ z j ≤ 7) : ∀ k, k ≤ n → cgs z k ≤ 7
  | 0, _ => Nat.zero_le 7
  | k + 1, hk => by
    have := hz k (by omega)
    exact Nat.le_trans (Nat.gcd_le_right _ (by omega)) this.2
theorem mxf_le {t : Nat → Nat} (ht : ∀ j, t j ≤ 7) : ∀ k, mxf t k ≤ 7
  | 0 => Nat.zero_le 7
  | k + 1 => by
    have h1 := mxf_le ht k
    have h2 := ht k
    unfold mxf
    split <;> omega
theorem sp_common {Q : Int32 → mg_H → Prop} {h : mg_H} {a b : Nat} (ha : a < 2 ^ 31) (hb : b < 2 ^ 31) (q : Q (nI (Nat.gcd a b)) h) : wp_common Q (nI a) (nI b) h := by
  unfold wp_common
  intro R4 c4
  have key : ∀ N y x, y ≤ N → x < 2 ^ 31 → y < 2 ^ 31 → Q (nI (Nat.gcd x y)) h → R4 (nI x) (nI y) h := by
    intro N
    induction N with
    | zero =>
      intro x y hy hx hy2 q
      have e : x = 0 := Nat.le_zero.mp hy
      subst e
      rw [Nat.gcd_zero_right] at q
      exact c4 _ _ _ (bq_t rfl q)
    | succ N ih =>
      intro y x hy hx hy2 q
      by_cases y0 : y = 0
      · subst y0
        rw [Nat.gcd_zero_right] at q
        exact c4 _ _ _ (bq_t rfl q)
      · have hy0 : ¬ nI y = 0 := fun e => y0 ((nI_eq (a := y) (b := 0) hy2 (by decide)).mp e)
        refine c4 _ _ _ (bq_f hy0 ⟨hy0, ?_⟩)
        rintro _ rfl
        rw [pk_rem hx (by omega) hy2]
        have := Nat.mod_lt x (show 0 < y by omega)
        refine ih (x % y) y (by omega) hy2 (by omega) ?_
        rw [← gcd_st]; exact q
  exact key b b a (Nat.le_refl b) ha hb q
theorem sp_commonSize {Q : Int32 → mg_H → Prop} {h : mg_H} {n : Nat} {z t : Nat → Nat} (hn : n ≤ 4) (hzr : ∀ j, j < n → 1 ≤ z j ∧ z j ≤ 7) (h24 : mg_i h 0 24 = nI n) (h27 : ∀ j, j < 4 → mg_i h 27 j = nI (z j)) (q : Q (nI (cgs z n)) h) : wp_commonSize Q h := by
  unfold wp_commonSize
  intro R4 c4
  refine mp_up (P := fun k => R4 (nI (cgs z k)) (nI k) h) (n := n) (c4 _ _ _ (bq_t (by rw [h24]; exact nI_le (Nat.le_refl n) (by omega)) q)) (fun k hk ih => c4 _ _ _ (bq_f (by rw [h24]; exact nI_ge hk (by omega)) ?_))
  have hg := cgs_le hzr k (by omega)
  have hzk := hzr k hk
  rw [nI_clamp (by omega), h27 k (by omega)]
  refine ⟨vp_in_nI (show k < 4 by omega) (by decide), sp_common (by omega) (by omega) ?_⟩
  rintro _ rfl
  rw [nI_1]; exact ih
theorem sp_sand {Q : Int32 → mg_H → Prop} {h : mg_H} {n : Nat} {t : Nat → Nat} (hn : n ≤ 4) (h24 : mg_i h 0 24 = nI n) (h28 : ∀ j, j < 4 → mg_i h 28 j = nI (t j)) (q : Q (nI (fb_sm t n)) h) : wp_sand Q h := by
  unfold wp_sand
  intro R4 c4
  refine mp_up (P := fun k => R4 (nI (fb_sm t k)) (nI k) h) (n := n) (c4 _ _ _ (bq_t (by rw [h24]; exact nI_le (Nat.le_refl n) (by omega)) q)) (fun k hk ih => c4 _ _ _ (bq_f (by rw [h24]; exact nI_ge hk (by omega)) ?_))
  rw [nI_clamp (by omega), h28 k (by omega)]
  refine ⟨vp_in_nI (show k < 4 by omega) (by decide), ?_⟩
  rintro _ rfl _ rfl
  rw [nI_1, nI_add]; exact ih
theorem sp_dry {Q : Int32 → mg_H → Prop} {h : mg_H} {n : Nat} {t : Nat → Nat} (hn : n ≤ 4) (ht : ∀ j, t j ≤ 7) (h24 : mg_i h 0 24 = nI n) (h28 : ∀ j, j < 4 → mg_i h 28 j = nI (t j)) (q : Q (nI (mxf t n)) h) : wp_dry Q h := by
  unfold wp_dry
  intro R4 c4
  refine mp_up (P := fun k => R4 (nI (mxf t k)) (nI k) h) (n := n) (c4 _ _ _ (bq_t (by rw [h24]; exact nI_le (Nat.le_refl n) (by omega)) q)) (fun k hk ih => c4 _ _ _ (bq_f (by rw [h24]; exact nI_ge hk (by omega)) ?_))
  rw [nI_clamp (by omega), h28 k (by omega)]
  refine ⟨vp_in_nI (show k < 4 by omega) (by decide), sp_greater ?_⟩
  rintro _ rfl
  have h1 := mxf_le ht k
  have h2 := ht k
  have e9 : (if nI (mxf t k) ≤ nI (t k) then nI (t k) else nI (mxf t k)) = nI (mxf t (k + 1)) := by
    show _ = nI (if mxf t k ≤ t k then t k else mxf t k)
    by_cases h9 : mxf t k ≤ t k
    · rw [if_pos h9, if_pos ((nI_leI (by omega) (by omega)).mpr h9)]
    · rw [if_neg h9, if_neg (nI_leI' (by omega) (by omega) h9)]
  rw [e9, nI_1]; exact ih
theorem isB_bit {k : Nat} (hk : k < 31) : isB (nI (2 ^ k)) (fun i => i = k) := ⟨2 ^ k, rfl, bs_bit hk⟩
theorem sp_even {Q : Int32 → mg_H → Prop} {h : mg_H} {n : Nat} {z t : Nat → Nat} (hn : n ≤ 4) (hzt : ∀ j, z j ≤ 7 ∧ t j ≤ 7) (h24 : mg_i h 0 24 = nI n) (h27 : ∀ j, j < 4 → mg_i h 27 j = nI (z j)) (h28 : ∀ j, j < 4 → mg_i h 28 j = nI (t j)) (q : ∀ v, isB v (fun g => g < n ∧ 2 * t g = z g) → Q v h) : wp_even Q h := by
  unfold wp_even
  intro R4 R37 c4 c37
  refine lp (σ := Int32) (R := fun k v => R4 v (nI k) h) (fun k v => isB v (fun g => g < k ∧ 2 * t g = z g)) 0 n (Nat.zero_le n) ?_ ?_ (nI 0) (isB_0 (fun i hi => absurd hi.1 (Nat.not_lt_zero i)))
  · intro v hv
    exact c4 _ _ _ (bq_t (by rw [h24]; exact nI_le (Nat.le_refl n) (by omega)) (q v hv))
  · intro k v _ hk hv ih
    have hk2 := hzt k
    have fin : ∀ u p, isB u p → (∀ g, (g < k ∧ 2 * t g = z g) ∨ p g ↔ (g < k + 1 ∧ 2 * t g = z g)) → R37 (nI k) u v h := by
      intro u p hu hp
      refine c37 _ _ _ _ ?_
      rintro _ rfl _ rfl
      rw [nI_1]
      exact ih _ ((isB_or hv hu).congr hp)
    refine c4 _ _ _ (bq_f (by rw [h24]; exact nI_ge hk (by omega)) ?_)
    rw [nI_clamp (by omega), h28 k (by omega), h27 k (by omega), nl_2, pk_mul]
    refine ⟨vp_in_nI (show k < 4 by omega) (by decide), vp_in_nI (show k < 4 by omega) (by decide), fun c => ?_, fun c => ?_⟩
    · have c9 : ¬ 2 * t k = z k := fun e => c (by rw [e])
      refine fin (nI 0) (fun _ => False) (isB_0 (fun _ => id)) (fun g => ⟨fun hg => ?_, fun hg => Or.inl ⟨?_, hg.2⟩⟩)
      · exact hg.elim (fun hg => ⟨by omega, hg.2⟩) False.elim
      · rcases Nat.lt_or_ge g k with h9 | h9
        · exact h9
        · have e : g = k := by omega
          rw [e] at hg
          exact absurd hg.2 c9
    · have c9 := (nI_eq (by omega) (by omega)).mp c
      rw [bit_I (by omega)]
      refine fin _ _ (isB_bit (by omega)) (fun g => ⟨fun hg => ?_, fun hg => ?_⟩)
      · rcases hg with hg | rfl
        · exact ⟨by omega, hg.2⟩
        · exact ⟨by omega, c9⟩
      · rcases Nat.lt_or_ge g k with h9 | h9
        · exact Or.inl ⟨h9, hg.2⟩
        · exact Or.inr (by omega)
theorem sp_like {Q : Int32 → mg_H → Prop} {h : mg_H} {n : Nat} {z t : Nat → Nat} (hn : n ≤ 4) (hzt : ∀ j, z j ≤ 7 ∧ t j ≤ 7) (h24 : mg_i h 0 24 = nI n) (h27 : ∀ j, j < 4 → mg_i h 27 j = nI (z j)) (h28 : ∀ j, j < 4 → mg_i h 28 j = nI (t j)) (q : Q (nI (cpl n (fun a b => z a = z b ∧ t a = t b))) h) : wp_like Q h := by
  unfold wp_like
  intro R4 R14 R54 R55 c4 c14 c54 c55
  refine mp_up (P := fun a => R4 (nI (cpl a (fun a b => z a = z b ∧ t a = t b))) (nI a) h) (n := n) (c4 _ _ _ (bq_t (by rw [h24]; exact nI_le (Nat.le_refl n) (by omega)) q)) (fun a ha ih => c4 _ _ _ (bq_f (by rw [h24]; exact nI_ge ha (by omega)) ?_))
  refine mp_up (P := fun b => R14 (nI (cpl a (fun a b => z a = z b ∧ t a = t b) + fb_sm (fun b => if dcd (z a = z b ∧ t a = t b) then 1 else 0) b)) (nI a) (nI b) h) (n := a) ?_ (fun b hb ih2 => ?_)
  · refine c14 _ _ _ _ (bq_t (nI_le (Nat.le_refl a) (by omega)) ?_)
    rintro _ rfl
    rw [nI_1]; exact ih
  · have join : ∀ u, u = (if dcd (z a = z b ∧ t a = t b) then 1 else 0) → R55 (nI a) (nI b) (nI u) (nI (cpl a (fun a b => z a = z b ∧ t a = t b) + fb_sm (fun b => if dcd (z a = z b ∧ t a = t b) then 1 else 0) b)) h := by
      rintro u rfl
      refine c55 _ _ _ _ _ ?_
      rintro _ rfl _ rfl
      rw [nI_add, nI_1, Nat.add_assoc]; exact ih2
    have za := hzt a
    have zb := hzt b
    refine c14 _ _ _ _ (bq_f (nI_ge hb (by omega)) ?_)
    rw [nI_clamp (n := a) (by omega), nI_clamp (n := b) (by omega), h27 a (by omega), h27 b (by omega), h28 a (by omega), h28 b (by omega)]
    refine ⟨vp_in_nI (show a < 4 by omega) (by decide), vp_in_nI (show b < 4 by omega) (by decide), fun c => ?_, fun c => ⟨vp_in_nI (show a < 4 by omega) (by decide), vp_in_nI (show b < 4 by omega) (by decide), fun d => ?_, fun d => ?_⟩⟩
    · exact c54 _ _ _ _ (join 0 (by rw [dcd_f.mpr (fun e => c (by rw [e.1]))]; rfl))
    · exact c54 _ _ _ _ (join 0 (by rw [dcd_f.mpr (fun e => d (by rw [e.2]))]; rfl))
    · have c9 := (nI_eq (by omega) (by omega)).mp c
      have d9 := (nI_eq (by omega) (by omega)).mp d
      exact join 1 (by rw [dcd_iff.mpr ⟨c9, d9⟩]; rfl)
/-- the greatest, as a number -/
def mxp (P : Nat → Prop) (x : Nat) : Prop := (x = 0 ∨ P x) ∧ ∀ d, P d → d ≤ x
theorem mxp_add {P P' : Nat → Prop} {x e : Nat} (h : mxp P x) (hp : ∀ d, P' d ↔ (P d ∨ d = e)) : mxp P' (if x ≤ e then e else x) := by
  obtain ⟨a, b⟩ := h
  by_cases h9 : x ≤ e
  · rw [if_pos h9]
    refine ⟨Or.inr ((hp e).mpr (Or.inr rfl)), fun d hd => ?_⟩
    rcases (hp d).mp hd with h | h
    · exact Nat.le_trans (b d h) h9
    · omega
  · rw [if_neg h9]
    refine ⟨a.imp id (fun a => (hp x).mpr (Or.inl a)), fun d hd => ?_⟩
    rcases (hp d).mp hd with h | h
    · exact b d h
    · omega
theorem mxp_congr {P P' : Nat → Prop} {x : Nat} (h : mxp P x) (hp : ∀ d, P d ↔ P' d) : mxp P' x := ⟨h.1.imp id (fun a => (hp x).mp a), fun d hd => h.2 d ((hp d).mpr hd)⟩
def SP (z : Nat → Nat) (m c0 k d : Nat) : Prop := ∃ i s, i < k ∧ rc z m c0 (i / 4096) (i % 4096) ∧ s ≤ m ∧ d = dl z (i % 4096) s
theorem sp_still {Q : Int32 → mg_H → Prop} {h : mg_H} {z : Nat → Nat} {m c0 : Nat} {wt : Nat → Nat} (H : HS h z m c0) (hz : zok z) (hm : m < 16) (hc0 : okc z c0) (hB : ∀ s, s ≤ m → wt s ≤ 40) (C : CL z m wt (fun a => a = c0) 0 30 h) (q : ∀ v h', md [] [39] h h' → isMx (fun d => ∃ T c s, T ≤ 30 ∧ rc z m c0 T c ∧ s ≤ m ∧ d = dl z c s) v → Q v h') : wp_still Q h := by
  unfold wp_still
  intro R4 R12 R51 c4' c12 c51
  refine lp (σ := mg_H × Nat) (R := fun k s => R4 (nI s.2) (nI k) s.1) (fun k s => md [] [39] h s.1 ∧ s.2 ≤ 7 ∧ mxp (SP z m c0 k) s.2) 0 126976 (Nat.zero_le _) ?_ ?_ (h, 0) ⟨md.rf, Nat.zero_le 7, Or.inl rfl, fun d ⟨i, s, a, _⟩ => absurd a (Nat.not_lt_zero i)⟩
  · rintro ⟨s, x⟩ ⟨e, hx, hM⟩
    refine c4' _ _ _ (bq_t (by decide) (q _ _ e ⟨x, rfl, hM.1.imp id ?_, ?_⟩))
    · rintro ⟨i, s', a, b, c, d⟩
      exact ⟨i / 4096, i % 4096, s', by omega, b, c, d⟩
    · rintro d ⟨T, c, s', a, b, f, g⟩
      have hc : c < 4096 := by
        obtain ⟨k, w, hp⟩ := b
        exact (pt_ok hz hp hc0).1
      refine hM.2 d ⟨4096 * T + c, s', by omega, ?_, f, ?_⟩
      · rw [show (4096 * T + c) / 4096 = T by omega, show (4096 * T + c) % 4096 = c by omega]; exact b
      · rw [show (4096 * T + c) % 4096 = c by omega]; exact g
  · rintro k ⟨s, x⟩ _ hk ⟨e, hx, hM⟩ ih
    have nxt : ∀ s2 x2, md [] [39] h s2 → x2 ≤ 7 → mxp (SP z m c0 (k + 1)) x2 → R51 (nI x2) (nI k) s2 := by
      intro s2 x2 e2 hx2 hM2
      refine c51 _ _ _ ?_
      rintro _ rfl
      rw [nI_1]; exact ih (s2, x2) ⟨e2, hx2, hM2⟩
    have hcr := CL_rc hB C (t := k / 4096) (c := k % 4096) (by omega) (by omega)
    rw [show 4096 * (k / 4096) + k % 4096 = k by omega] at hcr
    have stp : ∀ d, SP z m c0 (k + 1) d ↔ (SP z m c0 k d ∨ (rc z m c0 (k / 4096) (k % 4096) ∧ ∃ s', s' ≤ m ∧ d = dl z (k % 4096) s')) := by
      intro d
      constructor
      · rintro ⟨i, s', a, b, c, f⟩
        rcases Nat.lt_or_ge i k with h9 | h9
        · exact Or.inl ⟨i, s', h9, b, c, f⟩
        · have e : i = k := by omega
          subst e
          exact Or.inr ⟨b, s', c, f⟩
      · rintro (⟨i, s', a, b⟩ | ⟨b, s', c, f⟩)
        · exact ⟨i, s', by omega, b⟩
        · exact ⟨k, s', by omega, b, c, f⟩
    refine c4' _ _ _ (bq_f (nI_ge hk (by decide)) ?_)
    by_cases hr : rc z m c0 (k / 4096) (k % 4096)
    · have hok : okc z (k % 4096) := by
        obtain ⟨j, w, hp⟩ := hr
        exact pt_ok hz hp hc0
      refine lp (σ := mg_H × Nat) (R := fun j s => R12 (nI s.2) (nI k) (nI j) s.1) (fun j s => md [] [39] h s.1 ∧ s.2 ≤ 7 ∧ mxp (fun d => SP z m c0 k d ∨ ∃ s', s' < j ∧ d = dl z (k % 4096) s') s.2) 0 (m + 1) (Nat.zero_le _) ?_ ?_ (s, x) ⟨e, hx, mxp_congr hM (fun d => ⟨Or.inl, fun hd => hd.elim id (fun ⟨s', a, _⟩ => absurd a (Nat.not_lt_zero s'))⟩)⟩
      · rintro ⟨s2, x2⟩ ⟨e2, hx2, hM2⟩
        refine c12 _ _ _ _ (bq_t (by rw [(e2.2 25 (by decide)).trans H.2.1]; exact nI_lt (by omega) (by omega)) (nxt s2 x2 e2 hx2 (mxp_congr hM2 (fun d => ?_))))
        rw [stp d]
        refine or_congr_right ⟨fun ⟨s', a, b⟩ => ⟨hr, s', by omega, b⟩, fun ⟨_, s', a, b⟩ => ⟨s', by omega, b⟩⟩
      · rintro j ⟨s2, x2⟩ _ hj ⟨e2, hx2, hM2⟩ ih2
        have hd7 := dl_le (z := z) (c := k % 4096) (s := j) hz
        have join : ∀ s3, md [] [39] h s3 → wp_greater (fun r4 h3 => ∀ z5 : Int32, z5 = nI j + 1 → R12 r4 (nI k) z5 h3) (nI x2) (nI (dl z (k % 4096) j)) s3 := by
          intro s3 e3
          refine sp_greater ?_
          rintro _ rfl
          have e9 : (if nI x2 ≤ nI (dl z (k % 4096) j) then nI (dl z (k % 4096) j) else nI x2) = nI (if x2 ≤ dl z (k % 4096) j then dl z (k % 4096) j else x2) := by
            by_cases h9 : x2 ≤ dl z (k % 4096) j
            · rw [if_pos h9, if_pos ((nI_leI (by omega) (by omega)).mpr h9)]
            · rw [if_neg h9, if_neg (nI_leI' (by omega) (by omega) h9)]
          rw [e9, nI_1]
          have h7 : (if x2 ≤ dl z (k % 4096) j then dl z (k % 4096) j else x2) ≤ 7 := by
            have : x2 ≤ 7 := hx2
            split <;> omega
          refine ih2 (s3, if x2 ≤ dl z (k % 4096) j then dl z (k % 4096) j else x2) ⟨e3, h7, mxp_add hM2 (fun d => ?_)⟩
          constructor
          · rintro (a | ⟨s', a, b⟩)
            · exact Or.inl (Or.inl a)
            · rcases Nat.lt_or_ge s' j with h9 | h9
              · exact Or.inl (Or.inr ⟨s', h9, b⟩)
              · have e : s' = j := by omega
                rw [e] at b
                exact Or.inr b
          · rintro ((a | ⟨s', a, b⟩) | a)
            · exact Or.inl a
            · exact Or.inr ⟨s', by omega, b⟩
            · exact Or.inr ⟨j, by omega, a⟩
        refine c12 _ _ _ _ (bq_f (by rw [(e2.2 25 (by decide)).trans H.2.1]; exact nI_nlt (by omega) (by omega)) ?_)
        rw [nI_clamp (n := k) (by omega), e2.1 40 (by decide) (by decide), nl_4096, pk_rem (by omega) (by decide) (by decide)]
        refine ⟨vp_in_nI (show k < 126976 by omega) (by decide), bq_f (fun c => hcr.mp c hr) ?_⟩
        exact sp_next hz (fun i hi => (e2.1 27 (by decide) (by decide) i).trans (H.1 i hi)) hok (by omega) (fun hd => by have := join s2 e2; rw [hd] at this; exact this) (fun hd => join _ (e2.u0 (by decide)))
    · refine c12 _ _ _ _ (bq_f (by rw [(e.2 25 (by decide)).trans H.2.1]; exact nI_nlt (b := 0) (Nat.zero_le m) (by omega)) ?_)
      rw [nI_clamp (n := k) (by omega), e.1 40 (by decide) (by decide)]
      refine ⟨vp_in_nI (show k < 126976 by omega) (by decide), bq_t (hcr.mpr hr) (nxt s x e hx (mxp_congr hM (fun d => ?_)))⟩
      rw [stp d]
      exact ⟨Or.inl, fun hd => hd.elim id (fun a => absurd a.1 hr)⟩
