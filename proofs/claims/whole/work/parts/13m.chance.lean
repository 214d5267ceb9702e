/-! reference: parts of a whole, chance -/
theorem sp_commonL {Q : Int64 → mg_H → Prop} {h : mg_H} {a b : Nat} (ha : a < 2 ^ 63) (hb : b < 2 ^ 63) (q : Q (lN (Nat.gcd a b)) h) : wp_commonL Q (lN a) (lN b) h := by
  unfold wp_commonL
  intro R6 c6
  have key : ∀ N y x, y ≤ N → x < 2 ^ 63 → y < 2 ^ 63 → Q (lN (Nat.gcd x y)) h → R6 (lN x) (lN y) h := by
    intro N
    induction N with
    | zero =>
      intro y x hy hx hy2 q
      have e : y = 0 := Nat.le_zero.mp hy
      subst e
      rw [Nat.gcd_zero_right] at q
      exact c6 _ _ _ (bq_t (by decide) q)
    | succ N ih =>
      intro y x hy hx hy2 q
      by_cases y0 : y = 0
      · subst y0
        rw [Nat.gcd_zero_right] at q
        exact c6 _ _ _ (bq_t (by decide) q)
      · have hy0 : ¬ lN y = 0 := fun e => y0 ((pk_lEQ (a := y) (b := 0) hy2 (by decide)).mp e)
        refine c6 _ _ _ (bq_f (fun e => hy0 ((lg_cmp_eq _ _).mp e)) ⟨hy0, ?_⟩)
        rintro _ rfl
        rw [pk_lRem hx (by omega) hy2]
        have := Nat.mod_lt x (show 0 < y by omega)
        refine ih (x % y) y (by omega) hy2 (by omega) ?_
        rw [← gcd_st]; exact q
  exact key b b a (Nat.le_refl b) ha hb q
theorem sp_partL {Q : Int64 → mg_H → Prop} {h : mg_H} {a b : Nat} {x4 : Int32} (ha : a < 2 ^ 62) (hb : b < 2 ^ 62) (hb0 : 0 < b) (q : Q (lN ((if x4 = 0 then a else b) / Nat.gcd b a)) h) : wp_partL Q (lN a) (lN b) x4 h := by
  unfold wp_partL
  intro R10 c10
  have hg : 0 < Nat.gcd b a := Nat.gcd_pos_of_pos_left _ hb0
  have hgb : Nat.gcd b a ≤ b := Nat.gcd_le_left _ hb0
  have go : ∀ u, u < 2 ^ 62 → Q (lN (u / Nat.gcd b a)) h → R10 (lN u) h := by
    intro u hu qu
    refine c10 _ _ (sp_commonL (by omega) (by omega) ⟨fun e => ?_, ?_⟩)
    · have := (pk_lEQ (a := Nat.gcd b a) (b := 0) (by omega) (by decide)).mp e
      omega
    · rw [pk_lDiv (by omega) hg (by omega)]; exact qu
  refine ⟨fun c => go a ha ?_, fun c => go b hb ?_⟩
  · rw [if_pos c] at q; exact q
  · rw [if_neg c] at q; exact q
theorem sp_chance {Q : Int32 → mg_H → Prop} {h : mg_H} {k n p M : Nat} {x4 : Int32} {z t pr : Nat → Nat} (ok : mp_shs h) (hv : 0 ≤ nI k ∧ nI k ≤ mg_i h 5 0 - 1) (hk : k < 2) (S : SR (mg_i h) k n z t pr) (hp : p ≤ 10) (hM : M ≤ 7) (q : ∀ h', mp_same h h' → Q (nI ((if x4 = 0 then CH z n (c4 t) p M else 10 ^ n) / Nat.gcd (10 ^ n) (CH z n (c4 t) p M))) h') : wp_chance Q (nI k) (nI p) (nI M) x4 h := by
  have SHh := S.sh
  have hz := SHh.zok
  have hc0 := SHh.ok
  have hm := SHh.m
  have hn4 := SHh.1
  have h10 := ten_n hn4
  have hp2 := pow_n hn4
  have hpp : 0 < 2 ^ n := Nat.pow_pos (by decide)
  have hCH := CH_le (z := z) (c0 := c4 t) (m := M) hp hn4
  unfold wp_chance
  intro R44 R62 R129 R91 c44 c62 c129 c91
  rintro _ rfl
  refine sp_inT (lo := 0) (hi := 10) (Nat.zero_le p) hp (by decide) (bq_f (by decide) (sp_inT (lo := 0) (hi := 7) (Nat.zero_le M) hM (by decide) (bq_f (by decide) (sp_hand0 ok hv hk S (fun h2 es2 H2 f23 f24 _ S2 => bq_nt (by decide) ?_)))))
  have F : ∃ F : Nat → Nat, F = fun s => if dl z (c4 t) s = M then cw p s n else 0 := ⟨_, rfl⟩
  obtain ⟨F, hF⟩ := F
  have eC : CH z n (c4 t) p M = fb_sm F (2 ^ n) := by rw [hF]; rfl
  refine lp (σ := mg_H) (R := fun s g => R44 (nI (fb_sm F s)) (nI (if s = 0 then 1 else 10 ^ n)) (nI s) g) (fun s g => md [] [39] h2 g) 0 (2 ^ n) (Nat.zero_le _) ?_ ?_ h2 md.rf
  · intro g e
    refine c44 _ _ _ _ (bq_t (by rw [(e.2 25 (by decide)).trans H2.2.1]; exact nI_lt (by omega) (by omega)) ?_)
    rw [if_neg (by omega), ← eC, nI_l (by omega), nI_l (by omega)]
    refine sp_partL (by omega) (by omega) (Nat.pow_pos (by decide)) ?_
    rw [lN_i]
    exact q g (es2.tr (e.same (by decide)))
  · intro s g _ hs e ih
    refine c44 _ _ _ _ (bq_f (by rw [(e.2 25 (by decide)).trans H2.2.1]; exact nI_nlt (by omega) (by omega)) ?_)
    refine mp_up (P := fun j => R62 (nI (fb_sm F s)) (nI (10 ^ j)) (nI s) (nI (cw p s j)) (nI j) g) (n := n) ?_ (fun j hj ih2 => ?_)
    · refine c62 _ _ _ _ _ _ (bq_t (by rw [(e.2 24 (by decide)).trans f24]; exact nI_le (Nat.le_refl n) (by omega)) ?_)
      rw [(e.2 26 (by decide)).trans H2.2.2]
      have hd7 := dl_le (z := z) (c := c4 t) (s := s) hz
      have fin : ∀ g2 u, md [] [39] h2 g2 → u = F s → R129 (nI (10 ^ n)) (nI s) (nI u) (nI (fb_sm F s)) g2 := by
        rintro g2 u e2 rfl
        refine c129 _ _ _ _ _ ?_
        rintro _ rfl _ rfl
        rw [nI_add, nI_1]
        have := ih g2 e2
        rw [if_neg (by omega)] at this
        exact this
      have go : ∀ g2, md [] [39] h2 g2 → (¬ nI (dl z (c4 t) s) = nI M → R129 (nI (10 ^ n)) (nI s) 0 (nI (fb_sm F s)) g2) ∧ (nI (dl z (c4 t) s) = nI M → R129 (nI (10 ^ n)) (nI s) (nI (cw p s n)) (nI (fb_sm F s)) g2) := by
        intro g2 e2
        refine ⟨fun c => fin g2 0 e2 ?_, fun c => fin g2 _ e2 ?_⟩
        · rw [hF]; simp only
          rw [if_neg (fun c9 => c (by rw [c9]))]
        · rw [hF]; simp only
          rw [if_pos ((nI_eq (by omega) (by omega)).mp c)]
      refine sp_next hz (fun l hl => (e.1 27 (by decide) (by decide) l).trans (H2.1 l hl)) hc0 (by omega) (fun d0 => ?_) (fun d0 => go _ (e.u0 (by decide)))
      have := go g e
      rw [d0] at this
      exact this
    · refine c62 _ _ _ _ _ _ (bq_f (by rw [(e.2 24 (by decide)).trans f24]; exact nI_ge hj (by omega)) ?_)
      have fin : ∀ u, u = (if s.testBit j then p else 10 - p) → R91 (nI (fb_sm F s)) (nI (10 ^ j)) (nI s) (nI j) (nI u) (nI (cw p s j)) g := by
        rintro u rfl
        refine c91 _ _ _ _ _ _ _ ?_
        rintro _ rfl _ rfl _ rfl
        rw [nI_1, pk_mul, nl_10, pk_mul, ← Nat.pow_succ]
        exact ih2
      refine lb_has (by omega) (by omega) (fun hb => bq_f (by decide) (fin p (by rw [if_pos hb]))) (fun hb => bq_t rfl ?_)
      rw [nl_10, pk_sub hp]
      exact fin _ (by rw [if_neg (by rw [hb]; decide)])
