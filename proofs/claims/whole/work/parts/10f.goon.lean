/-! the reference: goOn, layOut, leastAt, bitsOf -/
/-- (t0, b, s0) comes ahead of (t, c, s) -/
def bef (t0 b s0 t c s : Nat) : Prop := t0 < t ∨ t0 = t ∧ (b < c ∨ b = c ∧ s0 < s)
/-- weights of rows from a start in I at minute F to the code c' at minute t', the last step of which is ahead of (t, c, s) -/
def PP (z : Nat → Nat) (m : Nat) (wt : Nat → Nat) (I : Nat → Prop) (F t c s t' c' w : Nat) : Prop :=
  (t' = F ∧ I c' ∧ w = 0) ∨ ∃ a k t0 b s0 w0, I a ∧ F ≤ t0 ∧ pt z m wt k a (t0 - F) b w0 ∧ sb s0 m ∧ 0 < dl z b s0 ∧ t' = t0 + dl z b s0 ∧ c' = nc z b s0 ∧ w = w0 + wt s0 ∧ bef t0 b s0 t c s
/-- all of them -/
def PF (z : Nat → Nat) (m : Nat) (wt : Nat → Nat) (I : Nat → Prop) (F t' c' w : Nat) : Prop := ∃ a k, I a ∧ pt z m wt k a (t' - F) c' w
theorem PP_full {z : Nat → Nat} {m : Nat} {wt : Nat → Nat} {I : Nat → Prop} {F t c s t' c' w : Nat} (hF : F ≤ t') (ht : t' ≤ t) : PP z m wt I F t c s t' c' w ↔ PF z m wt I F t' c' w := by
  constructor
  · rintro (⟨rfl, h1, rfl⟩ | ⟨a, k, t0, b, s0, w0, h1, h2, h3, h4, h5, rfl, rfl, rfl, h9⟩)
    · exact ⟨c', 0, h1, by omega, rfl, rfl⟩
    · refine ⟨a, k + 1, h1, ?_⟩
      have := pt_add h3 h4 h5
      rw [show t0 + dl z b s0 - F = t0 - F + dl z b s0 by omega]
      exact this
  · rintro ⟨a, k, h1, h2⟩
    cases k with
    | zero =>
      obtain ⟨e1, rfl, rfl⟩ := h2
      exact Or.inl ⟨by omega, h1, rfl⟩
    | succ k =>
      obtain ⟨s0, t2, w2, b, g1, g2, g3, g4, g5, g6⟩ := pt_snoc h2
      refine Or.inr ⟨a, k, F + t2, b, s0, w2, h1, by omega, ?_, g2, g3, by omega, g6, g5, Or.inl (by omega)⟩
      rw [show F + t2 - F = t2 by omega]; exact g1
/-- one set more -/
theorem PP_step {z : Nat → Nat} {m : Nat} {wt : Nat → Nat} {I : Nat → Prop} {F t c s t' c' w : Nat} (hF : F ≤ t) : PP z m wt I F t c (s + 1) t' c' w ↔ PP z m wt I F t c s t' c' w ∨ ((sb s m ∧ 0 < dl z c s ∧ t' = t + dl z c s ∧ c' = nc z c s) ∧ ∃ w0, PF z m wt I F t c w0 ∧ w = w0 + wt s) := by
  constructor
  · rintro (h | ⟨a, k, t0, b, s0, w0, h1, h2, h3, h4, h5, h6, h7, h8, h9⟩)
    · exact Or.inl (Or.inl h)
    · rcases h9 with h9 | ⟨rfl, h9 | ⟨rfl, h9⟩⟩
      · exact Or.inl (Or.inr ⟨a, k, t0, b, s0, w0, h1, h2, h3, h4, h5, h6, h7, h8, Or.inl h9⟩)
      · exact Or.inl (Or.inr ⟨a, k, t0, b, s0, w0, h1, h2, h3, h4, h5, h6, h7, h8, Or.inr ⟨rfl, Or.inl h9⟩⟩)
      · rcases Nat.lt_or_ge s0 s with h10 | h10
        · exact Or.inl (Or.inr ⟨a, k, t0, b, s0, w0, h1, h2, h3, h4, h5, h6, h7, h8, Or.inr ⟨rfl, Or.inr ⟨rfl, h10⟩⟩⟩)
        · have e : s0 = s := by omega
          subst e
          exact Or.inr ⟨⟨h4, h5, h6, h7⟩, w0, ⟨a, k, h1, h3⟩, h8⟩
  · rintro (h | ⟨⟨h4, h5, h6, h7⟩, w0, ⟨a, k, h1, h3⟩, h8⟩)
    · rcases h with h | ⟨a, k, t0, b, s0, w0, h1, h2, h3, h4, h5, h6, h7, h8, h9⟩
      · exact Or.inl h
      · refine Or.inr ⟨a, k, t0, b, s0, w0, h1, h2, h3, h4, h5, h6, h7, h8, ?_⟩
        unfold bef at *
        omega
    · exact Or.inr ⟨a, k, t, c, s, w0, h1, hF, h3, h4, h5, h6, h7, h8, Or.inr ⟨rfl, Or.inr ⟨rfl, by omega⟩⟩⟩
/-- the next code: nothing is left of this one -/
theorem PP_next {z : Nat → Nat} {m : Nat} {wt : Nat → Nat} {I : Nat → Prop} {F t c s t' c' w : Nat} (h : m < s ∨ ∀ w, ¬ PF z m wt I F t c w) : PP z m wt I F t (c + 1) 0 t' c' w ↔ PP z m wt I F t c s t' c' w := by
  constructor
  · rintro (h' | ⟨a, k, t0, b, s0, w0, h1, h2, h3, h4, h5, h6, h7, h8, h9⟩)
    · exact Or.inl h'
    · refine Or.inr ⟨a, k, t0, b, s0, w0, h1, h2, h3, h4, h5, h6, h7, h8, ?_⟩
      rcases h9 with h9 | ⟨rfl, h9 | ⟨rfl, h9⟩⟩
      · exact Or.inl h9
      · rcases Nat.lt_or_ge b c with h10 | h10
        · exact Or.inr ⟨rfl, Or.inl h10⟩
        · have e : b = c := by omega
          subst e
          rcases h with h | h
          · have := sb_le h4
            exact Or.inr ⟨rfl, Or.inr ⟨rfl, by omega⟩⟩
          · exact absurd ⟨a, k, h1, h3⟩ (h w0)
      · omega
  · rintro (h' | ⟨a, k, t0, b, s0, w0, h1, h2, h3, h4, h5, h6, h7, h8, h9⟩)
    · exact Or.inl h'
    · refine Or.inr ⟨a, k, t0, b, s0, w0, h1, h2, h3, h4, h5, h6, h7, h8, ?_⟩
      unfold bef at *
      omega
theorem PP_row {z : Nat → Nat} {m : Nat} {wt : Nat → Nat} {I : Nat → Prop} {F t t' c' w : Nat} (hz : zok z) (hI : ∀ a, I a → okc z a) : PP z m wt I F (t + 1) 0 0 t' c' w ↔ PP z m wt I F t 4096 0 t' c' w := by
  constructor
  · rintro (h' | ⟨a, k, t0, b, s0, w0, h1, h2, h3, h4, h5, h6, h7, h8, h9⟩)
    · exact Or.inl h'
    · have := (pt_ok hz h3 (hI a h1)).1
      refine Or.inr ⟨a, k, t0, b, s0, w0, h1, h2, h3, h4, h5, h6, h7, h8, ?_⟩
      unfold bef at *
      omega
  · rintro (h' | ⟨a, k, t0, b, s0, w0, h1, h2, h3, h4, h5, h6, h7, h8, h9⟩)
    · exact Or.inl h'
    · refine Or.inr ⟨a, k, t0, b, s0, w0, h1, h2, h3, h4, h5, h6, h7, h8, ?_⟩
      unfold bef at *
      omega
theorem PF_le {z : Nat → Nat} {m B : Nat} {wt : Nat → Nat} {I : Nat → Prop} {F t' c' w : Nat} (hB : ∀ s, s ≤ m → wt s ≤ B) (h : PF z m wt I F t' c' w) : w ≤ (t' - F) * B := by
  obtain ⟨a, k, h1, h2⟩ := h
  have h3 := pt_w hB h2
  have h4 := pt_k h2
  exact Nat.le_trans h3 (Nat.mul_le_mul_right B h4)
theorem PP_le {z : Nat → Nat} {m B : Nat} {wt : Nat → Nat} {I : Nat → Prop} {F t c s t' c' w : Nat} (hB : ∀ s, s ≤ m → wt s ≤ B) (h : PP z m wt I F t c s t' c' w) : w ≤ (t' - F) * B := by
  rcases h with ⟨rfl, h1, rfl⟩ | ⟨a, k, t0, b, s0, w0, h1, h2, h3, h4, h5, rfl, rfl, rfl, h9⟩
  · omega
  · refine PF_le (z := z) (I := I) (c' := nc z b s0) hB ⟨a, k + 1, h1, ?_⟩
    rw [show t0 + dl z b s0 - F = t0 - F + dl z b s0 by omega]
    exact pt_add h3 h4 h5
theorem sb_I : ∀ s, s < 16 → ∀ m, m < 16 → ((nI s &&& (nI m ^^^ (-1))) = 0 ↔ s &&& m = s) := by decide +kernel
/-- the costs laid out: of every minute F .. T and code the least weight -/
def CL (z : Nat → Nat) (m : Nat) (wt : Nat → Nat) (I : Nat → Prop) (F T : Nat) (g : mg_H) : Prop := ∀ t c, F ≤ t → t ≤ T → c < 4096 → lst (PF z m wt I F t c) (mg_i g 40 (4096 * t + c))
theorem sp_goOn {Q : mg_H → Prop} {h : mg_H} {z : Nat → Nat} {m F T : Nat} {x3 : Int32} {wt : Nat → Nat} (I : Nat → Prop) (hz : zok z) (hm : m < 16) (hFT : F ≤ T) (hT : T ≤ 30) (hs : ∀ j, j < 4 → mg_i h 27 j = nI (z j)) (h25 : mg_i h 0 25 = nI m) (hI : ∀ a, I a → okc z a) (hw : ∀ h', md [40] [39] h h' → ∀ s, s < 16 → sb s m → ∀ Q : Int32 → mg_H → Prop, Q (nI (wt s)) h' → wp_costOf Q (nI s) x3 h') (hwB : ∀ s, s ≤ m → wt s ≤ 40) (hi : ∀ c, c < 4096 → lst (fun w => I c ∧ w = 0) (mg_i h 40 (4096 * F + c))) (hcl : ∀ t c, F < t → t ≤ T → c < 4096 → mg_i h 40 (4096 * t + c) = nM) (q : ∀ h', md [40] [39] h h' → (∀ j, (j < 4096 * F ∨ 4096 * (T + 1) ≤ j) → mg_i h' 40 j = mg_i h 40 j) → CL z m wt I F T h' → Q h') : wp_goOn Q (nI F) (nI T) x3 h := by
  unfold wp_goOn
  intro R3 R12 R39 R128 R78 R122 c3 c12 c39 c128 c78 c122
  -- what holds
  have J : ∃ J : Nat → Nat → Nat → mg_H → Prop, ∀ t c s h', J t c s h' ↔ (md [40] [39] h h' ∧ (∀ j, (j < 4096 * F ∨ 4096 * (T + 1) ≤ j) → mg_i h' 40 j = mg_i h 40 j) ∧ ∀ t' c', F ≤ t' → t' ≤ T → c' < 4096 → lst (PP z m wt I F t c s t' c') (mg_i h' 40 (4096 * t' + c'))) := ⟨_, fun _ _ _ _ => Iff.rfl⟩
  obtain ⟨J, hJ⟩ := J
  refine lp (σ := mg_H) (R := fun t s => R3 (nI t) s) (fun t s => J t 0 0 s) F T hFT ?_ ?_ h ?_
  · intro g hg
    obtain ⟨i1, i2, i3⟩ := (hJ _ _ _ _).mp hg
    refine c3 _ _ (bq_t (nI_le (Nat.le_refl _) (by omega)) (q g i1 i2 (fun t c h1 h2 h3 => ?_)))
    exact lst_congr (i3 t c h1 h2 h3) (fun w => PP_full h1 h2)
  · intro t g hFt htT hg ih
    refine c3 _ _ (bq_f (nI_ge htT (by omega)) ?_)
    refine lp (σ := mg_H) (R := fun c s => R12 (nI t) (nI c) s) (fun c s => J t c 0 s) 0 4096 (by omega) ?_ ?_ g hg
    · intro g hg
      refine c12 _ _ _ (bq_t (by decide) ?_)
      rintro z1 rfl
      rw [nI_1]
      refine ih g ((hJ _ _ _ _).mpr ?_)
      obtain ⟨i1, i2, i3⟩ := (hJ _ _ _ _).mp hg
      exact ⟨i1, i2, fun t' c' h1 h2 h3 => lst_congr (i3 t' c' h1 h2 h3) (fun w => (PP_row hz hI).symm)⟩
    · intro c g _ hc hg ih2
      have e1 : 4096 * nI t + nI c = nI (4096 * t + c) := by rw [nl_4096, pk_mul, nI_add]
      refine c12 _ _ _ (bq_f (nI_ge hc (by decide)) ?_)
      rw [e1, nI_clamp (by omega)]
      refine ⟨vp_in_nI (show 4096 * t + c < 126976 by omega) (by decide), ?_⟩
      intro had ehad
      have fin : ∀ s g, (m < s ∨ ∀ w, ¬ PF z m wt I F t c w) → J t c s g → R128 (nI t) (nI c) g := by
        intro s g hs2 hg
        refine c128 _ _ _ ?_
        rintro z5 rfl
        rw [nI_1]
        obtain ⟨i1, i2, i3⟩ := (hJ _ _ _ _).mp hg
        exact ih2 g ((hJ _ _ _ _).mpr ⟨i1, i2, fun t' c' h1 h2 h3 => lst_congr (i3 t' c' h1 h2 h3) (fun w => (PP_next hs2).symm)⟩)
      have hhad : lst (PF z m wt I F t c) had := by
        obtain ⟨i1, i2, i3⟩ := (hJ _ _ _ _).mp hg
        rw [ehad]
        exact lst_congr (i3 t c hFt (by omega) hc) (fun w => PP_full hFt (Nat.le_refl t))
      have k25 : ∀ g, md [40] [39] h g → mg_i g 0 25 = nI m := fun g i1 => (i1.2 25 (by decide)).trans h25
      rcases hhad with ⟨e0, hno⟩ | ⟨m0, e0, hm0, hl0⟩
      · obtain ⟨i1, i2, i3⟩ := (hJ _ _ _ _).mp hg
        refine c39 _ _ _ _ _ (bq_f ?_ (bq_t e0 (fin 0 g (Or.inr hno) hg)))
        rw [k25 g i1]; exact nI_nlt (Nat.zero_le m) (by omega)
      · have hm0b : m0 ≤ 1200 := by
          have h1 := PF_le hwB hm0
          have h2 := Nat.mul_le_mul_right 40 (show t - F ≤ 30 by omega)
          omega
        have hokc : okc z c := by
          obtain ⟨a, k, h1, h2⟩ := hm0
          exact pt_ok hz h2 (hI a h1)
        rw [e0]
        refine lp (σ := mg_H) (R := fun s g => R39 (nI t) (nI c) (nI m0) (nI s) g) (fun s g => J t c s g) 0 (m + 1) (by omega) ?_ ?_ g hg
        · intro g hg
          obtain ⟨i1, i2, i3⟩ := (hJ _ _ _ _).mp hg
          refine c39 _ _ _ _ _ (bq_t ?_ (fin (m + 1) g (Or.inl (by omega)) hg))
          rw [k25 g i1]; exact nI_lt (by omega) (by omega)
        · intro s g _ hsm hg ih3
          obtain ⟨i1, i2, i3⟩ := (hJ _ _ _ _).mp hg
          have nxt : ∀ g', J t c (s + 1) g' → R122 (nI t) (nI c) (nI m0) (nI s) g' := by
            intro g' hg'
            refine c122 _ _ _ _ _ ?_
            rintro z9 rfl
            rw [nI_1]; exact ih3 g' hg'
          -- nothing comes of this set
          have no : ∀ g', md [40] [39] g g' → (∀ j, mg_i g' 40 j = mg_i g 40 j) → (¬ (sb s m ∧ 0 < dl z c s ∧ t + dl z c s ≤ T)) → J t c (s + 1) g' := by
            intro g' k1 k2 k3
            refine (hJ _ _ _ _).mpr ⟨i1.tr k1, fun j hj => (k2 j).trans (i2 j hj), fun t' c' h1 h2 h3 => ?_⟩
            rw [k2]
            refine lst_congr (i3 t' c' h1 h2 h3) (fun w => ?_)
            rw [PP_step hFt]
            refine ⟨Or.inl, fun q => q.elim id (fun ⟨⟨q1, q2, q3, q4⟩, _⟩ => absurd ⟨q1, q2, by omega⟩ k3)⟩
          refine c39 _ _ _ _ _ (bq_f ?_ (bq_f ?_ ?_))
          · rw [k25 g i1]; exact nI_nlt (by omega) (by omega)
          · intro e; rw [nl_m1, nI_eqM (by omega)] at e; exact e
          · rw [k25 g i1]
            by_cases hsb : sb s m
            · refine bq_nf ((sb_I s (by omega) m hm).mpr hsb) ?_
              refine sp_next hz (fun j hj => (i1.1 27 (by decide) (by decide) j).trans (hs j hj)) hokc (by omega) (fun d0 => ?_) (fun d0 => ?_)
              · refine c78 _ _ _ _ _ _ (bq_t (by decide) (nxt g (no g md.rf (fun _ => rfl) (by omega))))
              · have hd7 := dl_le (c := c) (s := s) hz
                have k1 : md [40] [39] g (mg_ui g 0 39 (nI (nc z c s))) := md.u0 md.rf (by decide)
                refine c78 _ _ _ _ _ _ (bq_f (nI_ge (a := 0) (b := dl z c s) d0 (by omega)) ?_)
                rw [nI_add]
                by_cases hT2 : t + dl z c s ≤ T
                · refine bq_f (nI_nlt hT2 (by omega)) ?_
                  refine hw _ (i1.tr k1) s (by omega) hsb _ ?_
                  rw [mi_same, nl_4096, pk_mul, nI_add, nI_add]
                  have hnc := nc_lt (c := c) (s := s) hz
                  refine sp_offer (by omega) (nxt _ ((hJ _ _ _ _).mpr ⟨md.ui (i1.tr k1) (by decide) (by decide), fun j hj => ?_, fun t' c' h1 h2 h3 => ?_⟩))
                  · rw [mi_place (by omega), mi_cell (by decide)]; exact i2 j hj
                  · rw [mi_cell (c := 0) (by decide)]
                    by_cases he : t' = t + dl z c s ∧ c' = nc z c s
                    · obtain ⟨rfl, rfl⟩ := he
                      rw [mi_same]
                      refine lst_congr (lst_offer (A := PF z m wt I F t c) (y := wt s) (i3 _ _ h1 h2 h3) (fun w hw2 => ?_) hm0 hl0 ?_) (fun w => ?_)
                      · have g1 := PP_le hwB hw2
                        have g2 := Nat.mul_le_mul_right 40 (show t + dl z c s - F ≤ 30 by omega)
                        omega
                      · have := hwB s (by omega)
                        omega
                      · rw [PP_step hFt]
                        refine ⟨fun q => q.elim Or.inl (fun q => Or.inr ⟨⟨hsb, d0, rfl, rfl⟩, q⟩), fun q => q.elim Or.inl (fun q => Or.inr q.2)⟩
                    · rw [mi_place (by omega), mi_cell (by decide)]
                      refine lst_congr (i3 t' c' h1 h2 h3) (fun w => ?_)
                      rw [PP_step hFt]
                      exact ⟨Or.inl, fun q => q.elim id (fun ⟨⟨q1, q2, q3, q4⟩, _⟩ => absurd ⟨q3, q4⟩ he)⟩
                · refine bq_t (nI_lt (by omega) (by omega)) (nxt _ (no _ k1 (fun j => mi_cell (by decide)) (by omega)))
            · refine bq_nt (fun e => hsb ((sb_I s (by omega) m hm).mp e)) ?_
              refine c78 _ _ _ _ _ _ (bq_t (by decide) (nxt g (no g md.rf (fun _ => rfl) (fun q => hsb q.1))))
  · refine (hJ _ _ _ _).mpr ⟨md.rf, fun _ _ => rfl, fun t' c' h1 h2 h3 => ?_⟩
    have key : ∀ w, PP z m wt I F F 0 0 t' c' w ↔ (t' = F ∧ I c' ∧ w = 0) := fun w => by
      refine ⟨fun q => q.elim id (fun ⟨a, k, t0, b, s0, w0, g1, g2, g3, g4, g5, g6, g7, g8, g9⟩ => ?_), Or.inl⟩
      unfold bef at g9
      omega
    by_cases he : t' = F
    · subst he
      exact lst_congr (hi c' h3) (fun w => by rw [key w]; exact ⟨fun q => ⟨rfl, q⟩, fun q => q.2⟩)
    · rw [hcl t' c' (by omega) h2 h3]
      exact Or.inl ⟨rfl, fun w q => he ((key w).mp q).1⟩
/-- what the searches of a shelf rest on: sizes, the glasses that may be turned, the first code -/
def HS (g : mg_H) (z : Nat → Nat) (m c0 : Nat) : Prop := (∀ j, j < 4 → mg_i g 27 j = nI (z j)) ∧ mg_i g 0 25 = nI m ∧ mg_i g 0 26 = nI c0
theorem HS.mv {L S : List Nat} {g g2 : mg_H} {z : Nat → Nat} {m c0 : Nat} (h : HS g z m c0) (e : md L S g g2) (h1 : 27 ∉ L) (h2 : 25 ∉ S) (h3 : 26 ∉ S) : HS g2 z m c0 := ⟨fun j hj => (e.1 27 (by decide) h1 j).trans (h.1 j hj), (e.2 25 h2).trans h.2.1, (e.2 26 h3).trans h.2.2⟩
theorem sp_layOut {Q : mg_H → Prop} {h : mg_H} {z : Nat → Nat} {m c0 : Nat} {x3 : Int32} {wt : Nat → Nat} (H : HS h z m c0) (hz : zok z) (hm : m < 16) (hc0 : okc z c0) (hw : ∀ h', md [40] [39] h h' → ∀ s, s < 16 → sb s m → ∀ Q : Int32 → mg_H → Prop, Q (nI (wt s)) h' → wp_costOf Q (nI s) x3 h') (hwB : ∀ s, s ≤ m → wt s ≤ 40) (q : ∀ h', md [40] [39] h h' → CL z m wt (fun a => a = c0) 0 30 h' → Q h') : wp_layOut Q x3 h := by
  unfold wp_layOut
  refine sp_clear (a := 0) (b := 30) (by decide) (by decide) (fun h2 k1 k2 => ?_)
  have k1' : md [40] [39] h h2 := k1.mono (fun c h => h) (fun c h => by cases h)
  have H2 := H.mv k1' (by decide) (by decide) (by decide)
  have hc := hc0.1
  rw [H2.2.2, nI_clamp (by omega)]
  refine ⟨vp_in_nI (show c0 < 126976 by omega) (by decide), ?_⟩
  rintro h3 rfl
  have k3 : md [40] [39] h (mg_ui h2 40 c0 0) := md.ui k1' (by decide) (by decide)
  have H3 := H.mv k3 (by decide) (by decide) (by decide)
  refine sp_goOn (F := 0) (T := 30) (z := z) (m := m) (wt := wt) (fun a => a = c0) hz hm (by decide) (by decide) H3.1 H3.2.1 (fun a e => e ▸ hc0) (fun h' e s h1 h2 => hw h' (k3.tr e) s h1 h2) hwB (fun c hc9 => ?_) (fun t c h1 h2 h3 => ?_) (fun h' e1 e2 e3 => q h' (k3.tr e1) e3)
  · rw [Nat.mul_zero, Nat.zero_add, mi_ui]
    by_cases e : c = c0
    · rw [if_pos ⟨rfl, e⟩]
      exact Or.inr ⟨0, rfl, ⟨e, rfl⟩, fun j _ => Nat.zero_le j⟩
    · rw [if_neg (fun q => e q.2), k2, if_pos (by omega)]
      exact Or.inl ⟨rfl, fun m q => e q.1⟩
  · rw [mi_place (by omega), k2, if_pos (by omega)]
theorem lst_min {P P' : Nat → Prop} {v v' : Int32} (h : lst P v) (h' : lst P' v') (hb : ∀ m, P m → m < 2 ^ 30) (hb' : ∀ m, P' m → m < 2 ^ 30) : lst (fun w => P w ∨ P' w) (if v' = nM then v else if v = nM then v' else if v ≤ v' then v else v') := by
  rcases h' with ⟨e2, n2⟩ | ⟨m', e2, p2, l2⟩
  · rw [if_pos e2]
    exact lst_congr h (fun m => ⟨Or.inl, fun q => q.elim id (fun q => absurd q (n2 m))⟩)
  · have b2 := hb' m' p2
    rw [e2, if_neg (by rw [nI_eqM (by omega)]; exact id)]
    rcases h with ⟨e1, n1⟩ | ⟨m, e1, p1, l1⟩
    · rw [if_pos e1]
      exact Or.inr ⟨m', rfl, Or.inr p2, fun j q => q.elim (fun q => absurd q (n1 j)) (l2 j)⟩
    · have b1 := hb m p1
      rw [e1, if_neg (by rw [nI_eqM (by omega)]; exact id)]
      by_cases hle : m ≤ m'
      · rw [if_pos (nI_le hle (by omega))]
        exact Or.inr ⟨m, rfl, Or.inl p1, fun j q => q.elim (l1 j) (fun q => Nat.le_trans hle (l2 j q))⟩
      · rw [if_neg (nI_ge (by omega) (by omega))]
        exact Or.inr ⟨m', rfl, Or.inr p2, fun j q => q.elim (fun q => by have := l1 j q; omega) (l2 j)⟩
theorem sp_leastAt {Q : Int32 → mg_H → Prop} {h : mg_H} {t : Nat} {P : Nat → Nat → Prop} (ht : t ≤ 30) (hP : ∀ c, c < 4096 → lst (P c) (mg_i h 40 (4096 * t + c))) (hb : ∀ c m, P c m → m < 2 ^ 30) (q : ∀ v, lst (fun w => ∃ c, c < 4096 ∧ P c w) v → Q v h) : wp_leastAt Q (nI t) h := by
  unfold wp_leastAt
  intro R4 R47 R42 R48 c4 c47 c42 c48
  refine lp (σ := Int32) (R := fun k v => R4 v (nI k) h) (fun k v => lst (fun w => ∃ c, c < k ∧ P c w) v) 0 4096 (by decide) ?_ ?_ (-1) (Or.inl ⟨rfl, fun w ⟨c, hc, _⟩ => absurd hc (Nat.not_lt_zero c)⟩)
  · exact fun v hv => c4 _ _ _ (bq_t (by decide) (q v hv))
  · intro k v _ hk hv ih
    have e1 : 4096 * nI t + nI k = nI (4096 * t + k) := by rw [nl_4096, pk_mul, nI_add]
    refine c4 _ _ _ (bq_f (nI_ge hk (by decide)) ?_)
    rw [e1, nI_clamp (by omega)]
    refine ⟨vp_in_nI (show 4096 * t + k < 126976 by omega) (by decide), ?_⟩
    rintro z1 rfl
    have key := lst_min hv (hP k hk) (fun m ⟨c, _, p⟩ => hb c m p) (hb k)
    have j : ∀ u, u = (if mg_i h 40 (4096 * t + k) = nM then v else if v = nM then mg_i h 40 (4096 * t + k) else if v ≤ mg_i h 40 (4096 * t + k) then v else mg_i h 40 (4096 * t + k)) → R48 (nI k) u h := by
      rintro u rfl
      refine c48 _ _ _ ?_
      rintro z2 rfl
      rw [nI_1]
      refine ih _ (lst_congr key (fun w => ⟨fun q => q.elim (fun ⟨c, h1, h2⟩ => ⟨c, by omega, h2⟩) (fun h2 => ⟨k, by omega, h2⟩), fun ⟨c, h1, h2⟩ => ?_⟩))
      rcases Nat.lt_or_ge c k with h9 | h9
      · exact Or.inl ⟨c, h9, h2⟩
      · rw [show c = k by omega] at h2; exact Or.inr h2
    refine ⟨fun a => c47 _ _ _ (j _ ?_), fun a => ⟨fun b => c42 _ _ _ (j _ ?_), fun b => ⟨fun d => c47 _ _ _ (j _ ?_), fun d => c42 _ _ _ (j _ ?_)⟩⟩⟩
    · rw [if_pos (show _ = nM from a)]
    · rw [if_neg (show ¬ _ = nM from a), if_pos (show _ = nM from b)]
    · rw [if_neg (show ¬ _ = nM from a), if_neg (show ¬ _ = nM from b), if_pos d]
    · rw [if_neg (show ¬ _ = nM from a), if_neg (show ¬ _ = nM from b), if_neg d]
/-- the number B has just the bits of which p is so -/
def bs (p : Nat → Prop) (B : Nat) : Prop := B < 2 ^ 31 ∧ ∀ i, B.testBit i = true ↔ p i
theorem bs_one {p p' : Nat → Prop} {B B' : Nat} (h : bs p B) (h' : bs p' B') (e : ∀ i, p i ↔ p' i) : B = B' := by
  apply Nat.eq_of_testBit_eq
  intro i
  have h1 := h.2 i
  have h2 := h'.2 i
  have h3 := e i
  cases a : B.testBit i <;> cases b : B'.testBit i
  · rfl
  · exact absurd (h1.mpr (h3.mpr (h2.mp b))) (by rw [a]; decide)
  · exact absurd (h2.mpr (h3.mp (h1.mp a))) (by rw [b]; decide)
  · rfl
theorem bs_congr {p p' : Nat → Prop} {B : Nat} (h : bs p B) (e : ∀ i, p i ↔ p' i) : bs p' B := ⟨h.1, fun i => (h.2 i).trans (e i)⟩
theorem bs_0 {p : Nat → Prop} (h : ∀ i, ¬ p i) : bs p 0 := ⟨by decide, fun i => ⟨fun q => absurd q (by rw [Nat.zero_testBit]; decide), fun q => absurd q (h i)⟩⟩
theorem or_lt31 {a b : Nat} (ha : a < 2 ^ 31) (hb : b < 2 ^ 31) : a ||| b < 2 ^ 31 := Nat.or_lt_two_pow ha hb
theorem bs_or {p p' : Nat → Prop} {B B' : Nat} (h : bs p B) (h' : bs p' B') : bs (fun i => p i ∨ p' i) (B ||| B') := ⟨or_lt31 h.1 h'.1, fun i => by rw [Nat.testBit_or, Bool.or_eq_true_iff, h.2 i, h'.2 i]⟩
theorem bs_bit {t : Nat} (ht : t < 31) : bs (fun i => i = t) (2 ^ t) := ⟨Nat.pow_lt_pow_right (by decide) ht, fun i => by rw [Nat.testBit_two_pow]; simp [eq_comm]⟩
theorem bit_I {t : Nat} (ht : t < 31) : (1 : Int32) <<< (nI t &&& 31) = nI (2 ^ t) := by
  have h1 : 2 ^ t < 2 ^ 31 := Nat.pow_lt_pow_right (by decide) ht
  rw [nl_1, nl_31, m31 (by omega), sl_I (by omega) (by omega), Nat.one_mul]
theorem lst_in {P : Nat → Prop} {v : Int32} {U : Nat} (h : lst P v) (hb : ∀ m, P m → m < 2 ^ 30) (hU : U < 2 ^ 30) : (0 ≤ v ∧ v ≤ nI U) ↔ ∃ w, w ≤ U ∧ P w := by
  rcases h with ⟨e, n⟩ | ⟨m, e, p, l⟩
  · rw [e]
    refine ⟨fun q => ?_, fun ⟨w, _, q⟩ => absurd q (n w)⟩
    have := q.1
    rw [nl_0, nI_leM (by decide)] at this
    exact this.elim
  · have := hb m p
    rw [e, nI_leI (by omega) (by omega)]
    exact ⟨fun q => ⟨m, q.2, p⟩, fun ⟨w, h1, h2⟩ => ⟨nI_pos' (by omega), Nat.le_trans (l w h2) h1⟩⟩
theorem sp_bitsOf {Q : Int32 → mg_H → Prop} {h : mg_H} {U : Nat} {P : Nat → Nat → Nat → Prop} (hU : U < 2 ^ 30) (hP : ∀ t c, t ≤ 30 → c < 4096 → lst (P t c) (mg_i h 40 (4096 * t + c))) (hb : ∀ t c m, t ≤ 30 → P t c m → m < 2 ^ 30) (q : ∀ B, bs (fun t => (1 ≤ t ∧ t ≤ 30) ∧ ∃ w c, w ≤ U ∧ c < 4096 ∧ P t c w) B → Q (nI B) h) : wp_bitsOf Q (nI U) h := by
  unfold wp_bitsOf
  intro R4 R31 c4 c31
  refine lp (σ := Nat) (R := fun k B => R4 (nI B) (nI k) h) (fun k B => bs (fun t => (1 ≤ t ∧ t < k) ∧ ∃ w c, w ≤ U ∧ c < 4096 ∧ P t c w) B) 1 31 (by decide) ?_ ?_ 0 (bs_0 (fun i q => by omega))
  · exact fun B hB => c4 _ _ _ (bq_t (by decide) (q B (bs_congr hB (fun i => ⟨fun q => ⟨by omega, q.2⟩, fun q => ⟨by omega, q.2⟩⟩))))
  · intro k B hk1 hk hB ih
    refine c4 _ _ _ (bq_f (nI_nlt (b := k) (a := 30) (by omega) (by decide)) ?_)
    refine sp_leastAt (by omega) (fun c hc => hP k c (by omega) hc) (fun c m => hb k c m (by omega)) (fun v hv => ?_)
    have hin := lst_in hv (fun m ⟨c, _, p⟩ => hb k c m (by omega) p) hU
    refine sp_in (fun a b => ⟨fun c => absurd c (by decide), fun _ => c31 _ _ _ _ ?_⟩) (fun c => ⟨fun _ => c31 _ _ _ _ ?_, fun c => absurd rfl c⟩)
    · rintro z5 rfl z6 rfl
      rw [bit_I hk, fa_or, nI_1]
      obtain ⟨w, h1, c, h2, h3⟩ := hin.mp ⟨a, b⟩
      refine ih _ (bs_congr (bs_or hB (bs_bit hk)) (fun i => ?_))
      constructor
      · rintro (⟨q1, q2⟩ | rfl)
        · exact ⟨by omega, q2⟩
        · exact ⟨by omega, w, c, h1, h2, h3⟩
      · rintro ⟨q1, q2⟩
        rcases Nat.lt_or_ge i k with h9 | h9
        · exact Or.inl ⟨by omega, q2⟩
        · exact Or.inr (by omega)
    · rintro z5 rfl z6 rfl
      rw [nl_0, fa_or, Nat.or_zero, nI_1]
      refine ih _ (bs_congr hB (fun i => ⟨fun q => ⟨by omega, q.2⟩, fun ⟨q1, w, c9, q2, q3, q4⟩ => ?_⟩))
      rcases Nat.lt_or_ge i k with h9 | h9
      · exact ⟨by omega, w, c9, q2, q3, q4⟩
      · have e : i = k := by omega
        subst e
        exact absurd (hin.mpr ⟨w, q2, c9, q3, q4⟩) (mp_not c)
