/-! the reference: stop, state, after, drawn -/
/-- x is the number k of a text of the sort s -/
def okN (p : Nat → Nat → Int32) (s : Nat) (x : Int32) (k : Nat) : Prop := x = nI k ∧ k < 2 ∧ 0 ≤ nI k ∧ nI k ≤ p 5 s - 1
def noN (p : Nat → Nat → Int32) (s : Nat) (x : Int32) : Prop := ¬ (0 ≤ x ∧ x ≤ p 5 s - 1)
theorem okN_or {p : Nat → Nat → Int32} {s m : Nat} (hm : m ≤ 2) (e : p 5 s = nI m) (x : Int32) : (∃ k, okN p s x k) ∨ noN p s x := by
  by_cases h : 0 ≤ x ∧ x ≤ p 5 s - 1
  · have h2 := h
    rw [e] at h2
    obtain ⟨k, h3, h4⟩ := mp_rng (m := m) (by omega) h2.1 h2.2
    subst h4
    exact Or.inl ⟨k, rfl, by omega, h⟩
  · exact Or.inr h
theorem sp_hand1 {Q : Int32 → mg_H → Prop} {h : mg_H} {x : Int32} (ok : mp_shs h) (hx : noN (mg_i h) 0 x) (q : Q 0 h) : wp_hand Q x h := sp_hand ok (fun _ _ _ _ _ a b _ => absurd ⟨a, b⟩ hx) (fun _ => q)
theorem sp_hasDay {Q : Int32 → mg_H → Prop} {h : mg_H} {x : Int32} (q1 : ∀ k, okN (mg_i h) 1 x k → Q 1 (mg_ui h 0 29 x)) (q0 : noN (mg_i h) 1 x → Q 0 (mg_ui h 0 29 x)) (ok : mp_days h) : wp_hasDay Q x h := by
  unfold wp_hasDay
  rintro _ rfl
  obtain ⟨⟨m, hm, e⟩, _⟩ := ok
  refine sp_is (vp_in_nI (n := 1) (N := 16) (by decide) (by decide)) (fun a b => ⟨Or.inr rfl, ?_⟩) (fun c => ⟨Or.inl rfl, q0 (mp_not c)⟩)
  have b' : x ≤ nI m - 1 := by rw [← e]; exact b
  obtain ⟨k, h3, h4⟩ := mp_rng (m := m) (by omega) a b'
  subst h4
  exact q1 k ⟨rfl, by omega, a, b⟩
theorem md.s {S : List Nat} {L : List Nat} {g g2 : mg_H} (h : md L S g g2) (hL : ∀ c ∈ L, ¬ (c < 10 ∧ c ≠ 0 ∨ c = 60)) : mp_same g g2 := h.same hL
theorem shs_u0 {h : mg_H} {j : Nat} {v : Int32} (ok : mp_shs h) : mp_shs (mg_ui h 0 j v) := ok
theorem sp_layAllW {Q : Int32 → mg_H → Prop} {h : mg_H} {x y : Int32} (okd : mp_days h) (oks : mp_shs h) (q1 : ∀ k d, okN (mg_i h) 0 x k → okN (mg_i h) 1 y d → ∀ n z t pr, SR (mg_i h) k n z t pr → ∀ h', mp_same h h' → DR h' n (w0 z t) → mg_i h' 0 29 = nI d → Q 1 h') (hS : ∀ k, okN (mg_i h) 0 x k → ∃ n z t pr, SR (mg_i h) k n z t pr) (q0 : (noN (mg_i h) 0 x ∨ noN (mg_i h) 1 y) → ∀ h', mp_same h h' → Q 0 h') : wp_layAll Q x y h := by
  unfold wp_layAll
  refine sp_hasDay (fun d hd => bq_f (by decide) ?_) (fun c => bq_t rfl (q0 (Or.inr c) _ (mp_ui mp_same.rf (by decide)))) okd
  obtain ⟨⟨m, hm, e⟩, _⟩ := id oks
  rcases okN_or hm e x with ⟨k, hk⟩ | hk
  · obtain ⟨n, z, t, pr, S⟩ := hS k hk
    obtain ⟨ex, hk2, hv⟩ := id hk
    rw [ex]
    refine sp_handS (shs_u0 oks) hv hk2 S (fun h2 e2 H2 f23 f24 f28 => bq_nt (by decide) ?_)
    refine sp_beginDayW S.1 f24 H2.1 f28 (fun h3 e3 D3 => ?_)
    refine q1 k d hk hd n z t pr S h3 (((mp_ui mp_same.rf (by decide)).tr (e2.same (by decide))).tr (e3.same (by decide))) D3 ?_
    rw [e3.2 29 (by decide), e2.2 29 (by decide), mi_same, hd.1]
  · exact sp_hand1 (shs_u0 oks) hk (bq_nf rfl (q0 (Or.inl hk) _ (mp_ui mp_same.rf (by decide))))
theorem SRx {g g2 : mg_H} {k n : Nat} {z t pr : Nat → Nat} (S : SR (mg_i g) k n z t pr) (e : mp_same g g2) : SR (mg_i g2) k n z t pr := ⟨S.1, (e 6 (by decide) _).trans S.2.1, fun j hj => ⟨(e 6 (by decide) _).trans (S.2.2.1 j hj).1, (e 6 (by decide) _).trans (S.2.2.1 j hj).2.1, (e 6 (by decide) _).trans (S.2.2.1 j hj).2.2.1, (S.2.2.1 j hj).2.2.2⟩, S.2.2.2⟩
theorem DYx {g g2 : mg_H} {o m : Nat} {kd yy : Nat → Nat} (S : DY (mg_i g) o m kd yy) (e : mp_same g g2) : DY (mg_i g2) o m kd yy := ⟨S.1, (e 7 (by decide) _).trans S.2.1, fun j hj => ⟨(e 7 (by decide) _).trans (S.2.2 j hj).1, (e 7 (by decide) _).trans (S.2.2 j hj).2.1, (S.2.2 j hj).2.2⟩⟩
theorem lD_same {g g2 : mg_H} (h : md [27, 28, 37, 38] lD g g2) : mp_same g g2 := h.same (by decide)
theorem sp_layAllV {Q : Int32 → mg_H → Prop} {h : mg_H} {x y : Int32} {k d n : Nat} {z t pr : Nat → Nat} (okd : mp_days h) (oks : mp_shs h) (hx : okN (mg_i h) 0 x k) (hy : okN (mg_i h) 1 y d) (S : SR (mg_i h) k n z t pr) (q : ∀ h', mp_same h h' → DR h' n (w0 z t) → mg_i h' 0 29 = nI d → Q 1 h') : wp_layAll Q x y h := by
  obtain ⟨ex, hk2, hv⟩ := hx
  rw [ex]
  unfold wp_layAll
  refine sp_hasDay (fun d' hd => bq_f (by decide) ?_) (fun c => absurd ?_ c) okd
  · refine sp_handS (shs_u0 oks) hv hk2 S (fun h2 e2 H2 f23 f24 f28 => bq_nt (by decide) ?_)
    refine sp_beginDayW S.1 f24 H2.1 f28 (fun h3 e3 D3 => ?_)
    refine q h3 (((mp_ui mp_same.rf (by decide)).tr (e2.same (by decide))).tr (e3.same (by decide))) D3 ?_
    rw [e3.2 29 (by decide), e2.2 29 (by decide), mi_same, hy.1]
  · rw [hy.1]; exact hy.2.2
theorem sp_layAll0 {Q : Int32 → mg_H → Prop} {h : mg_H} {x y : Int32} (okd : mp_days h) (oks : mp_shs h) (hxy : noN (mg_i h) 0 x ∨ noN (mg_i h) 1 y) (hS : ∀ k, okN (mg_i h) 0 x k → ∃ n z t pr, SR (mg_i h) k n z t pr) (q : ∀ h', mp_same h h' → Q 0 h') : wp_layAll Q x y h := by
  unfold wp_layAll
  refine sp_hasDay (fun d' hd => bq_f (by decide) ?_) (fun c => bq_t rfl (q _ (mp_ui mp_same.rf (by decide)))) okd
  rcases hxy with c | c
  · exact sp_hand1 (shs_u0 oks) c (bq_nf rfl (q _ (mp_ui mp_same.rf (by decide))))
  · rw [hd.1] at c
    exact absurd hd.2.2 c
theorem sp_stopV {Q : Int32 → mg_H → Prop} {h : mg_H} {x y : Int32} {k d n m : Nat} {z t pr kd yy : Nat → Nat} (okd : mp_days h) (oks : mp_shs h) (hx : okN (mg_i h) 0 x k) (hy : okN (mg_i h) 1 y d) (S : SR (mg_i h) k n z t pr) (D : DY (mg_i h) d m kd yy) (q : ∀ j h', mp_same h h' → wE n kd yy (w0 z t) m j → Q (nI j) h') : wp_stop Q x y h := by
  unfold wp_stop
  rintro _ rfl
  refine sp_layAllV (h := mg_ui h 0 0 0) okd oks hx hy S (fun h1 e1 D1 f29 => bq_f (by decide) ?_)
  have e0 : mp_same h h1 := (mp_ui mp_same.rf (by decide)).tr e1
  have DY1 := DYx D e0
  refine sp_deeds (d := d) (by have := hy.2.1; omega) f29 ?_
  rw [DY1.2.1]
  exact sp_playW D1 (w0_K S.sh) f29 hy.2.1 DY1 (Nat.le_refl m) (fun j h2 e2 E D2 => q j h2 (e0.tr (lD_same e2)) E)
theorem sp_stop0 {Q : Int32 → mg_H → Prop} {h : mg_H} {x y : Int32} (okd : mp_days h) (oks : mp_shs h) (hxy : noN (mg_i h) 0 x ∨ noN (mg_i h) 1 y) (hS : ∀ k, okN (mg_i h) 0 x k → ∃ n z t pr, SR (mg_i h) k n z t pr) (q : ∀ h', mp_same h h' → Q nM h') : wp_stop Q x y h := by
  unfold wp_stop
  rintro _ rfl
  exact sp_layAll0 (h := mg_ui h 0 0 0) okd oks hxy hS (fun h1 e1 => bq_t rfl (q h1 ((mp_ui mp_same.rf (by decide)).tr e1)))
theorem sp_ofStateW {Q : Int32 → mg_H → Prop} {h : mg_H} {n d : Nat} {w : wS} {x : Int32} (D : DR h n w) (K : wK n d w) (q : ∀ v, SV n w x v → Q v h) : wp_ofState Q x h := by
  obtain ⟨d24, d30, d32, d33, d34, d35, d36, d31, dg, d38⟩ := D
  have hn4 := K.1
  unfold wp_ofState
  rintro _ rfl
  by_cases hx : x < 10
  · refine bq_t hx ?_
    have big : ∀ k, 10 ≤ k → k < 100 → ¬ x = nI k := fun k h1 h2 c => by rw [c] at hx; exact nI_nlt (b := 10) h1 (by omega) hx
    have no : ∀ g, g < n → ¬ x = nI (10 + g) ∧ ¬ x = nI (20 + g) ∧ ¬ x = nI (30 + g) := fun g hg => ⟨big _ (by omega) (by omega), big _ (by omega) (by omega), big _ (by omega) (by omega)⟩
    by_cases h0 : x = 0
    · refine bq_nf h0 (q _ ?_)
      subst h0
      exact ⟨fun _ => d30, fun c => absurd c (by decide), fun c => absurd c (by decide), fun c => absurd c (by decide), fun g hg => ⟨fun c => absurd c (no g hg).1, fun c => absurd c (no g hg).2.1, fun c => absurd c (no g hg).2.2⟩, fun c => absurd rfl c⟩
    refine bq_nt h0 ?_
    by_cases h1 : x = 1
    · refine bq_nf h1 (q _ ?_)
      subst h1
      exact ⟨fun c => absurd c (by decide), fun _ => d31, fun c => absurd c (by decide), fun c => absurd c (by decide), fun g hg => ⟨fun c => absurd c (no g hg).1, fun c => absurd c (no g hg).2.1, fun c => absurd c (no g hg).2.2⟩, fun _ c => absurd rfl c⟩
    refine bq_nt h1 ?_
    by_cases h2 : x = 2
    · refine bq_nf h2 (q _ ?_)
      subst h2
      exact ⟨fun c => absurd c (by decide), fun c => absurd c (by decide), fun _ => d32, fun c => absurd c (by decide), fun g hg => ⟨fun c => absurd c (no g hg).1, fun c => absurd c (no g hg).2.1, fun c => absurd c (no g hg).2.2⟩, fun _ _ c => absurd rfl c⟩
    refine bq_nt h2 ?_
    by_cases h3 : x = 3
    · refine bq_nf h3 (q _ ?_)
      subst h3
      exact ⟨fun c => absurd c (by decide), fun c => absurd c (by decide), fun c => absurd c (by decide), fun _ => d33, fun g hg => ⟨fun c => absurd c (no g hg).1, fun c => absurd c (no g hg).2.1, fun c => absurd c (no g hg).2.2⟩, fun _ _ _ c => absurd rfl c⟩
    exact bq_nt h3 (q _ ⟨fun c => absurd c h0, fun c => absurd c h1, fun c => absurd c h2, fun c => absurd c h3, fun g hg => ⟨fun c => absurd c (no g hg).1, fun c => absurd c (no g hg).2.1, fun c => absurd c (no g hg).2.2⟩, fun _ _ _ _ _ => rfl⟩)
  · refine bq_f hx ?_
    obtain ⟨a, ha, ea⟩ := nI_of (x := x) (fun c => hx (by
      have h1 := Int32.lt_iff_toInt_lt.mp c
      refine Int32.lt_iff_toInt_lt.mpr ?_
      have h2 : (0 : Int32).toInt = 0 := by decide
      have h3 : (10 : Int32).toInt = 10 := by decide
      omega))
    subst ea
    have ha10 : 10 ≤ a := Nat.le_of_not_lt (fun c => hx (nI_lt (b := 10) c (by decide)))
    have es : ∀ k, k < 10 → ¬ nI a = nI k := fun k hk c => by have := (nI_eq ha (by omega)).mp c; omega
    rw [nl_10, pk_rem ha (by decide) (by decide)]
    have fin : ∀ v, (∀ g, g < n → (nI a = nI (10 + g) → v = nI (w.1 g).2.1) ∧ (nI a = nI (20 + g) → v = nI ((w.1 g).1 - (w.1 g).2.1)) ∧ (nI a = nI (30 + g) → v = nI (w.1 g).2.2.2)) → ((∀ g, g < n → ¬ nI a = nI (10 + g) ∧ ¬ nI a = nI (20 + g) ∧ ¬ nI a = nI (30 + g)) → v = nM) → Q v h := fun v h1 h2 => q v ⟨fun c => absurd c (es 0 (by decide)), fun c => absurd c (es 1 (by decide)), fun c => absurd c (es 2 (by decide)), fun c => absurd c (es 3 (by decide)), h1, fun _ _ _ _ c => h2 c⟩
    have ee : ∀ k, k < 100 → (nI a = nI k ↔ a = k) := fun k hk => nI_eq ha (by omega)
    have none : (n ≤ a % 10 ∨ 40 ≤ a) → Q nM h := fun c => fin nM (fun g hg => ⟨fun c2 => by have := (ee _ (by omega)).mp c2; omega, fun c2 => by have := (ee _ (by omega)).mp c2; omega, fun c2 => by have := (ee _ (by omega)).mp c2; omega⟩) (fun _ => rfl)
    refine sp_isGlass d24 (fun h1 h2 => bq_f (by decide) ?_) (fun c => bq_t rfl (none (Or.inl (Nat.le_of_not_lt (fun c2 => c (mp_rngI (by omega) c2))))))
    obtain ⟨g, hg, eg⟩ := mp_rng (m := n) (by omega) h1 h2
    have eg : a % 10 = g := (nI_eq (by omega) (by omega)).mp eg
    rw [eg]
    by_cases h40 : a < 40
    · refine bq_t (nI_lt (b := 40) h40 (by decide)) ?_
      obtain ⟨w27, w28, w37⟩ := dg g hg
      have hK := K.2.1 g hg
      by_cases h20 : 20 ≤ a
      · refine bq_t (nI_le (a := 20) h20 ha) ?_
        by_cases h30 : 30 ≤ a
        · refine bq_t (nI_le (a := 30) h30 ha) ⟨vp_in_nI (show g < 4 by omega) (by decide), ?_⟩
          rw [nI_clamp (by omega), w37]
          refine fin _ (fun g' hg' => ⟨fun c2 => by have := (ee _ (by omega)).mp c2; omega, fun c2 => by have := (ee _ (by omega)).mp c2; omega, fun c2 => ?_⟩) (fun c => absurd ((ee _ (by omega)).mpr (by omega)) (c g hg).2.2)
          have := (ee _ (by omega)).mp c2
          rw [show g' = g by omega]
        · refine bq_f (nI_ge (b := 30) (by omega) (by decide)) ⟨vp_in_nI (show g < 4 by omega) (by decide), vp_in_nI (show g < 4 by omega) (by decide), ?_⟩
          rw [nI_clamp (by omega), w27, w28, pk_sub hK.2.2.1]
          refine fin _ (fun g' hg' => ⟨fun c2 => by have := (ee _ (by omega)).mp c2; omega, fun c2 => ?_, fun c2 => by have := (ee _ (by omega)).mp c2; omega⟩) (fun c => absurd ((ee _ (by omega)).mpr (by omega)) (c g hg).2.1)
          have := (ee _ (by omega)).mp c2
          rw [show g' = g by omega]
      · refine bq_f (nI_ge (b := 20) (by omega) (by decide)) ⟨vp_in_nI (show g < 4 by omega) (by decide), ?_⟩
        rw [nI_clamp (by omega), w28]
        refine fin _ (fun g' hg' => ⟨fun c2 => ?_, fun c2 => by have := (ee _ (by omega)).mp c2; omega, fun c2 => by have := (ee _ (by omega)).mp c2; omega⟩) (fun c => absurd ((ee _ (by omega)).mpr (by omega)) (c g hg).1)
        have := (ee _ (by omega)).mp c2
        rw [show g' = g by omega]
    · exact bq_f (nI_nlt (b := 40) (by omega) ha) (none (Or.inr (by omega)))
