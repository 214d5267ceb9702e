/-! the reference: a text is read and kept -/
def twd : Nat → Nat
  | 0 => 13
  | 1 => 81
  | 2 => 17
  | _ => 7
theorem sp_store {Q : mg_H → Prop} {h : mg_H} {c w k : Nat} (hc : c ∈ mg_cs ∧ mg_kd c = 2) (hl : w * k + w ≤ mg_len c) (hl2 : mg_len c < 1000) (hw : w ≤ 81) (c19 : c ≠ 19) (c0 : c ≠ 0) (q : ∀ g, md [c] [] h g → (∀ j, j < w → mg_i g c (w * k + j) = mg_i h 19 j) → (∀ j, ¬ (w * k ≤ j ∧ j < w * k + w) → mg_i g c j = mg_i h c j) → Q g) : wp_store Q c (nI w) (nI k) h := by
  unfold wp_store
  refine ⟨hc, fun R3 c3 => ?_⟩
  refine lp (σ := mg_H) (R := fun j g => R3 (nI j) g) (fun j g => md [c] [] h g ∧ (∀ i, i < j → mg_i g c (w * k + i) = mg_i h 19 i) ∧ ∀ i, ¬ (w * k ≤ i ∧ i < w * k + j) → mg_i g c i = mg_i h c i) 0 w (Nat.zero_le w) ?_ ?_ h ⟨md.rf, fun i hi => absurd hi (Nat.not_lt_zero i), fun _ _ => rfl⟩
  · rintro g ⟨e, a, b⟩
    exact c3 _ _ (bq_t (nI_le (Nat.le_refl w) (by omega)) (q g e a b))
  · rintro j g _ hj ⟨e, a, b⟩ ih
    refine c3 _ _ (bq_f (nI_ge hj (by omega)) ⟨vp_in_nI (show j < 81 by omega) (by decide), ?_⟩)
    rw [pk_mul, nI_add, nI_clamp (by omega), nI_clamp (by omega)]
    refine ⟨vp_in_nI (show w * k + j < mg_len c by omega) (by omega), ?_⟩
    rintro _ rfl _ rfl
    rw [nI_1]
    refine ih _ ⟨md.ui e c0 (List.mem_singleton_self c), fun i hi => ?_, fun i hi => ?_⟩
    · by_cases ei : i = j
      · rw [ei, mi_same, e.1 19 (by decide) (fun cc => c19 (List.mem_singleton.mp cc).symm)]
      · rw [mi_place (by omega)]; exact a i (by omega)
    · rw [mi_place (by omega)]; exact b i (by omega)
theorem sp_storeOf {Q : mg_H → Prop} {h : mg_H} {s k : Nat} (hs : s < 4) (hk : k < 2) (q : ∀ g, md [6 + s] [] h g → (∀ j, j < twd s → mg_i g (6 + s) (twd s * k + j) = mg_i h 19 j) → (∀ j, ¬ (twd s * k ≤ j ∧ j < twd s * k + twd s) → mg_i g (6 + s) j = mg_i h (6 + s) j) → Q g) : wp_storeOf Q (nI s) (nI k) h := by
  unfold wp_storeOf
  have l6 : mg_len 6 = 104 := rfl
  have l7 : mg_len 7 = 648 := rfl
  have l8 : mg_len 8 = 136 := rfl
  have l9 : mg_len 9 = 56 := rfl
  rcases (show s = 0 ∨ s = 1 ∨ s = 2 ∨ s = 3 by omega) with e | e | e | e
  · rw [e] at q ⊢
    exact bq_nf rfl (sp_store (c := 6) (w := 13) (k := k) (by decide) (by omega) (by omega) (by decide) (by decide) (by decide) q)
  · rw [e] at q ⊢
    exact bq_nt (by decide) (bq_nf rfl (sp_store (c := 7) (w := 81) (k := k) (by decide) (by omega) (by omega) (by decide) (by decide) (by decide) q))
  · rw [e] at q ⊢
    exact bq_nt (by decide) (bq_nt (by decide) (bq_nf rfl (sp_store (c := 8) (w := 17) (k := k) (by decide) (by omega) (by omega) (by decide) (by decide) (by decide) q)))
  · rw [e] at q ⊢
    exact bq_nt (by decide) (bq_nt (by decide) (bq_nt (by decide) (sp_store (c := 9) (w := 7) (k := k) (by decide) (by omega) (by omega) (by decide) (by decide) (by decide) q)))
abbrev lX : List Nat := [0, 10, 11, 12, 13, 14, 16, 17, 18, 21, 22]
/-- the tape is taken; fault u -/
def T1 (h g : mg_H) (u : fS) : Prop := md [2, 3, 4, 19, 20] lX h g ∧ (∀ j, j ≠ 0 → mg_i g 2 j = mg_i h 2 j ∧ mg_i g 3 j = mg_i h 3 j ∧ mg_i g 4 j = mg_i h 4 j) ∧ mg_i g 2 0 = nI 0 ∧ mg_i g 3 0 = nI u.1 ∧ mg_i g 4 0 = (if u.1 = 0 then nM else nI u.2)
/-- the number that is meant: one there is, or the next -/
def tNo (m : Nat) (x2 : Int32) (k : Nat) : Prop := (x2 = nI k ∧ k < m) ∨ (x2 = nM ∧ m < 2 ∧ k = m)
theorem sp_text {Q : Int32 → mg_H → Prop} {h : mg_H} {x1 x2 : Int32} {L : Nat} {f : Nat → Nat} (h2 : mg_i h 2 0 = nI L) (hL : L ≤ 600) (hf : ∀ i, i < 600 → mg_i h 1 i &&& 255 = nI (f i) ∧ f i < 256) (cn : ∀ s, s < 4 → ∃ m, m ≤ 2 ∧ mg_i h 5 s = nI m)
    (q0 : (∀ s m, s < 4 → x1 = nI s → mg_i h 5 s = nI m → m ≤ 2 → ∀ k, ¬ tNo m x2 k) → ∀ g, T1 h g (0, 0) → Q (-2) g)
    (q1 : ∀ s m k, s < 4 → m ≤ 2 → x1 = nI s → mg_i h 5 s = nI m → tNo m x2 k → ¬ (PRF f L s).1 = 0 → ∀ g, T1 h g (PRF f L s) → Q (-1) g)
    (q2 : ∀ s m k, s < 4 → m ≤ 2 → x1 = nI s → mg_i h 5 s = nI m → tNo m x2 k → (PRF f L s).1 = 0 → ∀ g1 g, T1 h g1 (PRF f L s) → mg_i g1 19 0 = nI (PRS f L s).2.2.1 → RT g1 s (PRS f L s).2.2.1 (PRS f L s).2.2.2.2 → md [5, 6 + s] [] g1 g → (∀ j, mg_i g 5 j = if j = s then nI (if k = m then m + 1 else m) else mg_i h 5 j) → (∀ j, j < twd s → mg_i g (6 + s) (twd s * k + j) = mg_i g1 19 j) → (∀ j, ¬ (twd s * k ≤ j ∧ j < twd s * k + twd s) → mg_i g (6 + s) j = mg_i h (6 + s) j) → Q (nI k) g) : wp_text Q x1 x2 h := by
  unfold wp_text
  intro R75 R100 R118 c75 c100 c118
  intro a1 e1
  refine ⟨mp_in0 (by decide) (by decide), fun a2 e2 => ⟨mp_in0 (by decide) (by decide), fun a3 e3 => ⟨mp_in0 (by decide) (by decide), fun a4 e4 => ⟨mp_in0 (by decide) (by decide), fun g0 e5 => ?_⟩⟩⟩⟩
  have z0 : (0 : Int32).toNatClampNeg = 0 := rfl
  rw [z0] at e2 e3 e4 e5
  have E0 : md [2, 3, 4, 19, 20] lX h g0 := by
    rw [e5, e4, e3, e2, e1]
    exact md.ui (md.ui (md.ui ((md.rf.u0 (by decide)).u0 (by decide)) (by decide) (by decide)) (by decide) (by decide)) (by decide) (by decide)
  have k0 : ∀ j, j ≠ 0 → mg_i g0 2 j = mg_i h 2 j ∧ mg_i g0 3 j = mg_i h 3 j ∧ mg_i g0 4 j = mg_i h 4 j := fun j hj => by
    refine ⟨?_, ?_, ?_⟩
    · rw [e5, mi_cell (by decide), e4, mi_cell (by decide), e3, mi_place hj, e2, mi_cell (by decide), e1, mi_cell (by decide)]
    · rw [e5, mi_cell (by decide), e4, mi_place hj, e3, mi_cell (by decide), e2, mi_cell (by decide), e1, mi_cell (by decide)]
    · rw [e5, mi_place hj, e4, mi_cell (by decide), e3, mi_cell (by decide), e2, mi_cell (by decide), e1, mi_cell (by decide)]
  have v2 : mg_i g0 2 0 = nI 0 := by rw [e5, mi_cell (by decide), e4, mi_cell (by decide), e3, mi_same]; rfl
  have v3 : mg_i g0 3 0 = nI 0 := by rw [e5, mi_cell (by decide), e4, mi_same]; rfl
  have v4 : mg_i g0 4 0 = nM := by rw [e5, mi_same]; rfl
  have v11 : mg_i g0 0 11 = nI L := by
    rw [e5, mi_cell (by decide), e4, mi_cell (by decide), e3, mi_cell (by decide), e2, mi_same, e1, mi_cell (by decide)]
    exact h2
  clear e1 e2 e3 e4 e5
  have T0 : T1 h g0 (0, 0) := ⟨E0, k0, v2, v3, by rw [if_pos rfl]; exact v4⟩
  have TPg : TP g0 L f := ⟨v11, hL, fun i hi => by rw [E0.1 1 (by decide) (by decide)]; exact hf i hi⟩
  -- the text is read
  have read : ∀ s m k, s < 4 → m ≤ 2 → x1 = nI s → mg_i h 5 s = nI m → tNo m x2 k → R75 g0 := by
    intro s m k hs hm ex em hno
    subst ex
    have ex : nI s = nI s := rfl
    have q1 := q1 s m k hs hm ex em hno
    have q2 := q2 s m k hs hm ex em hno
    refine c75 _ ?_
    refine sp_readText hs TPg (fun g v eg kg g3 g4 ok bad => ?_)
    have T1g : T1 h g (PRF f L s) := ⟨E0.tr (eg.mono (by decide) (by decide)), fun j hj => ⟨(eg.1 2 (by decide) (by decide) j).trans (k0 j hj).1, (kg j hj).1.trans (k0 j hj).2.1, (kg j hj).2.trans (k0 j hj).2.2⟩, (eg.1 2 (by decide) (by decide) 0).trans v2, g3, g4⟩
    by_cases u0 : (PRF f L s).1 = 0
    · obtain ⟨ev, g19, rt⟩ := ok u0
      have q2 := q2 u0 g
      have g5 : ∀ j, mg_i g 5 j = mg_i h 5 j := fun j => T1g.1.1 5 (by decide) (by decide) j
      rw [ev]
      refine bq_nt (by decide) ?_
      have fin : ∀ a b, b + a = nI (if k = m then m + 1 else m) → R118 (nI k) a b (nI s) g := by
        intro a b hab
        refine c118 _ _ _ _ _ ⟨vp_in_nI (show s < 16 by omega) (by decide), ?_⟩
        rw [hab, nI_clamp (by omega)]
        intro g6 e6
        have hk2 : k < 2 := by rcases hno with ⟨_, c⟩ | ⟨_, c, c'⟩ <;> omega
        have E6 : md [5, 6 + s] [] g g6 := by rw [e6]; exact md.ui md.rf (by decide) (by simp)
        have f5 : ∀ j, mg_i g6 5 j = if j = s then nI (if k = m then m + 1 else m) else mg_i h 5 j := fun j => by
          rw [e6]
          by_cases c : j = s
          · rw [if_pos c, c, mi_same]
          · rw [if_neg c, mi_place c]; exact g5 j
        have f6 : ∀ j, mg_i g6 (6 + s) j = mg_i h (6 + s) j := fun j => by
          rw [e6, mi_cell (by omega)]
          exact T1g.1.1 (6 + s) (by omega) (by simp <;> omega) j
        have f19 : ∀ j, mg_i g6 19 j = mg_i g 19 j := fun j => by rw [e6, mi_cell (by decide)]
        clear e6
        refine sp_storeOf hs hk2 (fun g7 e7 r7 o7 => ?_)
        refine q2 g7 T1g g19 rt (E6.tr (e7.mono (by simp) (by decide))) (fun j => ?_) (fun j hj => (r7 j hj).trans (f19 j)) (fun j hj => (o7 j hj).trans (f6 j))
        rw [e7.1 5 (by decide) (by simp <;> omega)]
        exact f5 j
      rcases hno with ⟨ex2, hkm⟩ | ⟨ex2, hm2, hkm⟩
      · have n1 : ¬ x2 = -1 := by rw [ex2, nl_m1, nI_eqM (by omega)]; exact id
        refine bq_nt n1 (c100 _ _ ⟨vp_in_nI (show s < 16 by omega) (by decide), bq_nt n1 ?_⟩)
        rw [nI_clamp (by omega), g5, em, ex2]
        refine fin _ _ ?_
        rw [if_neg (by omega), nl_0, nI_add, Nat.add_zero]
      · refine bq_nf (by rw [ex2]; rfl) ⟨vp_in_nI (show s < 16 by omega) (by decide), ?_⟩
        rw [nI_clamp (by omega), g5, em]
        refine c100 _ _ ⟨vp_in_nI (show s < 16 by omega) (by decide), bq_nf (by rw [ex2]; rfl) ?_⟩
        rw [nI_clamp (by omega), g5, em, ← hkm]
        refine fin _ _ ?_
        rw [if_pos hkm, nl_1, nI_add, hkm]
    · rw [bad u0]
      exact bq_nf rfl (q1 u0 g T1g)
  refine sp_in (fun a b => bq_f (by decide) ?_) (fun c => bq_t rfl (q0 (fun s m hs ex _ _ k _ => ?_) g0 T0))
  · obtain ⟨s, hs, ex⟩ := mp_rng (m := 4) (by decide) a (show x1 ≤ nI 4 - 1 from (show nI 4 - 1 = 3 from by decide) ▸ b)
    obtain ⟨m, hm, em⟩ := cn s hs
    have g5 : mg_i g0 5 s = nI m := (E0.1 5 (by decide) (by decide) s).trans em
    have un : ∀ s' m', s' < 4 → x1 = nI s' → mg_i h 5 s' = nI m' → m' ≤ 2 → m' = m := fun s' m' hs' ex' em' hm' => by
      have e9 := (nI_eq (by omega) (by omega)).mp (ex.symm.trans ex')
      rw [← e9, em] at em'
      exact ((nI_eq (by omega) (by omega)).mp em').symm
    by_cases xm : x2 = -1
    · refine bq_nf xm ⟨by rw [ex]; exact vp_in_nI (show s < 16 by omega) (by decide), ?_⟩
      rw [ex, nI_clamp (by omega), g5]
      by_cases m2 : m = 2
      · refine bq_nf (by rw [m2]; rfl) (q0 (fun s' m' hs' ex' em' hm' k hk => ?_) g0 T0)
        have := un s' m' hs' ex' em' hm'
        rcases hk with ⟨c1, c2⟩ | ⟨c1, c2, c3⟩
        · rw [c1, nl_m1, nI_eqM (by omega)] at xm
          exact xm
        · omega
      · exact bq_nt (fun c => m2 ((nI_eq (b := 2) (by omega) (by decide)).mp c)) (read s m m hs hm ex em (Or.inr ⟨xm, by omega, rfl⟩))
    · refine bq_nt xm ?_
      refine sp_is (by rw [ex]; exact vp_in_nI (show s < 16 by omega) (by decide)) (fun ha hb => bq_nt (by decide) ?_) (fun c => bq_nf rfl (q0 (fun s' m' hs' ex' em' hm' k hk => ?_) g0 T0))
      · rw [ex, nI_clamp (by omega), g5] at hb
        obtain ⟨k, hk, ek⟩ := mp_rng (m := m) (by omega) ha hb
        exact read s m k hs hm ex em (Or.inl ⟨ek, hk⟩)
      · have em2 := un s' m' hs' ex' em' hm'
        rcases hk with ⟨c1, c2⟩ | ⟨c1, c2, c3⟩
        · refine mp_not c ?_
          rw [ex, nI_clamp (by omega), g5, c1]
          exact mp_rngI (by omega) (by omega)
        · exact xm c1
  · refine mp_not c ?_
    rw [ex]
    exact ⟨nI_le (a := 0) (Nat.zero_le s) (by omega), nI_le (b := 3) (by omega) (by decide)⟩
