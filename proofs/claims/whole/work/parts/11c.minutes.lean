/-! Walk: findMinutes, passOn, eventMinutes -/
/-- a number by the bits of which p is so -/
def isB (v : Int32) (p : Nat → Prop) : Prop := ∃ B, v = nI B ∧ bs p B
theorem isB.congr {v : Int32} {p p' : Nat → Prop} (h : isB v p) (e : ∀ i, p i ↔ p' i) : isB v p' := by
  obtain ⟨B, h1, h2⟩ := h
  exact ⟨B, h1, bs_congr h2 e⟩
theorem isB_0 {p : Nat → Prop} (h : ∀ i, ¬ p i) : isB (nI 0) p := ⟨0, rfl, bs_0 h⟩
theorem isB_or {v v' : Int32} {p p' : Nat → Prop} (h : isB v p) (h' : isB v' p') : isB (v ||| v') (fun i => p i ∨ p' i) := by
  obtain ⟨B, rfl, h2⟩ := h
  obtain ⟨B', rfl, h2'⟩ := h'
  exact ⟨B ||| B', fa_or B B', bs_or h2 h2'⟩
theorem isB_zero {v : Int32} {p : Nat → Prop} (h : isB v p) : v = 0 ↔ ∀ i, ¬ p i := by
  obtain ⟨B, rfl, h2⟩ := h
  constructor
  · intro e i hi
    have e := (nI_eq (a := B) (b := 0) h2.1 (by decide)).mp e
    have := (h2.2 i).mpr hi
    rw [e, Nat.zero_testBit] at this
    cases this
  · intro hno
    have := bs_one h2 (bs_0 hno) (fun _ => Iff.rfl)
    rw [this]; rfl
theorem isB_one {v v' : Int32} {p p' : Nat → Prop} (h : isB v p) (h' : isB v' p') (e : ∀ i, p i ↔ p' i) : v = v' := by
  obtain ⟨B, rfl, h2⟩ := h
  obtain ⟨B', rfl, h2'⟩ := h'
  rw [bs_one h2 h2' e]
theorem shm_I {B d : Nat} (hB : B < 2 ^ 31) (hd : d < 32) : (nI B <<< (nI d &&& 31)) &&& 2147483647 = nI (B * 2 ^ d % 2 ^ 31) := by
  apply b_ext
  intro i hi
  have e31 : ∀ i, i < 32 → bt 2147483647 i = decide (i < 31) := by decide +kernel
  rw [b_and, b_shl d hd _ hi, e31 i hi, bt_nI _ hi, Nat.testBit_mod_two_pow]
  rcases Nat.lt_or_ge i d with h | h
  · rw [decide_eq_false (show ¬ d ≤ i by omega), Nat.testBit_mul_two_pow, decide_eq_false (show ¬ i ≥ d by omega)]; simp
  · rw [bt_nI _ (by omega), Nat.testBit_mul_two_pow, decide_eq_true (show d ≤ i from h)]
    simp [Bool.and_comm]
theorem isB_shl {v : Int32} {p : Nat → Prop} {d : Nat} (h : isB v p) (hd : d < 32) : isB ((v <<< (nI d &&& 31)) &&& 2147483647) (fun t => t ≤ 30 ∧ ∃ t0, p t0 ∧ t = t0 + d) := by
  obtain ⟨B, rfl, h2⟩ := h
  refine ⟨_, shm_I h2.1 hd, Nat.mod_lt _ (by decide), fun i => ?_⟩
  rw [Nat.testBit_mod_two_pow, Nat.testBit_mul_two_pow]
  simp only [Bool.and_eq_true, decide_eq_true_eq, h2.2]
  constructor
  · rintro ⟨h1, h3, h4⟩
    exact ⟨by omega, i - d, h4, by omega⟩
  · rintro ⟨h1, t0, h3, rfl⟩
    refine ⟨by omega, by omega, ?_⟩
    rw [Nat.add_sub_cancel]; exact h3
/-- k events, t minutes, then b -/
def PK (z : Nat → Nat) (m c0 k t b : Nat) : Prop := ∃ w, pt z m (fun _ => 0) k c0 t b w
theorem PK_0 {z : Nat → Nat} {m c0 t b : Nat} : PK z m c0 0 t b ↔ t = 0 ∧ b = c0 := ⟨fun ⟨_, h1, h2, _⟩ => ⟨h1, h2⟩, fun ⟨h1, h2⟩ => ⟨0, h1, h2, rfl⟩⟩
theorem PK_s {z : Nat → Nat} {m c0 k t b : Nat} : PK z m c0 (k + 1) t b ↔ ∃ s t' b', PK z m c0 k t' b' ∧ sb s m ∧ 0 < dl z b' s ∧ t = t' + dl z b' s ∧ b = nc z b' s := by
  constructor
  · rintro ⟨w, h⟩
    obtain ⟨s, t', w', b', g1, g2, g3, g4, g5, g6⟩ := pt_snoc h
    exact ⟨s, t', b', ⟨w', g1⟩, g2, g3, g4, g6⟩
  · rintro ⟨s, t', b', ⟨w', g1⟩, g2, g3, rfl, rfl⟩
    exact ⟨_, pt_add g1 g2 g3⟩
theorem PK_le {z : Nat → Nat} {m c0 k t b : Nat} (h : PK z m c0 k t b) : k ≤ t := by
  obtain ⟨w, h⟩ := h
  exact pt_k h
theorem PK_pre {z : Nat → Nat} {m c0 k : Nat} (hno : ∀ t b, t ≤ 30 → ¬ PK z m c0 k t b) : ∀ d t b, t ≤ 30 → ¬ PK z m c0 (k + d) t b
  | 0, t, b, ht, h => hno t b ht h
  | d + 1, t, b, ht, h => by
    obtain ⟨s, t', b', g1, g2, g3, g4, g5⟩ := PK_s.mp h
    exact PK_pre hno d t' b' (by omega) g1
theorem rc_PK {z : Nat → Nat} {m c0 t b : Nat} : rc z m c0 t b ↔ ∃ k, PK z m c0 k t b := Iff.rfl
/-- every code that is come to is a row -/
theorem WD.row {z : Nat → Nat} {m c0 : Nat} {h : xg_H} {nm : Nat → Nat} {w N r : Nat} {cs : Nat → Nat} (a : WD z m c0 h nm w N r cs) : ∀ {k t b}, PK z m c0 k t b → ∃ i, i < r ∧ cs i = b
  | 0, t, b, h => by
    obtain ⟨_, rfl⟩ := PK_0.mp h
    exact ⟨0, by have := a.1; omega, a.1.2.2⟩
  | k + 1, t, b, h => by
    obtain ⟨s, t', b', g1, g2, g3, g4, rfl⟩ := PK_s.mp h
    obtain ⟨i, hi, rfl⟩ := a.row g1
    obtain ⟨j, hj, e, _⟩ := (a.2.2.2.2.2 i s hi (sb_le g2)).1 ⟨g2, g3⟩
    exact ⟨j, hj, e⟩
theorem sp_X10_passOn {Y : xg_Y} {Q : xg_H → Prop} {h : xg_H} {nm : Nat → Nat} {w N m c0 r i : Nat} {z : Nat → Nat} {cs : Nat → Nat} {p : Nat → Nat → Prop} {q0 : Nat → Prop} (hn : inj nm) (L : LW Y h nm w N) (hz : zok z) (hm : m < 16) (D : WD z m c0 h nm w N r cs) (hi : i < r) (hp : ∀ j, j < r → isB (xg_i h (nm (w + 6)) j) (p j)) (hq : isB (xg_i h (nm (w + 5)) i) q0) (q : ∀ h', xd nm [w + 6] h h' → (∀ j, j < r → isB (xg_i h' (nm (w + 6)) j) (fun t => p j t ∨ ∃ s, s ≤ m ∧ sb s m ∧ 0 < dl z (cs i) s ∧ cs j = nc z (cs i) s ∧ t ≤ 30 ∧ ∃ t0, q0 t0 ∧ t = t0 + dl z (cs i) s)) → Q h') : wp_X10_passOn Y Q (nm w) (nI i) h := by
  have L0 := L
  obtain ⟨k10, ⟨o0, k1⟩, ⟨o1, k2⟩, ⟨o2, k3⟩, ⟨o3, k4⟩, o6, ⟨o7, k5⟩, ⟨o8, k6⟩, hN, hw⟩ := L
  have hrN := D.1.2.1
  unfold wp_X10_passOn
  refine ⟨k10, fun R2 R66 c2 c66 => ?_⟩
  refine lp (σ := xg_H) (R := fun s h' => R2 (nI s) h') (fun s h' => xd nm [w + 6] h h' ∧ ∀ j, j < r → isB (xg_i h' (nm (w + 6)) j) (fun t => p j t ∨ ∃ s', s' < s ∧ sb s' m ∧ 0 < dl z (cs i) s' ∧ cs j = nc z (cs i) s' ∧ t ≤ 30 ∧ ∃ t0, q0 t0 ∧ t = t0 + dl z (cs i) s')) 0 (m + 1) (Nat.zero_le _) ?_ ?_ h ⟨xd.rf, fun j hj => (hp j hj).congr (fun t => ⟨Or.inl, fun q => q.elim id (fun ⟨s', hs, _⟩ => absurd hs (Nat.not_lt_zero s'))⟩)⟩
  · rintro h' ⟨e, f⟩
    refine c2 _ _ (bq_t ?_ (q h' e (fun j hj => (f j hj).congr (fun t => ?_))))
    · rw [e.i w (by simp), D.2.2.1]; exact nI_le (Nat.le_refl _) (by omega)
    · exact ⟨fun q => q.elim Or.inl (fun ⟨s', a, b⟩ => Or.inr ⟨s', by omega, b⟩), fun q => q.elim Or.inl (fun ⟨s', a, b⟩ => Or.inr ⟨s', by omega, b⟩)⟩
  · rintro s h' _ hs ⟨e, f⟩ ih
    have nxt : ∀ h2, xd nm [w + 6] h h2 → (∀ j, j < r → isB (xg_i h2 (nm (w + 6)) j) (fun t => (p j t ∨ ∃ s', s' < s ∧ sb s' m ∧ 0 < dl z (cs i) s' ∧ cs j = nc z (cs i) s' ∧ t ≤ 30 ∧ ∃ t0, q0 t0 ∧ t = t0 + dl z (cs i) s') ∨ (sb s m ∧ 0 < dl z (cs i) s ∧ cs j = nc z (cs i) s ∧ t ≤ 30 ∧ ∃ t0, q0 t0 ∧ t = t0 + dl z (cs i) s))) → R66 (nI s) h2 := by
      intro h2 e2 f2
      refine c66 _ _ ?_
      rintro _ rfl
      rw [nI_1]
      refine ih _ ⟨e2, fun j hj => (f2 j hj).congr (fun t => ?_)⟩
      constructor
      · rintro ((a | ⟨s', a, b⟩) | a)
        · exact Or.inl a
        · exact Or.inr ⟨s', by omega, b⟩
        · exact Or.inr ⟨s, by omega, a⟩
      · rintro (a | ⟨s', a, b⟩)
        · exact Or.inl (Or.inl a)
        · rcases Nat.lt_or_ge s' s with h9 | h9
          · exact Or.inl (Or.inr ⟨s', h9, b⟩)
          · rw [show s' = s by omega] at b; exact Or.inr b
    refine c2 _ _ (bq_f ?_ ⟨nm (w + 4), (e.2 _ _).trans o3, k4.1, ?_⟩)
    · rw [e.i w (by simp), D.2.2.1]; exact nI_ge hs (by omega)
    rw [k4.2, nl_16, pk_mul, nI_add, nI_clamp (by omega), e.i (w + 4) (by simp)]
    refine ⟨vp_in_nI (by omega) (by omega), ?_⟩
    rintro _ rfl _ rfl
    obtain ⟨b1, b2⟩ := D.2.2.2.2.2 i s hi (by omega)
    by_cases hd : sb s m ∧ 0 < dl z (cs i) s
    · obtain ⟨j, hj, ej, ew⟩ := b1 hd
      have hd7 := dl_le (c := cs i) (s := s) hz
      rw [ew, nl_4095, m4095, show (dl z (cs i) s * 4096 + j) % 4096 = j by omega, e.i w (by simp), D.2.1]
      refine bq_f (fun e9 => ?_) (bq_f (nI_ge hj (by omega)) ⟨nm (w + 6), (e.2 _ _).trans o8, k6.1, ?_⟩)
      · have := (nI_eq (a := dl z (cs i) s * 4096 + j) (b := 0) (by omega) (by decide)).mp e9
        omega
      rw [k6.2, nI_clamp (by omega)]
      refine ⟨vp_in_nI (by omega) (by omega), nm (w + 5), (e.2 _ _).trans o7, k5.1, ?_⟩
      rw [k5.2, nI_clamp (by omega), sh12 (by omega), show (dl z (cs i) s * 4096 + j) / 4096 = dl z (cs i) s by omega, e.i (w + 5) (by simp)]
      refine ⟨vp_in_nI (by omega) (by omega), vp_in_nI (by omega) (by omega), ?_⟩
      rintro _ rfl
      refine nxt _ (xd.ui hn e (by simp)) (fun j' hj' => ?_)
      rw [xu hn]
      by_cases ejj : j' = j
      · subst ejj
        rw [if_pos ⟨rfl, rfl⟩]
        refine (isB_or (f j' hj') (isB_shl hq (by omega))).congr (fun t => ?_)
        exact ⟨fun q => q.elim Or.inl (fun ⟨a, b⟩ => Or.inr ⟨hd.1, hd.2, ej, a, b⟩), fun q => q.elim Or.inl (fun ⟨_, _, _, a, b⟩ => Or.inr ⟨a, b⟩)⟩
      · rw [if_neg (fun q => ejj q.2)]
        refine (f j' hj').congr (fun t => ⟨Or.inl, fun q => q.elim id (fun ⟨_, _, a, _⟩ => ?_)⟩)
        exact absurd (D.2.2.2.2.1 j' j hj' hj (a.trans ej.symm)) ejj
    · rw [b2 hd]
      refine bq_t rfl (nxt _ e (fun j hj => (f j hj).congr (fun t => ⟨Or.inl, fun q => q.elim id (fun ⟨a, b, _⟩ => absurd ⟨a, b⟩ hd)⟩)))
/-- minutes and layers of a walk -/
def WM (z : Nat → Nat) (m c0 : Nat) (h : xg_H) (nm : Nat → Nat) (w r : Nat) (cs : Nat → Nat) : Prop := (∀ i, i < r → isB (xg_i h (nm (w + 2)) i) (fun t => t ≤ 30 ∧ rc z m c0 t (cs i))) ∧ ∀ k, k ≤ 30 → isB (xg_i h (nm (w + 3)) k) (fun t => t ≤ 30 ∧ ∃ b, PK z m c0 k t b)
theorem WM.mv {z : Nat → Nat} {m c0 : Nat} {h h2 : xg_H} {nm : Nat → Nat} {w r : Nat} {cs : Nat → Nat} {L : List Nat} (a : WM z m c0 h nm w r cs) (e : xd nm L h h2) (h1 : w + 2 ∉ L) (h3 : w + 3 ∉ L) : WM z m c0 h2 nm w r cs := ⟨fun i hi => by rw [e.i _ h1]; exact a.1 i hi, fun k hk => by rw [e.i _ h3]; exact a.2 k hk⟩
theorem sp_X10_findMinutes {Y : xg_Y} {Q : xg_H → Prop} {h : xg_H} {nm : Nat → Nat} {w N m c0 r : Nat} {z : Nat → Nat} {cs : Nat → Nat} (hn : inj nm) (L : LW Y h nm w N) (hz : zok z) (hm : m < 16) (D : WD z m c0 h nm w N r cs) (q : ∀ h', xd nm [w + 2, w + 3, w + 5, w + 6] h h' → WM z m c0 h' nm w r cs → Q h') : wp_X10_findMinutes Y Q (nm w) h := by
  have L0 := L
  obtain ⟨k10, ⟨o0, k1⟩, ⟨o1, k2⟩, ⟨o2, k3⟩, ⟨o3, k4⟩, o6, ⟨o7, k5⟩, ⟨o8, k6⟩, hN, hw⟩ := L
  have hrN := D.1.2.1
  have hr1 := D.1.1
  unfold wp_X10_findMinutes
  refine ⟨k10, fun R57 R89 R119 R111 c57 c89 c119 c111 => ?_⟩
  rw [o2]
  refine sp_fill hn k3 (by decide) (fun h1 e1 f1 => ?_)
  rw [e1.2, o1, e1.i w (by simp), D.2.1]
  refine sp_fillR hn k2 (by omega) hrN (fun h2 e2 f2 => ?_)
  rw [e2.2, e1.2, o7, e2.i w (by simp), e1.i w (by simp), D.2.1]
  refine sp_fillR hn k5 (by omega) hrN (fun h3 e3 f3 => ?_)
  refine ⟨nm (w + 5), (e3.2 _ _).trans ((e2.2 _ _).trans ((e1.2 _ _).trans o7)), k5.1, ?_⟩
  rw [k5.2]
  refine ⟨mp_in0 (by omega) (by omega), ?_⟩
  rintro _ rfl
  refine ⟨nm (w + 2), (e3.2 _ _).trans ((e2.2 _ _).trans ((e1.2 _ _).trans o1)), k2.1, ?_⟩
  rw [k2.2]
  refine ⟨mp_in0 (by omega) (by omega), ?_⟩
  rintro _ rfl
  refine ⟨nm (w + 3), (e3.2 _ _).trans ((e2.2 _ _).trans ((e1.2 _ _).trans o2)), k3.1, ?_⟩
  rw [k3.2, sb_cl0]
  refine ⟨mp_in0 (by decide) (by decide), ?_⟩
  rintro _ rfl
  -- what holds ahead of layer k
  have J : ∃ J : Nat → xg_H → Prop, ∀ k h', J k h' ↔ (xd nm [w + 2, w + 3, w + 5, w + 6] h h' ∧ (∀ i, i < r → isB (xg_i h' (nm (w + 5)) i) (fun t => t ≤ 30 ∧ PK z m c0 (k - 1) t (cs i))) ∧ (∀ i, i < r → isB (xg_i h' (nm (w + 2)) i) (fun t => t ≤ 30 ∧ ∃ k', k' < k ∧ PK z m c0 k' t (cs i))) ∧ (∀ k', k' < k → isB (xg_i h' (nm (w + 3)) k') (fun t => t ≤ 30 ∧ ∃ b, PK z m c0 k' t b)) ∧ ∀ k', k ≤ k' → k' ≤ 30 → xg_i h' (nm (w + 3)) k' = nI 0) := ⟨_, fun _ _ => Iff.rfl⟩
  obtain ⟨J, hJ⟩ := J
  have fin : ∀ k h', 1 ≤ k → k ≤ 31 → J k h' → (k = 31 ∨ ∀ t b, t ≤ 30 → ¬ PK z m c0 (k - 1) t b) → Q h' := by
    intro k h' hk1 hk31 hj hx
    obtain ⟨i1, i2, i3, i4, i5⟩ := (hJ _ _).mp hj
    have hno : ∀ k' t b, k ≤ k' → t ≤ 30 → ¬ PK z m c0 k' t b := by
      intro k' t b hk' ht hp
      rcases hx with rfl | hx
      · have := PK_le hp; omega
      · have := PK_pre hx (k' - (k - 1)) t b ht
        rw [show k - 1 + (k' - (k - 1)) = k' by omega] at this
        exact this hp
    refine q h' i1 ⟨fun i hi => (i3 i hi).congr (fun t => ?_), fun k' hk' => ?_⟩
    · refine ⟨fun ⟨a, k', _, b⟩ => ⟨a, k', b⟩, fun ⟨a, k', b⟩ => ⟨a, k', ?_, b⟩⟩
      rcases Nat.lt_or_ge k' k with h9 | h9
      · exact h9
      · exact absurd b (hno k' t _ h9 a)
    · rcases Nat.lt_or_ge k' k with h9 | h9
      · exact i4 k' h9
      · rw [i5 k' h9 hk']
        exact isB_0 (fun t ⟨a, b, c⟩ => hno k' t b h9 a c)
  refine lp (σ := xg_H) (R := fun k s => R57 (nI k) s) J 1 31 (by decide) ?_ ?_ _ ?_
  · intro h' hj
    exact c57 _ _ (bq_t (by decide) (fin 31 h' (by decide) (by decide) hj (Or.inl rfl)))
  · intro k h' hk1 hk31 hj ih
    obtain ⟨i1, i2, i3, i4, i5⟩ := (hJ _ _).mp hj
    refine c57 _ _ (bq_f (nI_nlt (b := k) (a := 30) (by omega) (by decide)) ⟨nm (w + 3), (i1.2 _ _).trans o2, k3.1, ?_⟩)
    rw [nl_1, pk_sub hk1, k3.2, nI_clamp (by omega)]
    refine ⟨vp_in_nI (by omega) (by decide), ?_⟩
    have hl := isB_zero (i4 (k - 1) (by omega))
    refine ⟨fun c => fin k h' hk1 (by omega) hj (Or.inr (fun t b ht hp => hl.mp c t ⟨ht, b, hp⟩)), fun c => ?_⟩
    have D1 := D.mv i1 (by simp) (by simp) (by simp)
    rw [i1.2, o8, i1.i w (by simp), D.2.1]
    refine sp_fillR hn k6 (by omega) hrN (fun h4 e4 f4 => ?_)
    -- all rows pass on
    have E4 : xd nm [w + 2, w + 3, w + 5, w + 6] h' h4 := e4.mono (fun c hc => by simp at hc ⊢; omega)
    refine lp (σ := xg_H) (R := fun i s => R89 (nI k) (nI i) s) (fun i s => xd nm [w + 6] h' s ∧ ∀ j, j < r → isB (xg_i s (nm (w + 6)) j) (fun t => ∃ i' s', i' < i ∧ sb s' m ∧ 0 < dl z (cs i') s' ∧ cs j = nc z (cs i') s' ∧ t ≤ 30 ∧ ∃ t0, (t0 ≤ 30 ∧ PK z m c0 (k - 1) t0 (cs i')) ∧ t = t0 + dl z (cs i') s')) 0 r (Nat.zero_le r) ?_ ?_ h4 ⟨e4, fun j hj => by rw [f4, if_pos hj]; exact isB_0 (fun t ⟨i', s', a, _⟩ => absurd a (Nat.not_lt_zero i'))⟩
    · rintro s ⟨e5, f5⟩
      refine c89 _ _ _ (bq_t ?_ ?_)
      · rw [e5.i w (by simp), i1.i w (by simp), D.2.1]; exact nI_le (Nat.le_refl r) (by omega)
      -- the next layer
      have nl : ∀ j, j < r → isB (xg_i s (nm (w + 6)) j) (fun t => t ≤ 30 ∧ PK z m c0 k t (cs j)) := by
        intro j hj
        refine (f5 j hj).congr (fun t => ?_)
        constructor
        · rintro ⟨i', s', a, b, d, e, f, t0, ⟨g1, g2⟩, rfl⟩
          refine ⟨f, ?_⟩
          have := PK_s.mpr ⟨s', t0, cs i', g2, b, d, rfl, e⟩
          rw [show k - 1 + 1 = k by omega] at this
          exact this
        · rintro ⟨ht, hp⟩
          rw [show k = k - 1 + 1 by omega] at hp
          obtain ⟨s', t', b', g1, g2, g3, g4, g5⟩ := PK_s.mp hp
          obtain ⟨i', hi', rfl⟩ := D.row g1
          exact ⟨i', s', hi', g2, g3, g5, ht, t', ⟨by omega, g1⟩, g4⟩
      refine lp (σ := xg_H) (R := fun i s2 => R119 (nI k) (nI i) s2) (fun i s2 => xd nm [w + 2, w + 3, w + 5] s s2 ∧ (∀ j, j < r → isB (xg_i s2 (nm (w + 5)) j) (fun t => t ≤ 30 ∧ PK z m c0 (if j < i then k else k - 1) t (cs j))) ∧ (∀ j, j < r → isB (xg_i s2 (nm (w + 2)) j) (fun t => t ≤ 30 ∧ ∃ k', (k' < k ∨ k' = k ∧ j < i) ∧ PK z m c0 k' t (cs j))) ∧ (∀ k', k' < k → isB (xg_i s2 (nm (w + 3)) k') (fun t => t ≤ 30 ∧ ∃ b, PK z m c0 k' t b)) ∧ isB (xg_i s2 (nm (w + 3)) k) (fun t => t ≤ 30 ∧ ∃ j, j < i ∧ PK z m c0 k t (cs j)) ∧ ∀ k', k < k' → k' ≤ 30 → xg_i s2 (nm (w + 3)) k' = nI 0) 0 r (Nat.zero_le r) ?_ ?_ s ⟨xd.rf, ?_, ?_, ?_, ?_, ?_⟩
      · rintro s2 ⟨e6, l1, l2, l3, l4, l5⟩
        refine c119 _ _ _ (bq_t ?_ ?_)
        · rw [e6.i w (by simp), e5.i w (by simp), i1.i w (by simp), D.2.1]; exact nI_le (Nat.le_refl r) (by omega)
        · rintro _ rfl
          rw [nI_1]
          refine ih s2 ((hJ _ _).mpr ⟨(i1.tr (e5.mono (fun c hc => by simp at hc ⊢; omega))).tr (e6.mono (fun c hc => by simp at hc ⊢; omega)), fun i hi => ?_, fun i hi => ?_, fun k' hk' => ?_, fun k' h1 h2 => l5 k' (by omega) h2⟩)
          · have := l1 i hi
            simp only [if_pos hi] at this
            exact this
          · exact (l2 i hi).congr (fun t => ⟨fun ⟨a, k', b, c⟩ => ⟨a, k', by omega, c⟩, fun ⟨a, k', b, c⟩ => ⟨a, k', by omega, c⟩⟩)
          · rcases Nat.lt_or_ge k' k with h9 | h9
            · exact l3 k' h9
            · rw [show k' = k by omega]
              refine l4.congr (fun t => ⟨fun ⟨a, j, b, c⟩ => ⟨a, cs j, c⟩, fun ⟨a, b, c⟩ => ?_⟩)
              obtain ⟨j, hj, rfl⟩ := D.row c
              exact ⟨a, j, hj, c⟩
      · rintro i s2 _ hi ⟨e6, l1, l2, l3, l4, l5⟩ ih2
        refine c119 _ _ _ (bq_f ?_ ⟨nm (w + 6), (e6.2 _ _).trans ((e5.2 _ _).trans ((i1.2 _ _).trans o8)), k6.1, ?_⟩)
        · rw [e6.i w (by simp), e5.i w (by simp), i1.i w (by simp), D.2.1]; exact nI_ge hi (by omega)
        rw [k6.2, nI_clamp (by omega)]
        refine ⟨vp_in_nI (by omega) (by omega), nm (w + 5), (e6.2 _ _).trans ((e5.2 _ _).trans ((i1.2 _ _).trans o7)), k5.1, ?_⟩
        rw [k5.2]
        refine ⟨vp_in_nI (by omega) (by omega), ?_⟩
        rintro _ rfl
        refine ⟨nm (w + 2), (e6.2 _ _).trans ((e5.2 _ _).trans ((i1.2 _ _).trans o1)), k2.1, ?_⟩
        rw [k2.2]
        refine ⟨vp_in_nI (by omega) (by omega), nm (w + 5), (e6.2 _ _).trans ((e5.2 _ _).trans ((i1.2 _ _).trans o7)), k5.1, ?_⟩
        rw [k5.2]
        refine ⟨vp_in_nI (by omega) (by omega), vp_in_nI (by omega) (by omega), ?_⟩
        rintro _ rfl
        refine ⟨nm (w + 3), (e6.2 _ _).trans ((e5.2 _ _).trans ((i1.2 _ _).trans o2)), k3.1, ?_⟩
        rw [k3.2, nI_clamp (n := k) (by omega)]
        refine ⟨vp_in_nI (by omega) (by decide), nm (w + 5), (e6.2 _ _).trans ((e5.2 _ _).trans ((i1.2 _ _).trans o7)), k5.1, ?_⟩
        rw [k5.2]
        refine ⟨vp_in_nI (by omega) (by omega), vp_in_nI (by omega) (by decide), ?_⟩
        rintro _ rfl _ rfl
        rw [nI_1]
        have v6 : xg_i s2 (nm (w + 6)) i = xg_i s (nm (w + 6)) i := e6.i _ (by simp) i
        have N := nl i hi
        have n1 : ¬ w + 2 = w + 5 := by omega
        have n2 : ¬ w + 3 = w + 2 := by omega
        have n3 : ¬ w + 3 = w + 5 := by omega
        have n4 : ¬ w + 5 = w + 2 := by omega
        simp only [xu hn, n1, n2, n3, n4, false_and, if_false, and_self, if_true, v6]
        refine ih2 _ ⟨xd.ui hn (xd.ui hn (xd.ui hn e6 (by simp)) (by simp)) (by simp), fun j hj => ?_, fun j hj => ?_, fun k' hk' => ?_, ?_, fun k' h1 h2 => ?_⟩
        · rw [xu_c hn (by omega), xu_c hn (by omega), xu hn]
          by_cases ej : j = i
          · rw [if_pos ⟨rfl, ej⟩]
            simp only [if_pos (show j < i + 1 by omega)]
            rw [ej]; exact N
          · rw [if_neg (fun q => ej q.2)]
            have := l1 j hj
            by_cases h9 : j < i
            · simp only [if_pos h9] at this; simp only [if_pos (show j < i + 1 by omega)]; exact this
            · simp only [if_neg h9] at this; simp only [if_neg (show ¬ j < i + 1 by omega)]; exact this
        · rw [xu_c hn (by omega), xu hn]
          by_cases ej : j = i
          · subst ej
            rw [if_pos ⟨rfl, rfl⟩]
            refine (isB_or (l2 j hj) N).congr (fun t => ?_)
            constructor
            · rintro (⟨a, k', b, c⟩ | ⟨a, b⟩)
              · exact ⟨a, k', by omega, c⟩
              · exact ⟨a, k, by omega, b⟩
            · rintro ⟨a, k', b, c⟩
              rcases Nat.lt_or_ge k' k with h9 | h9
              · exact Or.inl ⟨a, k', Or.inl h9, c⟩
              · rw [show k' = k by omega] at c; exact Or.inr ⟨a, c⟩
          · rw [if_neg (fun q => ej q.2), xu_c hn (by omega)]
            exact (l2 j hj).congr (fun t => ⟨fun ⟨a, k', b, c⟩ => ⟨a, k', by omega, c⟩, fun ⟨a, k', b, c⟩ => ⟨a, k', by omega, c⟩⟩)
        · rw [xu_p hn (by omega), xu_c hn (by omega), xu_c hn (by omega)]; exact l3 k' hk'
        · rw [xu hn, if_pos ⟨rfl, rfl⟩]
          refine (isB_or l4 N).congr (fun t => ?_)
          constructor
          · rintro (⟨a, j, b, c⟩ | ⟨a, b⟩)
            · exact ⟨a, j, by omega, c⟩
            · exact ⟨a, i, by omega, b⟩
          · rintro ⟨a, j, b, c⟩
            rcases Nat.lt_or_ge j i with h9 | h9
            · exact Or.inl ⟨a, j, h9, c⟩
            · rw [show j = i by omega] at c; exact Or.inr ⟨a, c⟩
        · rw [xu_p hn (by omega), xu_c hn (by omega), xu_c hn (by omega)]; exact l5 k' h1 h2
      · intro j hj
        simp only [Nat.not_lt_zero, if_false]
        rw [e5.i _ (by simp)]; exact i2 j hj
      · intro j hj
        rw [e5.i _ (by simp)]
        exact (i3 j hj).congr (fun t => ⟨fun ⟨a, k', b, c⟩ => ⟨a, k', Or.inl b, c⟩, fun ⟨a, k', b, c⟩ => ⟨a, k', by omega, c⟩⟩)
      · intro k' hk'
        rw [e5.i _ (by simp)]; exact i4 k' hk'
      · rw [e5.i _ (by simp), i5 k (Nat.le_refl k) (by omega)]
        exact isB_0 (fun t ⟨_, j, a, _⟩ => absurd a (Nat.not_lt_zero j))
      · intro k' h1 h2
        rw [e5.i _ (by simp)]; exact i5 k' (by omega) h2
    · rintro i s _ hi ⟨e5, f5⟩ ih2
      have D5 := D1.mv e5 (by simp) (by simp) (by simp)
      have l5 : isB (xg_i s (nm (w + 5)) i) (fun t => t ≤ 30 ∧ PK z m c0 (k - 1) t (cs i)) := by rw [e5.i _ (by simp)]; exact i2 i hi
      have nxt : ∀ s2, xd nm [w + 6] h' s2 → (∀ j, j < r → isB (xg_i s2 (nm (w + 6)) j) (fun t => (∃ i' s', i' < i ∧ sb s' m ∧ 0 < dl z (cs i') s' ∧ cs j = nc z (cs i') s' ∧ t ≤ 30 ∧ ∃ t0, (t0 ≤ 30 ∧ PK z m c0 (k - 1) t0 (cs i')) ∧ t = t0 + dl z (cs i') s') ∨ ∃ s', s' ≤ m ∧ sb s' m ∧ 0 < dl z (cs i) s' ∧ cs j = nc z (cs i) s' ∧ t ≤ 30 ∧ ∃ t0, (t0 ≤ 30 ∧ PK z m c0 (k - 1) t0 (cs i)) ∧ t = t0 + dl z (cs i) s')) → R111 (nI k) (nI i) s2 := by
        intro s2 g1 g2
        refine c111 _ _ _ ?_
        rintro _ rfl
        rw [nI_1]
        refine ih2 s2 ⟨g1, fun j hj => (g2 j hj).congr (fun t => ?_)⟩
        constructor
        · rintro (⟨i', s', a, b⟩ | ⟨s', a, b⟩)
          · exact ⟨i', s', by omega, b⟩
          · exact ⟨i, s', by omega, b⟩
        · rintro ⟨i', s', a, b⟩
          rcases Nat.lt_or_ge i' i with h9 | h9
          · exact Or.inl ⟨i', s', h9, b⟩
          · rw [show i' = i by omega] at b
            exact Or.inr ⟨s', sb_le b.1, b⟩
      refine c89 _ _ _ (bq_f ?_ ⟨nm (w + 5), (e5.2 _ _).trans ((i1.2 _ _).trans o7), k5.1, ?_⟩)
      · rw [e5.i w (by simp), i1.i w (by simp), D.2.1]; exact nI_ge hi (by omega)
      rw [k5.2, nI_clamp (by omega)]
      refine ⟨vp_in_nI (by omega) (by omega), fun c => nxt s e5 (fun j hj => (f5 j hj).congr (fun t => ⟨Or.inl, fun q => q.elim id (fun ⟨s', _, _, _, _, _, t0, a, _⟩ => absurd a ((isB_zero l5).mp c t0))⟩)), fun c => ?_⟩
      refine sp_X10_passOn (N := N) (q0 := fun t => t ≤ 30 ∧ PK z m c0 (k - 1) t (cs i)) hn (L0.mv (i1.tr (e5.mono (fun c hc => by simp at hc ⊢; omega)))) hz hm D5 hi f5 l5 (fun s2 e6 f6 => nxt s2 (e5.tr e6) f6)
  · refine (hJ _ _).mpr ⟨?_, fun i hi => ?_, fun i hi => ?_, fun k' hk' => ?_, fun k' h9 h10 => ?_⟩
    · exact xd.ui hn (xd.ui hn (xd.ui hn (((e1.mono (fun c hc => by simp at hc ⊢; omega)).tr (e2.mono (fun c hc => by simp at hc ⊢; omega))).tr (e3.mono (fun c hc => by simp at hc ⊢; omega))) (by simp)) (by simp)) (by simp)
    · rw [xu_c hn (by omega), xu_c hn (by omega), xu hn]
      by_cases e : i = 0
      · rw [if_pos ⟨rfl, e⟩, e, D.1.2.2]
        refine ⟨1, rfl, bs_congr (bs_bit (t := 0) (by decide)) (fun t => ?_)⟩
        rw [PK_0]; omega
      · rw [if_neg (fun q => e q.2), f3, if_pos hi]
        refine isB_0 (fun t ⟨_, b⟩ => e (D.2.2.2.2.1 i 0 hi (by omega) ?_))
        rw [D.1.2.2]; exact (PK_0.mp b).2
    · rw [xu_c hn (by omega), xu hn]
      by_cases e : i = 0
      · rw [if_pos ⟨rfl, e⟩, e, D.1.2.2]
        refine ⟨1, rfl, bs_congr (bs_bit (t := 0) (by decide)) (fun t => ?_)⟩
        refine ⟨fun e9 => ⟨by omega, 0, by omega, PK_0.mpr ⟨e9, rfl⟩⟩, fun ⟨_, k', a, b⟩ => ?_⟩
        rw [show k' = 0 by omega] at b
        exact (PK_0.mp b).1
      · rw [if_neg (fun q => e q.2), xu_c hn (by omega), e3.i _ (by simp), f2, if_pos hi]
        refine isB_0 (fun t ⟨_, k', a, b⟩ => e (D.2.2.2.2.1 i 0 hi (by omega) ?_))
        rw [show k' = 0 by omega] at b
        rw [D.1.2.2]; exact (PK_0.mp b).2
    · rw [show k' = 0 by omega, xu hn, if_pos ⟨rfl, rfl⟩]
      refine ⟨1, rfl, bs_congr (bs_bit (t := 0) (by decide)) (fun t => ?_)⟩
      exact ⟨fun e9 => ⟨by omega, c0, PK_0.mpr ⟨e9, rfl⟩⟩, fun ⟨_, b, c⟩ => (PK_0.mp c).1⟩
    · rw [xu_p hn (by omega), xu_c hn (by omega), xu_c hn (by omega), e3.i _ (by simp), e2.i _ (by simp), f1, if_pos (by omega)]; rfl
theorem sp_X10_eventMinutes {Y : xg_Y} {Q : Int32 → xg_H → Prop} {h : xg_H} {nm : Nat → Nat} {w N m c0 r : Nat} {z : Nat → Nat} {cs : Nat → Nat} (L : LW Y h nm w N) (M : WM z m c0 h nm w r cs) (q : ∀ v, isB v (fun t => (1 ≤ t ∧ t ≤ 30) ∧ ∃ b, rc z m c0 t b) → Q v h) : wp_X10_eventMinutes Y Q (nm w) h := by
  obtain ⟨k10, ⟨o0, k1⟩, ⟨o1, k2⟩, ⟨o2, k3⟩, _⟩ := L
  unfold wp_X10_eventMinutes
  refine ⟨k10, fun R4 c4 => ?_⟩
  refine lp (σ := Int32) (R := fun k v => R4 v (nI k) h) (fun k v => isB v (fun t => t ≤ 30 ∧ ∃ k' b, 1 ≤ k' ∧ k' < k ∧ PK z m c0 k' t b)) 1 31 (by decide) ?_ ?_ (nI 0) (isB_0 (fun t ⟨_, k', _, a, b, _⟩ => by omega))
  · intro v hv
    refine c4 _ _ _ (bq_t (by decide) (q v (hv.congr (fun t => ?_))))
    constructor
    · rintro ⟨a, k', b, h1, h2, h3⟩
      have := PK_le h3
      exact ⟨by omega, b, k', h3⟩
    · rintro ⟨a, b, k', h3⟩
      have := PK_le h3
      refine ⟨a.2, k', b, ?_, by omega, h3⟩
      rcases Nat.eq_zero_or_pos k' with e | e
      · rw [e] at h3
        have := (PK_0.mp h3).1
        omega
      · exact e
  · intro k v hk1 hk hv ih
    refine c4 _ _ _ (bq_f (nI_nlt (b := k) (a := 30) (by omega) (by decide)) ⟨nm (w + 3), o2, k3.1, ?_⟩)
    rw [k3.2, nI_clamp (by omega)]
    refine ⟨vp_in_nI (by omega) (by decide), ?_⟩
    rintro _ rfl _ rfl
    rw [nI_1]
    refine ih _ ((isB_or hv (M.2 k (by omega))).congr (fun t => ?_))
    constructor
    · rintro (⟨a, k', b, h1, h2, h3⟩ | ⟨a, b, h3⟩)
      · exact ⟨a, k', b, h1, by omega, h3⟩
      · exact ⟨a, k, b, hk1, by omega, h3⟩
    · rintro ⟨a, k', b, h1, h2, h3⟩
      rcases Nat.lt_or_ge k' k with h9 | h9
      · exact Or.inl ⟨a, k', b, h1, h9, h3⟩
      · rw [show k' = k by omega] at h3
        exact Or.inr ⟨a, b, h3⟩
