/-! Costs: by, workOut, of -/
/-- x is the least of which P is so; 1000000 or more: there is none -/
def lsG (P : Nat → Prop) (x : Nat) : Prop := (1000000 ≤ x ∧ ∀ m, ¬ P m) ∨ (x < 1000000 ∧ P x ∧ ∀ j, P j → x ≤ j)
theorem lsG_congr {P P' : Nat → Prop} {x : Nat} (h : lsG P x) (e : ∀ m, P m ↔ P' m) : lsG P' x := by
  rcases h with ⟨a, b⟩ | ⟨a, b, c⟩
  · exact Or.inl ⟨a, fun m p => b m ((e m).mpr p)⟩
  · exact Or.inr ⟨a, (e x).mp b, fun j p => c j ((e j).mpr p)⟩
theorem lsG_min {P P' : Nat → Prop} {x x' : Nat} (h : lsG P x) (h' : lsG P' x') : lsG (fun m => P m ∨ P' m) (if x' < x then x' else x) := by
  rcases h with ⟨a, b⟩ | ⟨a, b, c⟩ <;> rcases h' with ⟨a', b'⟩ | ⟨a', b', c'⟩
  · refine Or.inl ⟨by split <;> omega, fun m q => q.elim (b m) (b' m)⟩
  · rw [if_pos (by omega)]; exact Or.inr ⟨a', Or.inr b', fun j q => q.elim (fun q => absurd q (b j)) (c' j)⟩
  · rw [if_neg (by omega)]; exact Or.inr ⟨a, Or.inl b, fun j q => q.elim (c j) (fun q => absurd q (b' j))⟩
  · by_cases h : x' < x
    · rw [if_pos h]; exact Or.inr ⟨a', Or.inr b', fun j q => q.elim (fun q => by have := c j q; omega) (c' j)⟩
    · rw [if_neg h]; exact Or.inr ⟨a, Or.inl b, fun j q => q.elim (c j) (fun q => by have := c' j q; omega)⟩
/-- both kinds of least agree -/
theorem lst_lsG {P P' : Nat → Prop} {v : Int32} {x : Nat} (h : lst P v) (h' : lsG P' x) (e : ∀ m, P m ↔ P' m) : (v = nM ∧ 1000000 ≤ x ∧ ∀ m, ¬ P m) ∨ (v = nI x ∧ x < 1000000 ∧ P x) := by
  rcases h with ⟨a, b⟩ | ⟨m, a, b, c⟩ <;> rcases h' with ⟨a', b'⟩ | ⟨a', b', c'⟩
  · exact Or.inl ⟨a, a', b⟩
  · exact absurd ((e x).mpr b') (b x)
  · exact absurd ((e m).mp b) (b' m)
  · have h1 := c x ((e x).mpr b')
    have h2 := c' m ((e m).mp b)
    have e9 : x = m := by omega
    subst e9
    exact Or.inr ⟨a, a', b⟩
/-- weights of rows of sets from the code b to an end t minutes behind it, what the end costs with it -/
def BW (z : Nat → Nat) (m : Nat) (wt ev : Nat → Nat) (r : Nat) (cs : Nat → Nat) (t b w : Nat) : Prop := ∃ k b' w1 j, pt z m wt k b t b' w1 ∧ j < r ∧ cs j = b' ∧ ev j < 1000000 ∧ w = w1 + ev j
theorem BW_0 {z : Nat → Nat} {m : Nat} {wt ev : Nat → Nat} {r : Nat} {cs : Nat → Nat} {b w : Nat} : BW z m wt ev r cs 0 b w ↔ ∃ j, j < r ∧ cs j = b ∧ ev j < 1000000 ∧ w = ev j := by
  constructor
  · rintro ⟨k, b', w1, j, h1, h2, h3, h4, h5⟩
    have := pt_k h1
    have e : k = 0 := by omega
    subst e
    obtain ⟨_, rfl, rfl⟩ := h1
    exact ⟨j, h2, h3, h4, by omega⟩
  · rintro ⟨j, h2, h3, h4, h5⟩
    exact ⟨0, b, 0, j, ⟨rfl, rfl, rfl⟩, h2, h3, h4, by omega⟩
theorem BW_s {z : Nat → Nat} {m : Nat} {wt ev : Nat → Nat} {r : Nat} {cs : Nat → Nat} {t b w : Nat} (ht : 1 ≤ t) : BW z m wt ev r cs t b w ↔ ∃ s, s ≤ m ∧ sb s m ∧ 0 < dl z b s ∧ dl z b s ≤ t ∧ ∃ w', BW z m wt ev r cs (t - dl z b s) (nc z b s) w' ∧ w = wt s + w' := by
  constructor
  · rintro ⟨k, b', w1, j, h1, h2, h3, h4, h5⟩
    cases k with
    | zero => obtain ⟨e, _⟩ := h1; omega
    | succ k =>
      obtain ⟨s, t', w', g1, g2, g3, g4, g5⟩ := h1
      refine ⟨s, sb_le g1, g1, g2, by omega, w' + ev j, ⟨k, b', w', j, ?_, h2, h3, h4, rfl⟩, by omega⟩
      rw [show t - dl z b s = t' by omega]; exact g5
  · rintro ⟨s, _, g1, g2, g3, w', ⟨k, b', w1, j, h1, h2, h3, h4, h5⟩, h6⟩
    exact ⟨k + 1, b', wt s + w1, j, ⟨s, t - dl z b s, w1, g1, g2, by omega, rfl, h1⟩, h2, h3, h4, by omega⟩
def LC (Y : xg_Y) (h : xg_H) (nm : Nat → Nat) (c w N : Nat) : Prop := xg_is Y (nm c) 3 ∧ (xg_o h (nm c) 0 = some (nm (c + 1)) ∧ xk Y nm (c + 1) 22 16) ∧ (xg_o h (nm c) 1 = some (nm (c + 2)) ∧ xk Y nm (c + 2) 22 N) ∧ xg_o h (nm c) 2 = some (nm w) ∧ xg_i h (nm c) 3 = nI N ∧ (xg_o h (nm c) 4 = some (nm (c + 3)) ∧ xk Y nm (c + 3) 22 (31 * N)) ∧ w + 10 ≤ c
theorem LC.mv {Y : xg_Y} {h h2 : xg_H} {nm : Nat → Nat} {c w N : Nat} {L : List Nat} (a : LC Y h nm c w N) (e : xd nm L h h2) (hc : c ∉ L) : LC Y h2 nm c w N := by
  obtain ⟨a1, ⟨a2, a3⟩, ⟨a4, a5⟩, a6, a7, ⟨a8, a9⟩, a10⟩ := a
  exact ⟨a1, ⟨(e.2 _ _).trans a2, a3⟩, ⟨(e.2 _ _).trans a4, a5⟩, (e.2 _ _).trans a6, (e.i c hc 3).trans a7, ⟨(e.2 _ _).trans a8, a9⟩, a10⟩
/-- what is to be worked out: weights and ends -/
def CE (h : xg_H) (nm : Nat → Nat) (c r m V : Nat) (wt ev : Nat → Nat) : Prop := V ≤ 1000 ∧ (∀ s, s ≤ m → xg_i h (nm (c + 1)) s = nI (wt s) ∧ wt s ≤ V) ∧ ∀ j, j < r → xg_i h (nm (c + 2)) j = nI (ev j) ∧ (ev j = 1000000 ∨ ev j + 30 * V < 1000000)
theorem CE.mv {h h2 : xg_H} {nm : Nat → Nat} {c r m V : Nat} {wt ev : Nat → Nat} {L : List Nat} (a : CE h nm c r m V wt ev) (e : xd nm L h h2) (h1 : c + 1 ∉ L) (h3 : c + 2 ∉ L) : CE h2 nm c r m V wt ev := ⟨a.1, fun s hs => ⟨(e.i _ h1 s).trans (a.2.1 s hs).1, (a.2.1 s hs).2⟩, fun j hj => ⟨(e.i _ h3 j).trans (a.2.2 j hj).1, (a.2.2 j hj).2⟩⟩
/-- worked out of minute t' and row j -/
def CT (z : Nat → Nat) (m : Nat) (wt ev : Nat → Nat) (r : Nat) (cs : Nat → Nat) (h : xg_H) (nm : Nat → Nat) (c N t' j : Nat) : Prop := ∃ x, xg_i h (nm (c + 3)) (t' * N + j) = nI x ∧ x ≤ 1000000 ∧ lsG (BW z m wt ev r cs t' (cs j)) x
theorem BW_lt {z : Nat → Nat} {m V : Nat} {wt ev : Nat → Nat} {r : Nat} {cs : Nat → Nat} {t b w : Nat} (hV : ∀ s, s ≤ m → wt s ≤ V) (he : ∀ j, j < r → (ev j = 1000000 ∨ ev j + 30 * V < 1000000)) (ht : t ≤ 30) (h : BW z m wt ev r cs t b w) : w < 1000000 := by
  obtain ⟨k, b', w1, j, h1, h2, h3, h4, h5⟩ := h
  have g1 := pt_w hV h1
  have g2 := pt_k h1
  have g3 := Nat.mul_le_mul_right V (show k ≤ 30 by omega)
  have := he j h2
  omega
theorem sp_X3_by {Y : xg_Y} {Q : Int32 → xg_H → Prop} {h : xg_H} {nm : Nat → Nat} {c w N m c0 r V i s t : Nat} {z : Nat → Nat} {cs wt ev : Nat → Nat} (LWh : LW Y h nm w N) (L : LC Y h nm c w N) (hz : zok z) (hm : m < 16) (D : WD z m c0 h nm w N r cs) (E : CE h nm c r m V wt ev) (hi : i < r) (hs : s ≤ m) (ht : 1 ≤ t) (ht30 : t ≤ 30) (hT : ∀ t' j, 1 ≤ t' → t' < t → j < r → CT z m wt ev r cs h nm c N t' j) (q : ∀ x, x < 2 ^ 30 → lsG (fun w => (sb s m ∧ 0 < dl z (cs i) s ∧ dl z (cs i) s ≤ t) ∧ ∃ w', BW z m wt ev r cs (t - dl z (cs i) s) (nc z (cs i) s) w' ∧ w = wt s + w') x → Q (nI x) h) : wp_X3_by Y Q (nm c) (nI i) (nI s) (nI t) h := by
  obtain ⟨k10, ⟨o0, k1⟩, ⟨o1, k2⟩, ⟨o2, k3⟩, ⟨o3, k4⟩, o6, ⟨o7, k5⟩, ⟨o8, k6⟩, hN, hw⟩ := LWh
  obtain ⟨b3, ⟨p0, b4⟩, ⟨p1, b5⟩, p2, p3, ⟨p4, b6⟩, hcw⟩ := L
  obtain ⟨hV, hE1, hE2⟩ := E
  have hrN := D.1.2.1
  unfold wp_X3_by
  refine ⟨b3, fun R55 R94 c55 c94 => ⟨nm w, p2, k10, nm (w + 4), o3, k4.1, ?_⟩⟩
  rw [k4.2, nl_16, pk_mul, nI_add, nI_clamp (by omega)]
  refine ⟨vp_in_nI (by omega) (by omega), ?_⟩
  rintro _ rfl _ rfl _ rfl
  obtain ⟨e1, e2⟩ := D.2.2.2.2.2 i s hi hs
  have far : ¬ (sb s m ∧ 0 < dl z (cs i) s ∧ dl z (cs i) s ≤ t) → R55 h := fun hno => c55 _ (q 1000000 (by decide) (Or.inl ⟨Nat.le_refl _, fun m q => hno q.1⟩))
  by_cases hd : sb s m ∧ 0 < dl z (cs i) s
  · obtain ⟨j, hj, ej, ew⟩ := e1 hd
    have hd7 := dl_le (c := cs i) (s := s) hz
    rw [ew, nl_4095, m4095, sh12 (by omega), show (dl z (cs i) s * 4096 + j) / 4096 = dl z (cs i) s by omega, show (dl z (cs i) s * 4096 + j) % 4096 = j by omega, D.2.1]
    refine bq_f (fun e9 => ?_) ?_
    · have := (nI_eq (a := dl z (cs i) s * 4096 + j) (b := 0) (by omega) (by decide)).mp e9
      omega
    by_cases hdt : dl z (cs i) s ≤ t
    · rw [pk_sub hdt]
      refine bq_f (nI_pos (by omega)) (bq_t (nI_lt hj (by omega)) ⟨nm (c + 1), p0, b4.1, ?_⟩)
      rw [b4.2, nI_clamp (n := s) (by omega), (hE1 s hs).1, p3]
      refine ⟨vp_in_nI (by omega) (by decide), ?_⟩
      have hws := (hE1 s hs).2
      have last : ∀ x, x ≤ 1000000 → lsG (BW z m wt ev r cs (t - dl z (cs i) s) (nc z (cs i) s)) x → R94 (nI x) (nI (wt s)) h := by
        intro x hx hl
        refine c94 _ _ _ ?_
        rw [nI_add]
        refine q _ (by omega) ?_
        rcases hl with ⟨a, b⟩ | ⟨a, b, d⟩
        · exact Or.inl ⟨by omega, fun m ⟨_, w', g1, _⟩ => b w' g1⟩
        · refine Or.inr ⟨?_, ⟨⟨hd.1, hd.2, hdt⟩, x, b, rfl⟩, fun j ⟨_, w', g1, g2⟩ => by have := d w' g1; omega⟩
          obtain ⟨k, b', w1, j2, g1, g2, g3, g4, g5⟩ := b
          have f1 := pt_w (B := V) (fun s hs => (hE1 s hs).2) g1
          have f2 := pt_k g1
          have f3 := Nat.mul_le_mul_right V (show k + 1 ≤ 30 by omega)
          have := (hE2 j2 g2).2
          rw [Nat.add_mul] at f3
          omega
      by_cases h0 : t - dl z (cs i) s = 0
      · rw [h0]
        refine bq_nf rfl ⟨nm (c + 2), p1, b5.1, ?_⟩
        rw [b5.2, nI_clamp (by omega), (hE2 j hj).1]
        refine ⟨vp_in_nI (by omega) (by omega), last _ ?_ ?_⟩
        · have := (hE2 j hj).2; omega
        · rw [h0]
          have hj2 := (hE2 j hj).2
          rcases hj2 with e9 | e9
          · refine Or.inl ⟨by omega, fun m hm => ?_⟩
            obtain ⟨j2, g1, g2, g3, g4⟩ := BW_0.mp hm
            rw [D.2.2.2.2.1 j2 j g1 hj (g2.trans ej.symm)] at g3
            omega
          · refine Or.inr ⟨by omega, BW_0.mpr ⟨j, hj, ej, by omega, rfl⟩, fun m hm => ?_⟩
            obtain ⟨j2, g1, g2, g3, g4⟩ := BW_0.mp hm
            rw [D.2.2.2.2.1 j2 j g1 hj (g2.trans ej.symm)] at g4
            omega
      · refine bq_nt (fun e9 => h0 ((nI_eq (b := 0) (by omega) (by decide)).mp e9)) ⟨nm (c + 3), p4, b6.1, ?_⟩
        have hle := Nat.mul_le_mul_right N (show t - dl z (cs i) s ≤ 29 by omega)
        obtain ⟨x, x1, x2, x3⟩ := hT (t - dl z (cs i) s) j (by omega) (by omega) hj
        rw [b6.2, pk_mul, nI_add, nI_clamp (by omega), x1]
        refine ⟨vp_in_nI (by omega) (by omega), last x x2 ?_⟩
        rw [ej] at x3; exact x3
    · refine bq_t ?_ (far (fun q => hdt q.2.2))
      exact pk_sneg (by omega) (by omega)
  · rw [e2 hd]
    exact bq_t rfl (far (fun q => hd ⟨q.1, q.2.1⟩))
theorem sp_X3_workOut {Y : xg_Y} {Q : xg_H → Prop} {h : xg_H} {nm : Nat → Nat} {c w N m c0 r V T : Nat} {z : Nat → Nat} {cs wt ev : Nat → Nat} (hn : inj nm) (LWh : LW Y h nm w N) (L : LC Y h nm c w N) (hz : zok z) (hm : m < 16) (D : WD z m c0 h nm w N r cs) (E : CE h nm c r m V wt ev) (hT : T ≤ 30) (q : ∀ h', xd nm [c + 3] h h' → (∀ t j, 1 ≤ t → t ≤ T → j < r → CT z m wt ev r cs h' nm c N t j) → Q h') : wp_X3_workOut Y Q (nm c) (nI T) h := by
  have LW0 := LWh
  have L0 := L
  obtain ⟨k10, ⟨o0, k1⟩, ⟨o1, k2⟩, ⟨o2, k3⟩, ⟨o3, k4⟩, o6, ⟨o7, k5⟩, ⟨o8, k6⟩, hN, hw⟩ := LWh
  obtain ⟨b3, ⟨p0, b4⟩, ⟨p1, b5⟩, p2, p3, ⟨p4, b6⟩, hcw⟩ := L
  have hrN := D.1.2.1
  unfold wp_X3_workOut
  refine ⟨b3, fun R2 R15 R33 c2 c15 c33 => ?_⟩
  refine lp (σ := xg_H) (R := fun t s => R2 (nI t) s) (fun t s => xd nm [c + 3] h s ∧ ∀ t' j, 1 ≤ t' → t' < t → j < r → CT z m wt ev r cs s nm c N t' j) 1 (T + 1) (by omega) ?_ ?_ h ⟨xd.rf, fun t' j h1 h2 => by omega⟩
  · rintro s ⟨e, f⟩
    exact c2 _ _ (bq_t (nI_lt (by omega) (by omega)) (q s e (fun t j h1 h2 h3 => f t j h1 (by omega) h3)))
  · rintro t s ht1 htT ⟨e, f⟩ ih
    refine c2 _ _ (bq_f (nI_nlt (by omega) (by omega)) (bq_f (nI_nlt (b := t) (a := 30) (by omega) (by omega)) ?_))
    refine lp (σ := xg_H) (R := fun i s => R15 (nI t) (nI i) s) (fun i s => xd nm [c + 3] h s ∧ ∀ t' j, 1 ≤ t' → (t' < t ∨ t' = t ∧ j < i) → j < r → CT z m wt ev r cs s nm c N t' j) 0 r (Nat.zero_le r) ?_ ?_ s ⟨e, fun t' j h1 h2 => f t' j h1 (by omega)⟩
    · rintro s ⟨e, f⟩
      refine c15 _ _ _ ⟨nm w, (e.2 _ _).trans p2, k10, bq_t ?_ ?_⟩
      · rw [e.i w (by simp; omega), D.2.1]; exact nI_le (Nat.le_refl r) (by omega)
      · rintro _ rfl
        rw [nI_1]
        exact ih s ⟨e, fun t' j h1 h2 h3 => f t' j h1 (by omega) h3⟩
    · rintro i s _ hi ⟨e, f⟩ ih2
      refine c15 _ _ _ ⟨nm w, (e.2 _ _).trans p2, k10, bq_f ?_ ?_⟩
      · rw [e.i w (by simp; omega), D.2.1]; exact nI_ge hi (by omega)
      have D2 := D.mv e (by simp; omega) (by simp; omega) (by simp; omega)
      have E2 := E.mv e (by simp) (by simp)
      refine lp (σ := Nat) (R := fun k x => R33 (nI t) (nI i) (nI x) (nI k) s) (fun k x => x ≤ 1000000 ∧ lsG (fun w => ∃ s', s' < k ∧ (sb s' m ∧ 0 < dl z (cs i) s' ∧ dl z (cs i) s' ≤ t) ∧ ∃ w', BW z m wt ev r cs (t - dl z (cs i) s') (nc z (cs i) s') w' ∧ w = wt s' + w') x) 0 (m + 1) (Nat.zero_le _) ?_ ?_ 1000000 ⟨Nat.le_refl _, Or.inl ⟨Nat.le_refl _, fun w ⟨s', h1, _⟩ => absurd h1 (Nat.not_lt_zero s')⟩⟩
      · rintro x ⟨hx, hl⟩
        refine c33 _ _ _ _ _ ⟨nm w, (e.2 _ _).trans p2, k10, bq_t ?_ ⟨nm (c + 3), (e.2 _ _).trans p4, b6.1, ?_⟩⟩
        · rw [e.i w (by simp; omega), D.2.2.1]; exact nI_le (Nat.le_refl _) (by omega)
        have hle := Nat.mul_le_mul_right N (show t ≤ 30 by omega)
        rw [b6.2, e.i c (by simp), p3, pk_mul, nI_add, nI_clamp (by omega)]
        refine ⟨vp_in_nI (by omega) (by omega), ?_⟩
        rintro _ rfl _ rfl
        rw [nI_1]
        refine ih2 _ ⟨xd.ui hn e (by simp), fun t' j h1 h2 h3 => ?_⟩
        by_cases he : t' = t ∧ j = i
        · obtain ⟨rfl, rfl⟩ := he
          refine ⟨x, by rw [xu hn, if_pos ⟨rfl, rfl⟩], hx, lsG_congr hl (fun w => ?_)⟩
          rw [BW_s ht1]
          exact ⟨fun ⟨s', a, ⟨b1, b2, b3⟩, d⟩ => ⟨s', by omega, b1, b2, b3, d⟩, fun ⟨s', a, b1, b2, b3, d⟩ => ⟨s', by omega, ⟨b1, b2, b3⟩, d⟩⟩
        · obtain ⟨x', y1, y2, y3⟩ := f t' j h1 (by omega) h3
          refine ⟨x', ?_, y2, y3⟩
          rw [xu_p hn, y1]
          intro e9
          rcases h2 with h2 | ⟨rfl, h2⟩
          · have := Nat.mul_le_mul_right N (show t' + 1 ≤ t by omega)
            rw [Nat.add_mul] at this
            omega
          · omega
      · rintro k x _ hk ⟨hx, hl⟩ ih3
        refine c33 _ _ _ _ _ ⟨nm w, (e.2 _ _).trans p2, k10, bq_f ?_ ?_⟩
        · rw [e.i w (by simp; omega), D.2.2.1]; exact nI_ge hk (by omega)
        refine sp_X3_by (LW0.mv e) (L0.mv e (by simp)) hz hm D2 E2 hi (by omega) ht1 (by omega) (fun t' j h1 h2 h3 => f t' j h1 (Or.inl h2) h3) (fun x' hx' hl' => ?_)
        rintro _ rfl _ rfl
        rw [nI_1]
        have e9 : (if nI x' < nI x then nI x' else nI x) = nI (if x' < x then x' else x) := by
          by_cases h9 : x' < x
          · rw [if_pos h9, if_pos (nI_lt h9 (by omega))]
          · rw [if_neg h9, if_neg (nI_nlt (by omega) (by omega))]
        rw [e9]
        refine ih3 _ ⟨by split <;> omega, lsG_congr (lsG_min hl hl') (fun w => ?_)⟩
        constructor
        · rintro (⟨s', a, b⟩ | b)
          · exact ⟨s', by omega, b⟩
          · exact ⟨k, by omega, b⟩
        · rintro ⟨s', a, b⟩
          rcases Nat.lt_or_ge s' k with h9 | h9
          · exact Or.inl ⟨s', h9, b⟩
          · rw [show s' = k by omega] at b; exact Or.inr b
theorem sp_X3_of {Y : xg_Y} {Q : Int32 → xg_H → Prop} {h : xg_H} {nm : Nat → Nat} {c w N m r i t : Nat} {z : Nat → Nat} {cs wt ev : Nat → Nat} (L : LC Y h nm c w N) (hN : N ≤ 1696) (hr : r ≤ N) (hi : i < r) (ht : 1 ≤ t) (ht30 : t ≤ 30) (hT : CT z m wt ev r cs h nm c N t i) (q : ∀ x, x ≤ 1000000 → lsG (BW z m wt ev r cs t (cs i)) x → Q (nI x) h) : wp_X3_of Y Q (nm c) (nI i) (nI t) h := by
  obtain ⟨b3, ⟨p0, b4⟩, ⟨p1, b5⟩, p2, p3, ⟨p4, b6⟩, hcw⟩ := L
  obtain ⟨x, x1, x2, x3⟩ := hT
  unfold wp_X3_of
  refine ⟨b3, fun R27 c27 => bq_f (nI_nlt (b := 1) ht (by omega)) (bq_f (nI_nlt (b := t) (a := 30) ht30 (by omega)) ⟨nm (c + 3), p4, b6.1, ?_⟩)⟩
  have hle := Nat.mul_le_mul_right N ht30
  rw [b6.2, p3, pk_mul, nI_add, nI_clamp (by omega), x1]
  exact ⟨vp_in_nI (by omega) (by omega), q x x2 x3⟩
