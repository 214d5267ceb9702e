/-! Book: what is asked of the rows -/
noncomputable def dcd (p : Prop) : Bool := @decide p (Classical.propDecidable p)
theorem dcd_iff {p : Prop} : dcd p = true ↔ p := by unfold dcd; exact @decide_eq_true_iff p (Classical.propDecidable p)
theorem dcd_f {p : Prop} : dcd p = false ↔ ¬ p := by rw [← Bool.not_eq_true, dcd_iff]
/-- how many codes are so -/
noncomputable def cntc (P : Nat → Prop) : Nat := fb_ct (fun c => dcd (P c)) 4096
theorem cntc_le (P : Nat → Prop) : cntc P ≤ 4096 := fb_ct_le _ _
theorem cntc_congr {P P' : Nat → Prop} (h : ∀ c, c < 4096 → (P c ↔ P' c)) : cntc P = cntc P' := by
  unfold cntc
  refine fb_ct_cong (fun c hc => ?_)
  have := h c hc
  cases e : dcd (P c) <;> cases e' : dcd (P' c)
  · rfl
  · exact absurd (this.mpr (dcd_iff.mp e')) (dcd_f.mp e)
  · exact absurd (this.mp (dcd_iff.mp e)) (dcd_f.mp e')
  · rfl
theorem dcd_congr {p q : Prop} (h : p ↔ q) : dcd p = dcd q := by rw [propext h]
theorem cnt_rows {P : Nat → Prop} {cs : Nat → Nat} : ∀ r, (∀ i j, i < r → j < r → cs i = cs j → i = j) → (∀ i, i < r → cs i < 4096) → fb_ct (fun i => dcd (P (cs i))) r = cntc (fun c => P c ∧ ∃ i, i < r ∧ cs i = c)
  | 0, _, _ => by
    symm
    unfold cntc
    rw [fb_ct_zero.mpr (fun k _ => dcd_f.mpr (fun ⟨_, i, hi, _⟩ => absurd hi (Nat.not_lt_zero i)))]; rfl
  | r + 1, hd, hl => by
    have ih := cnt_rows (P := P) r (fun i j hi hj => hd i j (by omega) (by omega)) (fun i hi => hl i (by omega))
    rw [fb_ct_succ, ih]
    unfold cntc
    have h0 : dcd (P (cs r) ∧ ∃ i, i < r ∧ cs i = cs r) = false := dcd_f.mpr (fun ⟨_, i, hi, e⟩ => by have := hd i r (by omega) (by omega) e; omega)
    have key := fb_ct_upd (fun c => dcd (P c ∧ ∃ i, i < r ∧ cs i = c)) (dcd (P (cs r))) (hl r (by omega))
    simp only [h0] at key
    have e2 : fb_ct (fun k => if k = cs r then dcd (P (cs r)) else dcd (P k ∧ ∃ i, i < r ∧ cs i = k)) 4096 = fb_ct (fun c => dcd (P c ∧ ∃ i, i < r + 1 ∧ cs i = c)) 4096 := by
      refine fb_ct_cong (fun c hc => ?_)
      by_cases e : c = cs r
      · rw [if_pos e, e]
        exact dcd_congr ⟨fun a => ⟨a, r, by omega, rfl⟩, fun a => a.1⟩
      · rw [if_neg e]
        refine dcd_congr ⟨fun ⟨a, i, b, d⟩ => ⟨a, i, by omega, d⟩, fun ⟨a, i, b, d⟩ => ⟨a, i, ?_, d⟩⟩
        rcases Nat.lt_or_ge i r with h9 | h9
        · exact h9
        · rw [show i = r by omega] at d; exact absurd d.symm e
    rw [e2] at key
    simp at key
    show fb_ct (fun c => dcd (P c ∧ ∃ i, i < r ∧ cs i = c)) 4096 + (if dcd (P (cs r)) then 1 else 0) = fb_ct (fun c => dcd (P c ∧ ∃ i, i < r + 1 ∧ cs i = c)) 4096
    omega
theorem and_B {a b : Nat} {pa pb : Nat → Prop} (ha : bs pa a) (hb : bs pb b) : (nI a &&& nI b = 0) ↔ ∀ i, ¬ (pa i ∧ pb i) := by
  rw [fa_and, nl_0, nI_eq (Nat.lt_of_le_of_lt Nat.and_le_left ha.1) (by decide)]
  constructor
  · intro e i ⟨h1, h2⟩
    have h3 : (a &&& b).testBit i = true := by rw [Nat.testBit_and, (ha.2 i).mpr h1, (hb.2 i).mpr h2]; rfl
    rw [e, Nat.zero_testBit] at h3
    cases h3
  · intro h
    apply Nat.eq_of_testBit_eq
    intro i
    rw [Nat.testBit_and, Nat.zero_testBit]
    cases e1 : a.testBit i <;> cases e2 : b.testBit i <;> try rfl
    exact absurd ⟨(ha.2 i).mp e1, (hb.2 i).mp e2⟩ (h i)
theorem sp_X1_rowsWithin {Y : xg_Y} {Q : Int32 → xg_H → Prop} {h : xg_H} {nm : Nat → Nat} {B N N2 n : Nat} {z t : Nat → Nat} {v : Int32} {pb : Nat → Prop} (J : BJ Y h nm B N N2 n z t) (hv : isB v pb) (q : Q (nI (cntc (fun c => ∃ T, T ≤ 30 ∧ pb T ∧ rc z (2 ^ n - 1) (c4 t) T c))) h) : wp_X1_rowsWithin Y Q (nm B) v h := by
  obtain ⟨L, S, ⟨r, cs, C, b1, b2, b3, b4, b5, b6⟩, hc⟩ := J
  obtain ⟨k1, ⟨o0, LWw⟩, _⟩ := L
  obtain ⟨C0, C1, C2, C3, D, M, C6⟩ := C
  obtain ⟨Bb, rfl, hBb⟩ := hv
  have hrN := D.1.2.1
  have hNb : N ≤ 1696 := LWw.2.2.2.2.2.2.2.2.1
  have ecount : ∀ k, fb_ct (fun i => dcd (∃ T, T ≤ 30 ∧ pb T ∧ rc z (2 ^ n - 1) (c4 t) T (cs i))) k ≤ k := fun k => fb_ct_le _ k
  unfold wp_X1_rowsWithin
  refine ⟨k1, fun R4 R32 c4' c32 => ?_⟩
  refine mp_up (P := fun k => R4 (nI (fb_ct (fun i => dcd (∃ T, T ≤ 30 ∧ pb T ∧ rc z (2 ^ n - 1) (c4 t) T (cs i))) k)) (nI k) h) (n := r) ?_ ?_
  · refine c4' _ _ _ ⟨nm (B + 20), o0, LWw.1, bq_t ?_ ?_⟩
    · rw [D.2.1]; exact nI_le (Nat.le_refl r) (by omega)
    · have e1 := cnt_rows (P := fun c => ∃ T, T ≤ 30 ∧ pb T ∧ rc z (2 ^ n - 1) (c4 t) T c) (cs := cs) r D.2.2.2.2.1 (fun i hi => (D.2.2.2.1 i hi).2.1)
      rw [e1]
      have e2 : cntc (fun c => (∃ T, T ≤ 30 ∧ pb T ∧ rc z (2 ^ n - 1) (c4 t) T c) ∧ ∃ i, i < r ∧ cs i = c) = cntc (fun c => ∃ T, T ≤ 30 ∧ pb T ∧ rc z (2 ^ n - 1) (c4 t) T c) := by
        refine cntc_congr (fun c _ => ⟨fun a => a.1, fun ⟨T, a, b, k, d⟩ => ⟨⟨T, a, b, k, d⟩, D.row d⟩⟩)
      rw [e2]; exact q
  · intro k hk ih
    obtain ⟨Bm, hBm, hbm⟩ := M.1 k hk
    have join : ∀ u, u = fb_ct (fun i => dcd (∃ T, T ≤ 30 ∧ pb T ∧ rc z (2 ^ n - 1) (c4 t) T (cs i))) (k + 1) → R32 (nI u) (nI k) h := by
      rintro u rfl
      refine c32 _ _ _ ?_
      rintro _ rfl
      rw [nI_1]
      exact ih
    have hz := and_B hbm hBb
    rw [fb_ct_succ] at join
    refine c4' _ _ _ ⟨nm (B + 20), o0, LWw.1, bq_f ?_ ⟨nm (B + 22), LWw.2.2.1.1, LWw.2.2.1.2.1, ?_⟩⟩
    · rw [D.2.1]; exact nI_ge hk (by omega)
    rw [show xg_n Y (nm (B + 22)) = N from LWw.2.2.1.2.2, nI_clamp (by omega), show xg_i h (nm (B + 22)) k = nI Bm from hBm]
    refine ⟨vp_in_nI (by omega) (by omega), fun c => join _ ?_, fun c => ?_⟩
    · rw [dcd_f.mpr (fun ⟨T, a, b, d⟩ => hz.mp c T ⟨⟨a, d⟩, b⟩)]; rfl
    · rintro _ rfl
      rw [nI_1]
      refine join _ ?_
      rw [dcd_iff.mpr]
      · rfl
      · refine Classical.byContradiction (fun hno => c (hz.mpr (fun T ⟨⟨a, d⟩, b⟩ => hno ⟨T, a, b, d⟩)))
/-- the greatest, 0 without -/
def isMx (P : Nat → Prop) (v : Int32) : Prop := ∃ x, v = nI x ∧ (x = 0 ∨ P x) ∧ ∀ d, P d → d ≤ x
theorem isMx_one {P P' : Nat → Prop} {v v' : Int32} (h : isMx P v) (h' : isMx P' v') (e : ∀ d, P d ↔ P' d) : v = v' := by
  obtain ⟨x, rfl, a, b⟩ := h
  obtain ⟨x', rfl, a', b'⟩ := h'
  have h1 : x ≤ x' := by
    rcases a with a | a
    · omega
    · exact b' x ((e x).mp a)
  have h2 : x' ≤ x := by
    rcases a' with a' | a'
    · omega
    · exact b x' ((e x').mpr a')
  rw [show x = x' by omega]
theorem sp_X1_longestStill {Y : xg_Y} {Q : Int32 → xg_H → Prop} {h : xg_H} {nm : Nat → Nat} {B N N2 n : Nat} {z t : Nat → Nat} (J : BJ Y h nm B N N2 n z t) (q : ∀ v, isMx (fun d => ∃ T c s, T ≤ 30 ∧ rc z (2 ^ n - 1) (c4 t) T c ∧ s ≤ 2 ^ n - 1 ∧ d = dl z c s) v → Q v h) : wp_X1_longestStill Y Q (nm B) h := by
  obtain ⟨L, S, ⟨r, cs, C, b1, b2, b3, b4, b5, b6⟩, hc⟩ := J
  obtain ⟨k1, ⟨o0, LWw⟩, _⟩ := L
  obtain ⟨C0, C1, C2, C3, D, M, C6⟩ := C
  have hz := C0.zok
  have hm := C0.m
  have hrN := D.1.2.1
  have hNb : N ≤ 1696 := LWw.2.2.2.2.2.2.2.2.1
  unfold wp_X1_longestStill
  refine ⟨k1, fun R4 R17 R68 c4' c17 c68 => ?_⟩
  refine lp (σ := Nat) (R := fun k x => R4 (nI x) (nI k) h) (fun k x => x ≤ 7 ∧ isMx (fun d => ∃ T i s, i < k ∧ T ≤ 30 ∧ rc z (2 ^ n - 1) (c4 t) T (cs i) ∧ s ≤ 2 ^ n - 1 ∧ d = dl z (cs i) s) (nI x)) 0 r (Nat.zero_le r) ?_ ?_ 0 ⟨by decide, 0, rfl, Or.inl rfl, fun d ⟨T, i, s, a, _⟩ => absurd a (Nat.not_lt_zero i)⟩
  · rintro x ⟨hx, y, ey, a, b⟩
    refine c4' _ _ _ ⟨nm (B + 20), o0, LWw.1, bq_t ?_ (q _ ⟨y, ey, ?_, ?_⟩)⟩
    · rw [D.2.1]; exact nI_le (Nat.le_refl r) (by omega)
    · exact a.imp id (fun ⟨T, i, s, a1, a2, a3, a4, a5⟩ => ⟨T, cs i, s, a2, a3, a4, a5⟩)
    · rintro d ⟨T, c, s, a1, ⟨k, a2⟩, a3, a4⟩
      obtain ⟨i, hi, rfl⟩ := D.row a2
      exact b d ⟨T, i, s, hi, a1, ⟨k, a2⟩, a3, a4⟩
  · rintro k x _ hk ⟨hx, hmx⟩ ih
    have hmin := isB_zero (M.1 k hk)
    have nxt : ∀ x', x' ≤ 7 → isMx (fun d => ∃ T i s, i < k + 1 ∧ T ≤ 30 ∧ rc z (2 ^ n - 1) (c4 t) T (cs i) ∧ s ≤ 2 ^ n - 1 ∧ d = dl z (cs i) s) (nI x') → R68 (nI x') (nI k) h := by
      intro x' a1 a2
      refine c68 _ _ _ ?_
      rintro _ rfl
      rw [nI_1]
      exact ih x' ⟨a1, a2⟩
    refine c4' _ _ _ ⟨nm (B + 20), o0, LWw.1, bq_f ?_ ?_⟩
    · rw [D.2.1]; exact nI_ge hk (by omega)
    by_cases hmz : xg_i h (nm (B + 22)) k = 0
    · refine c17 _ _ _ _ ⟨nm (B + 20), o0, LWw.1, bq_f ?_ ⟨nm (B + 22), LWw.2.2.1.1, LWw.2.2.1.2.1, ?_⟩⟩
      · rw [D.2.2.1]; exact nI_ge (a := 0) (by omega) (by omega)
      rw [show xg_n Y (nm (B + 22)) = N from LWw.2.2.1.2.2, nI_clamp (by omega)]
      refine ⟨vp_in_nI (by omega) (by omega), bq_t hmz (nxt x hx ?_)⟩
      obtain ⟨y, ey, a, b⟩ := hmx
      refine ⟨y, ey, a.imp id (fun ⟨T, i, s, a1, a2⟩ => ⟨T, i, s, by omega, a2⟩), fun d ⟨T, i, s, a1, a2, a3, a4⟩ => ?_⟩
      rcases Nat.lt_or_ge i k with h9 | h9
      · exact b d ⟨T, i, s, h9, a2, a3, a4⟩
      · rw [show i = k by omega] at a3
        exact absurd ⟨a2, a3⟩ (hmin.mp hmz T)
    · refine lp (σ := Nat) (R := fun s x => R17 (nI x) (nI k) (nI s) h) (fun s' x => x ≤ 7 ∧ isMx (fun d => (∃ T i s, i < k ∧ T ≤ 30 ∧ rc z (2 ^ n - 1) (c4 t) T (cs i) ∧ s ≤ 2 ^ n - 1 ∧ d = dl z (cs i) s) ∨ ∃ s, s < s' ∧ d = dl z (cs k) s) (nI x)) 0 (2 ^ n - 1 + 1) (Nat.zero_le _) ?_ ?_ x ⟨hx, ?_⟩
      · rintro x2 ⟨hx2, y, ey, a, b⟩
        refine c17 _ _ _ _ ⟨nm (B + 20), o0, LWw.1, bq_t ?_ (nxt x2 hx2 ⟨y, ey, ?_, ?_⟩)⟩
        · rw [D.2.2.1]; exact nI_le (Nat.le_refl _) (by omega)
        · refine a.imp id (fun a => ?_)
          rcases a with ⟨T, i, s, a1, a2⟩ | ⟨s, a1, a2⟩
          · exact ⟨T, i, s, by omega, a2⟩
          · obtain ⟨T, hT⟩ : ∃ T, T ≤ 30 ∧ rc z (2 ^ n - 1) (c4 t) T (cs k) := Classical.byContradiction (fun hno => hmz (hmin.mpr (fun T hT => hno ⟨T, hT⟩)))
            exact ⟨T, k, s, by omega, hT.1, hT.2, by omega, a2⟩
        · rintro d ⟨T, i, s, a1, a2, a3, a4, a5⟩
          rcases Nat.lt_or_ge i k with h9 | h9
          · exact b d (Or.inl ⟨T, i, s, h9, a2, a3, a4, a5⟩)
          · rw [show i = k by omega] at a5
            exact b d (Or.inr ⟨s, by omega, a5⟩)
      · rintro s x2 _ hs ⟨hx2, y, ey, a, b⟩ ih2
        have hy : y < 2 ^ 31 := by
          rcases a with a | (⟨T, i, s, a1, a2, a3, a4, a5⟩ | ⟨s, a1, a2⟩)
          · omega
          · have := dl_le (c := cs i) (s := s) hz; omega
          · have := dl_le (c := cs k) (s := s) hz; omega
        have ey := (nI_eq (a := x2) (b := y) (by omega) hy).mp ey
        subst ey
        have hd7 := dl_le (c := cs k) (s := s) hz
        refine c17 _ _ _ _ ⟨nm (B + 20), o0, LWw.1, bq_f ?_ ⟨nm (B + 22), LWw.2.2.1.1, LWw.2.2.1.2.1, ?_⟩⟩
        · rw [D.2.2.1]; exact nI_ge hs (by omega)
        rw [show xg_n Y (nm (B + 22)) = N from LWw.2.2.1.2.2, nI_clamp (n := k) (by omega)]
        refine ⟨vp_in_nI (by omega) (by omega), bq_f hmz ⟨nm (B + 24), LWw.2.2.2.2.1.1, LWw.2.2.2.2.1.2.1, ?_⟩⟩
        rw [show xg_n Y (nm (B + 24)) = N * 16 from LWw.2.2.2.2.1.2.2, nl_16, pk_mul, nI_add, nI_clamp (by omega)]
        have ew : xg_i h (nm (B + 24)) (k * 16 + s) >>> ((12 : Int32) &&& 31) = nI (dl z (cs k) s) := by
          obtain ⟨e1, e2⟩ := D.2.2.2.2.2 k s hk (by omega)
          by_cases hd : sb s (2 ^ n - 1) ∧ 0 < dl z (cs k) s
          · obtain ⟨j, hj, _, ew⟩ := e1 hd
            rw [show B + 24 = B + 20 + 4 from rfl, ew, sh12 (by omega), show (dl z (cs k) s * 4096 + j) / 4096 = dl z (cs k) s by omega]
          · rw [show B + 24 = B + 20 + 4 from rfl, e2 hd, sh12 (by decide)]
            have : dl z (cs k) s = 0 := by
              rcases Nat.eq_zero_or_pos (dl z (cs k) s) with h9 | h9
              · exact h9
              · exact absurd ⟨sb_full.mpr (by omega), h9⟩ hd
            rw [this]
        rw [ew]
        refine ⟨vp_in_nI (by omega) (by omega), ?_⟩
        have e9 : (if nI x2 < nI (dl z (cs k) s) then nI (dl z (cs k) s) else nI x2) = nI (if x2 < dl z (cs k) s then dl z (cs k) s else x2) := by
          by_cases h9 : x2 < dl z (cs k) s
          · rw [if_pos h9, if_pos (nI_lt h9 (by omega))]
          · rw [if_neg h9, if_neg (nI_nlt (by omega) (by omega))]
        rw [e9]
        rintro _ rfl _ rfl
        rw [nI_1]
        refine ih2 _ ⟨by split <;> omega, _, rfl, ?_, fun d hd => ?_⟩
        · by_cases h9 : x2 < dl z (cs k) s
          · rw [if_pos h9]; exact Or.inr (Or.inr ⟨s, by omega, rfl⟩)
          · rw [if_neg h9]
            exact a.imp id (fun a => a.imp id (fun ⟨s', a1, a2⟩ => ⟨s', by omega, a2⟩))
        · have hx9 : d ≤ x2 ∨ d = dl z (cs k) s := by
            rcases hd with hd | ⟨s', a1, a2⟩
            · exact Or.inl (b d (Or.inl hd))
            · rcases Nat.lt_or_ge s' s with h9 | h9
              · exact Or.inl (b d (Or.inr ⟨s', h9, a2⟩))
              · rw [show s' = s by omega] at a2; exact Or.inr a2
          split <;> omega
      · obtain ⟨y, ey, a, b⟩ := hmx
        exact ⟨y, ey, a.imp id Or.inl, fun d hd => hd.elim (b d) (fun ⟨s', a1, _⟩ => absurd a1 (Nat.not_lt_zero s'))⟩
theorem sp_X1_minutesOfEvent {Y : xg_Y} {Q : Int32 → xg_H → Prop} {h : xg_H} {nm : Nat → Nat} {B N N2 n k : Nat} {z t : Nat → Nat} (J : BJ Y h nm B N N2 n z t) (hk : k ≤ 30) (q : ∀ v, isB v (fun T => T ≤ 30 ∧ ∃ b, PK z (2 ^ n - 1) (c4 t) k T b) → Q v h) : wp_X1_minutesOfEvent Y Q (nm B) (nI k) h := by
  obtain ⟨L, S, ⟨r, cs, C, b1, b2, b3, b4, b5, b6⟩, hc⟩ := J
  obtain ⟨k1, ⟨o0, LWw⟩, _⟩ := L
  obtain ⟨C0, C1, C2, C3, D, M, C6⟩ := C
  unfold wp_X1_minutesOfEvent
  refine ⟨k1, bq_f (nI_pos (by omega)) (bq_f (nI_nlt (b := k) (a := 30) hk (by decide)) ⟨nm (B + 20), o0, LWw.1, nm (B + 23), LWw.2.2.2.1.1, LWw.2.2.2.1.2.1, ?_⟩)⟩
  rw [show xg_n Y (nm (B + 23)) = 31 from LWw.2.2.2.1.2.2, nI_clamp (by omega)]
  exact ⟨vp_in_nI (by omega) (by decide), q _ (M.2 k hk)⟩
theorem sp_X1_fewestEvents {Y : xg_Y} {Q : Int32 → xg_H → Prop} {h : xg_H} {nm : Nat → Nat} {B N N2 n T : Nat} {z t : Nat → Nat} (J : BJ Y h nm B N N2 n z t) (h1 : 1 ≤ T) (h30 : T ≤ 30) (q : ∀ v, lst (fun k => ∃ b, PK z (2 ^ n - 1) (c4 t) k T b) v → Q v h) : wp_X1_fewestEvents Y Q (nm B) (nI T) h := by
  obtain ⟨L, S, ⟨r, cs, C, b1, b2, b3, b4, b5, b6⟩, hc⟩ := J
  obtain ⟨k1, ⟨o0, LWw⟩, _⟩ := L
  obtain ⟨C0, C1, C2, C3, D, M, C6⟩ := C
  unfold wp_X1_fewestEvents
  refine ⟨k1, fun R2 c2 => ?_⟩
  have h0 : ¬ ∃ b, PK z (2 ^ n - 1) (c4 t) 0 T b := fun ⟨b, hb⟩ => by have := (PK_0.mp hb).1; omega
  refine lp (σ := Unit) (R := fun k _ => R2 (nI k) h) (fun k _ => ∀ k', k' < k → ¬ ∃ b, PK z (2 ^ n - 1) (c4 t) k' T b) 1 31 (by decide) ?_ ?_ () (fun k' hk' => by rw [show k' = 0 by omega]; exact h0)
  · intro _ hno
    refine c2 _ _ (bq_t (by decide) (q _ (Or.inl ⟨rfl, fun k hk => ?_⟩)))
    obtain ⟨b, hb⟩ := hk
    have := PK_le hb
    exact hno k (by omega) ⟨b, hb⟩
  · intro k _ hk1 hk hno ih
    obtain ⟨Bl, hBl, hbl⟩ := M.2 k (by omega)
    refine c2 _ _ (bq_f (nI_nlt (b := k) (a := 30) (by omega) (by decide)) ⟨nm (B + 20), o0, LWw.1, nm (B + 23), LWw.2.2.2.1.1, LWw.2.2.2.1.2.1, ?_⟩)
    rw [show xg_n Y (nm (B + 23)) = 31 from LWw.2.2.2.1.2.2, nI_clamp (by omega), show xg_i h (nm (B + 23)) k = nI Bl from hBl]
    refine ⟨vp_in_nI (by omega) (by decide), sp_X11_has hbl.1 (by omega) (fun hb => ⟨fun c => absurd c (by decide), fun _ => q _ (Or.inr ⟨k, rfl, ((hbl.2 T).mp hb).2, fun j hj => Nat.le_of_not_lt (fun h9 => hno j h9 hj)⟩)⟩) (fun hb => ⟨fun _ => ?_, fun c => absurd rfl c⟩)⟩
    rintro _ rfl
    rw [nI_1]
    refine ih () (fun k' hk' hp => ?_)
    rcases Nat.lt_or_ge k' k with h9 | h9
    · exact hno k' h9 hp
    · rw [show k' = k by omega] at hp
      have := (hbl.2 T).mpr ⟨h30, hp⟩
      rw [hb] at this; cases this
theorem sp_X1_told {Y : xg_Y} {Q : Int32 → xg_H → Prop} {h : xg_H} {nm : Nat → Nat} {B N N2 n : Nat} {z t : Nat → Nat} (J : BJ Y h nm B N N2 n z t) (q : ∀ v, isB v (fun T => (1 ≤ T ∧ T ≤ 30) ∧ ∃ b, rc z (2 ^ n - 1) (c4 t) T b) → Q v h) : wp_X1_told Y Q (nm B) h := by
  obtain ⟨L, S, ⟨r, cs, C, b1, b2, b3, b4, b5, b6⟩, hc⟩ := J
  exact ⟨L.1, q _ C.2.2.2.2.2.2⟩
