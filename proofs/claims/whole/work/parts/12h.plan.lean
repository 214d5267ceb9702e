/-! Book: waitForLaterEvents, leastDone -/
/-- what the ends are -/
def EV (h : xg_H) (nm : Nat → Nat) (B r : Nat) (ev : Nat → Nat) : Prop := ∀ j, j < r → xg_i h (nm (B + 42)) j = nI (ev j) ∧ ev j ≤ 1000000
/-- an end of e comes of waiting for t1 minutes from row i to a row j of ev0 -/
def WT (z : Nat → Nat) (m r : Nat) (cs ev0 : Nat → Nat) (i e : Nat) : Prop := ∃ k t1 w j, pt z m (fun _ => 0) k (cs i) t1 (cs j) w ∧ j < r ∧ e = t1 + ev0 j
/-- no row is waited for by up to K events for less -/
def WL (z : Nat → Nat) (m r : Nat) (cs ev0 ev : Nat → Nat) (K : Nat) : Prop := ∀ i k t1 w j, i < r → j < r → k ≤ K → pt z m (fun _ => 0) k (cs i) t1 (cs j) w → ev i ≤ t1 + ev0 j
theorem WL_s {z : Nat → Nat} {m c0 : Nat} {h : xg_H} {nm : Nat → Nat} {w N r K : Nat} {cs ev0 e1 e2 : Nat → Nat} (D : WD z m c0 h nm w N r cs) (hl : WL z m r cs ev0 e1 K) (hle : ∀ i, i < r → e2 i ≤ e1 i) (hs : ∀ i s j, i < r → j < r → sb s m → 0 < dl z (cs i) s → cs j = nc z (cs i) s → e2 i ≤ dl z (cs i) s + e1 j) : WL z m r cs ev0 e2 (K + 1) := by
  intro i k t1 w' j hi hj hk hp
  cases k with
  | zero =>
    have := hl i 0 t1 w' j hi hj (Nat.zero_le _) hp
    have := hle i hi
    omega
  | succ k =>
    obtain ⟨s, t', w2, g1, g2, rfl, rfl, g5⟩ := hp
    obtain ⟨j2, hj2, e, _⟩ := (D.2.2.2.2.2 i s hi (sb_le g1)).1 ⟨g1, g2⟩
    rw [← e] at g5
    have a1 := hl j2 k t' w2 j hj2 hj (by omega) g5
    have a2 := hs i s j2 hi hj2 g1 g2 e
    omega
theorem sp_X1_wait {Y : xg_Y} {Q : xg_H → Prop} {h : xg_H} {nm : Nat → Nat} {B N N2 n r : Nat} {z t cs ev0 : Nat → Nat} (hn : inj nm) (L : LB Y h nm B N N2) (C : BC h nm B N n z t r cs) (E0 : EV h nm B r ev0) (q : ∀ h' ev, xe nm B [] [42] [] h h' → EV h' nm B r ev → (∀ i, i < r → WT z (2 ^ n - 1) r cs ev0 i (ev i)) → WL z (2 ^ n - 1) r cs ev0 ev 91 → Q h') : wp_X1_waitForLaterEvents Y Q (nm B) h := by
  have L0 := L
  have C0 := C
  obtain ⟨k1, ⟨o0, LWw⟩, ⟨o1, LWp⟩, ⟨o2, LCc⟩, _⟩ := L
  obtain ⟨SHh, C1, C2, C3, D, M, C6⟩ := C
  have hz := SHh.zok
  have hm := SHh.m
  have hrN := D.1.2.1
  have hNb : N ≤ 1696 := LWw.2.2.2.2.2.2.2.2.1
  unfold wp_X1_waitForLaterEvents
  refine ⟨k1, fun R4 R18 R32 R101 R136 c4' c18 c32 c101 c136 => ?_⟩
  have I : ∃ I : Nat → (Nat → Nat) → xg_H → Prop, ∀ K ev h', I K ev h' ↔ (xe nm B [] [42] [] h h' ∧ EV h' nm B r ev ∧ (∀ i, i < r → WT z (2 ^ n - 1) r cs ev0 i (ev i)) ∧ WL z (2 ^ n - 1) r cs ev0 ev K) := ⟨_, fun _ _ _ => Iff.rfl⟩
  obtain ⟨I, hI⟩ := I
  -- round K + 1 begins with changed (1), or all is done (0)
  refine lp (σ := Nat × xg_H) (R := fun K u => R4 (nI u.1) (nI K) u.2) (fun K u => ∃ ev, (u.1 = 1 ∧ I K ev u.2) ∨ (u.1 = 0 ∧ I 91 ev u.2)) 0 91 (by decide) ?_ ?_ (1, h) ⟨ev0, Or.inl ⟨rfl, (hI _ _ _).mpr ⟨xe.rf, E0, fun i hi => ⟨0, 0, 0, i, ⟨rfl, rfl, rfl⟩, hi, by omega⟩, fun i k t1 w j hi hj hk hp => ?_⟩⟩⟩
  · rintro ⟨ch, h'⟩ ⟨ev, hu⟩
    have hu : I 91 ev h' := hu.elim (fun a => a.2) (fun a => a.2)
    obtain ⟨a1, a2, a3, a4⟩ := (hI _ _ _).mp hu
    exact c4' _ _ _ (bq_t (by decide) (q h' ev a1 a2 a3 a4))
  · rintro K ⟨ch, h'⟩ _ hK ⟨ev, hu⟩ ih
    rcases hu with ⟨rfl, hu⟩ | ⟨rfl, hu⟩
    · obtain ⟨a1, a2, a3, a4⟩ := (hI _ _ _).mp hu
      refine c4' _ _ _ (bq_f (nI_nlt (b := K) (a := 90) (by omega) (by decide)) (bq_f one_ne ?_))
      -- within the round: ev is what was at its begin
      have Jx : ∃ Jx : Nat → Nat → (Nat × xg_H) → Prop, ∀ i s u, Jx i s u ↔ (u.1 ≤ 1 ∧ xe nm B [] [42] [] h u.2 ∧ ∃ e2, EV u.2 nm B r e2 ∧ (∀ i, i < r → WT z (2 ^ n - 1) r cs ev0 i (e2 i)) ∧ (∀ i, i < r → e2 i ≤ ev i) ∧ (u.1 = 0 → ∀ i, i < r → e2 i = ev i) ∧ ∀ i' s' j, (i' < i ∨ i' = i ∧ s' < s) → i' < r → j < r → sb s' (2 ^ n - 1) → 0 < dl z (cs i') s' → cs j = nc z (cs i') s' → e2 i' ≤ dl z (cs i') s' + ev j) := ⟨_, fun _ _ _ => Iff.rfl⟩
      obtain ⟨Jx, hJ⟩ := Jx
      refine lp (σ := Nat × xg_H) (R := fun i u => R18 (nI u.1) (nI K) (nI i) u.2) (fun i u => Jx i 0 u) 0 r (Nat.zero_le r) ?_ ?_ (0, h') ((hJ _ _ _).mpr ⟨Nat.zero_le _, a1, ev, a2, a3, fun _ _ => Nat.le_refl _, fun _ _ _ => rfl, fun i' s' j hh => by omega⟩)
      · rintro ⟨ch, h2⟩ hu2
        obtain ⟨g0, g1, e2, g2, g3, g4, g5, g6⟩ := (hJ _ _ _).mp hu2
        refine c18 _ _ _ _ ⟨nm (B + 20), (g1.2.2.2 _ _).trans o0, LWw.1, bq_t ?_ ?_⟩
        · simp only; rw [(g1.2.1 20 (by decide) (by decide) (by decide) 4).1, D.2.1]; exact nI_le (Nat.le_refl r) (by omega)
        · rintro _ rfl
          rw [nI_1]
          have hwl : WL z (2 ^ n - 1) r cs ev0 e2 (K + 1) := WL_s D a4 g4 (fun i s j hi hj h1 h2 h3 => g6 i s j (Or.inl hi) hi hj h1 h2 h3)
          rcases (show ch = 0 ∨ ch = 1 by simp only at g0; omega) with rfl | rfl
          · refine ih (0, h2) ⟨e2, Or.inr ⟨rfl, (hI _ _ _).mpr ⟨g1, g2, g3, ?_⟩⟩⟩
            have e9 := g5 rfl
            -- nothing has changed: no further round would
            have fix : ∀ d, WL z (2 ^ n - 1) r cs ev0 e2 (K + d) := by
              intro d
              induction d with
              | zero => exact fun i k t1 w j hi hj hk hp => by rw [e9 i hi]; exact a4 i k t1 w j hi hj hk hp
              | succ d ihd => exact WL_s D ihd (fun _ _ => Nat.le_refl _) (fun i s j hi hj h1 h2 h3 => by rw [e9 j hj]; exact g6 i s j (Or.inl hi) hi hj h1 h2 h3)
            have := fix (91 - K)
            rw [show K + (91 - K) = 91 by omega] at this
            exact this
          · exact ih (1, h2) ⟨e2, Or.inl ⟨rfl, (hI _ _ _).mpr ⟨g1, g2, g3, hwl⟩⟩⟩
      · rintro i ⟨ch, h2⟩ _ hi hu2 ih2
        obtain ⟨g0, g1, e2, g2, g3, g4, g5, g6⟩ := (hJ _ _ _).mp hu2
        refine c18 _ _ _ _ ⟨nm (B + 20), (g1.2.2.2 _ _).trans o0, LWw.1, bq_f ?_ ?_⟩
        · simp only; rw [(g1.2.1 20 (by decide) (by decide) (by decide) 4).1, D.2.1]; exact nI_ge hi (by omega)
        refine lp (σ := Nat × xg_H) (R := fun s u => R32 (nI u.1) (nI K) (nI i) (nI s) u.2) (fun s u => Jx i s u) 0 (2 ^ n - 1 + 1) (Nat.zero_le _) ?_ ?_ (ch, h2) hu2
        · rintro ⟨ch, h3⟩ hu3
          obtain ⟨g0, g1, e2, g2, g3, g4, g5, g6⟩ := (hJ _ _ _).mp hu3
          refine c32 _ _ _ _ _ ⟨nm (B + 20), (g1.2.2.2 _ _).trans o0, LWw.1, bq_t ?_ ?_⟩
          · simp only; rw [(g1.2.1 20 (by decide) (by decide) (by decide) 5).1, D.2.2.1]; exact nI_le (Nat.le_refl _) (by omega)
          · rintro _ rfl
            rw [nI_1]
            refine ih2 (ch, h3) ((hJ _ _ _).mpr ⟨g0, g1, e2, g2, g3, g4, g5, fun i' s' j hh h1 h2 h3 => g6 i' s' j ?_ h1 h2 h3⟩)
            have := sb_le h3
            omega
        · rintro s ⟨ch, h3⟩ _ hs hu3 ih3
          obtain ⟨g0, g1, e2, g2, g3, g4, g5, g6⟩ := (hJ _ _ _).mp hu3
          have nxt : ∀ ch' h4, Jx i (s + 1) (ch', h4) → R136 (nI ch') (nI K) (nI i) (nI s) h4 := by
            intro ch' h4 a
            refine c136 _ _ _ _ _ ?_
            rintro _ rfl
            rw [nI_1]
            exact ih3 (ch', h4) a
          have same : (∀ j, j < r → sb s (2 ^ n - 1) → 0 < dl z (cs i) s → cs j = nc z (cs i) s → e2 i ≤ dl z (cs i) s + ev j) → Jx i (s + 1) (ch, h3) := by
            intro hx
            refine (hJ _ _ _).mpr ⟨g0, g1, e2, g2, g3, g4, g5, fun i' s' j hh h1 h2 h3 h4 h5 => ?_⟩
            by_cases e9 : i' = i ∧ s' = s
            · obtain ⟨rfl, rfl⟩ := e9; exact hx j h2 h3 h4 h5
            · exact g6 i' s' j (by omega) h1 h2 h3 h4 h5
          have rr := (g1.2.1 20 (by decide) (by decide) (by decide) 4).1
          refine c32 _ _ _ _ _ ⟨nm (B + 20), (g1.2.2.2 _ _).trans o0, LWw.1, bq_f ?_ ⟨nm (B + 24), (g1.2.2.2 _ _).trans LWw.2.2.2.2.1.1, LWw.2.2.2.2.1.2.1, ?_⟩⟩
          · simp only; rw [(g1.2.1 20 (by decide) (by decide) (by decide) 5).1, D.2.2.1]; exact nI_ge hs (by omega)
          simp only
          rw [show xg_n Y (nm (B + 24)) = N * 16 from LWw.2.2.2.2.1.2.2, nl_16, pk_mul, nI_add, nI_clamp (n := i * 16 + s) (by omega), (g1.2.1 24 (by decide) (by decide) (by decide) _).1, rr, D.2.1]
          refine ⟨vp_in_nI (by omega) (by omega), ?_⟩
          rintro _ rfl _ rfl
          obtain ⟨d1, d2⟩ := D.2.2.2.2.2 i s hi (by omega)
          have hd7 := dl_le (c := cs i) (s := s) hz
          have o42 : xg_o h3 (nm (B + 40)) 1 = some (nm (B + 42)) := (g1.2.2.2 _ _).trans LCc.2.2.1.1
          have k42 : xk Y nm (B + 42) 22 N := LCc.2.2.1.2
          by_cases hd : sb s (2 ^ n - 1) ∧ 0 < dl z (cs i) s
          · obtain ⟨j, hj, ej, ew⟩ := d1 hd
            have hej := (g2 j hj).2
            have hei := (g2 i hi).2
            have hd0 := hd.2
            rw [show B + 24 = B + 20 + 4 from rfl, ew, nl_4095, m4095, show (dl z (cs i) s * 4096 + j) % 4096 = j by omega, sh12 (by omega), show (dl z (cs i) s * 4096 + j) / 4096 = dl z (cs i) s by omega]
            refine bq_f (nI_ge hj (by omega)) ⟨nm (B + 40), (g1.2.2.2 _ _).trans o2, LCc.1, nm (B + 42), o42, k42.1, ?_⟩
            rw [k42.2, nI_clamp (n := j) (by omega), (g2 j hj).1]
            refine ⟨vp_in_nI (by omega) (by omega), c101 _ _ _ _ _ _ _ _ ?_⟩
            rw [nI_add]
            rintro _ rfl
            refine bq_f (fun e9 => ?_) ⟨nm (B + 40), (g1.2.2.2 _ _).trans o2, LCc.1, nm (B + 42), o42, k42.1, ?_⟩
            · have := (nI_eq (a := dl z (cs i) s * 4096 + j) (b := 0) (by omega) (by decide)).mp e9
              omega
            rw [k42.2, nI_clamp (n := i) (by omega), (g2 i hi).1]
            refine ⟨vp_in_nI (by omega) (by omega), fun c9 => nxt ch h3 (same (fun j2 hj2 _ _ e9 => ?_)), fun c9 => ⟨vp_in_nI (by omega) (by omega), ?_⟩⟩
            · have c9 := (nI_leI (by omega) (by omega)).mp c9
              rw [D.2.2.2.2.1 j2 j hj2 hj (e9.trans ej.symm)]
              have := g4 j hj
              omega
            · have c9 : dl z (cs i) s + e2 j < e2 i := Nat.lt_of_not_le (fun h9 => c9 (nI_le h9 (by omega)))
              rintro _ rfl
              refine nxt 1 _ ((hJ _ _ _).mpr ⟨Nat.le_refl _, xe.ui hn g1 (by decide) (by decide) (by decide), fun j2 => if j2 = i then dl z (cs i) s + e2 j else e2 j2, fun j2 hj2 => ?_, fun i2 hi2 => ?_, fun i2 hi2 => ?_, fun hx => absurd (show (1 : Nat) = 0 from hx) (by decide), fun i' s' j2 hh h1 h2 h3 h4 h5 => ?_⟩)
              · simp only
                rw [xu hn]
                by_cases e9 : j2 = i
                · rw [if_pos ⟨rfl, e9⟩, if_pos e9]; exact ⟨rfl, by omega⟩
                · rw [if_neg (fun q => e9 q.2), if_neg e9]; exact g2 j2 hj2
              · simp only
                by_cases e9 : i2 = i
                · rw [if_pos e9, e9]
                  obtain ⟨k, t1, w, j3, f1, f2, f3⟩ := g3 j hj
                  refine ⟨k + 1, dl z (cs i) s + t1, 0 + w, j3, ⟨s, t1, w, hd.1, hd.2, rfl, rfl, ?_⟩, f2, by omega⟩
                  rw [← ej]; exact f1
                · rw [if_neg e9]; exact g3 i2 hi2
              · simp only
                by_cases e9 : i2 = i
                · rw [if_pos e9, e9]; have := g4 i hi; omega
                · rw [if_neg e9]; exact g4 i2 hi2
              · simp only
                by_cases e9 : i' = i
                · rw [if_pos e9, e9]
                  subst e9
                  by_cases e8 : s' = s
                  · subst e8
                    rw [D.2.2.2.2.1 j2 j h2 hj (h5.trans ej.symm)]
                    have := g4 j hj
                    omega
                  · have := g6 i' s' j2 (by omega) h1 h2 h3 h4 h5
                    omega
                · rw [if_neg e9]; exact g6 i' s' j2 (by omega) h1 h2 h3 h4 h5
          · rw [show B + 24 = B + 20 + 4 from rfl, d2 hd, nl_4095, m4095]
            refine bq_f (nI_ge (a := 0 % 4096) (by have := D.1.1; omega) (by omega)) ⟨nm (B + 40), (g1.2.2.2 _ _).trans o2, LCc.1, nm (B + 42), o42, k42.1, ?_⟩
            rw [k42.2]
            refine ⟨vp_in_nI (n := 0 % 4096) (by have := D.1.1; omega) (by omega), c101 _ _ _ _ _ _ _ _ ?_⟩
            rintro _ rfl
            exact bq_t rfl (nxt ch h3 (same (fun j2 hj2 h1 h2 _ => absurd ⟨h1, h2⟩ hd)))
    · obtain ⟨a1, a2, a3, a4⟩ := (hI _ _ _).mp hu
      exact c4' _ _ _ (bq_f (nI_nlt (b := K) (a := 90) (by omega) (by decide)) (bq_t rfl (q h' ev a1 a2 a3 a4)))
  · have e : k = 0 := by omega
    subst e
    obtain ⟨rfl, e2, rfl⟩ := hp
    rw [D.2.2.2.2.1 j i hj hi e2]
    omega
/-- the spans from the d-th last of K on, from the code c: in w minutes -/
def DN (z : Nat → Nat) (m : Nat) (sp : Nat → Nat) (K : Nat) : Nat → Nat → Nat → Prop
  | 0, _, w => w = 0
  | d + 1, c, w => ∃ t1 b b' w', rc z m c t1 b ∧ rc z m b (sp (K - (d + 1))) b' ∧ w = t1 + (sp (K - (d + 1)) + w') ∧ DN z m sp K d b' w'
/-- an end that is right up to 90 -/
def lsT (P : Nat → Prop) (e : Nat) : Prop := e ≤ 1000000 ∧ (e < 1000000 → P e) ∧ ∀ w, w ≤ 90 → P w → e ≤ w
/-- an order as a text of the class -/
def XO (Y : xg_Y) (h : xg_H) (nm : Nat → Nat) (tx n : Nat) (sp : Nat → Nat) : Prop := xg_is Y (nm tx) 8 ∧ (xg_o h (nm tx) 1 = some (nm (tx + 10)) ∧ xk Y nm (tx + 10) 22 6) ∧ xg_i h (nm tx) 0 = nI n ∧ n ≤ 6 ∧ (∀ j, j < n → xg_i h (nm (tx + 10)) j = nI (sp j) ∧ 1 ≤ sp j ∧ sp j ≤ 30) ∧ 100 ≤ tx ∧ tx < 400
theorem XO.mv {Y : xg_Y} {h h2 : xg_H} {nm : Nat → Nat} {tx n B : Nat} {sp : Nat → Nat} (a : XO Y h nm tx n sp) (e : bf nm B h h2) (hB : 500 ≤ B) : XO Y h2 nm tx n sp := by
  obtain ⟨a1, a2, a3, a4, a5, a6, a7⟩ := a
  have E : ∀ c, 100 ≤ c → c < 500 → ∀ j, xg_i h2 (nm c) j = xg_i h (nm c) j := fun c h1 h2 j => (e.1 c (by omega) (by simp <;> omega) j).1
  refine ⟨a1, ⟨(e.2 _ _).trans a2.1, a2.2⟩, (E tx (by omega) (by omega) 0).trans a3, a4, fun j hj => ?_, a6, a7⟩
  rw [E _ (by omega) (by omega)]
  exact a5 j hj
theorem sp_X1_leastDone {Y : xg_Y} {Q : Int32 → xg_H → Prop} {h : xg_H} {nm : Nat → Nat} {B N N2 n K tx no : Nat} {z t sp : Nat → Nat} (hn : inj nm) (J : BJ Y h nm B N N2 n z t) (X : XO Y h nm tx no sp) (hK : K ≤ no) (q : ∀ h' v, BJ Y h' nm B N N2 n z t → bf nm B h h' → lst (fun w => w ≤ 90 ∧ DN z (2 ^ n - 1) sp K K (c4 t) w) v → Q v h') : wp_X1_leastDone Y Q (nm B) (some (nm tx)) (nI K) h := by
  have J0 := J
  obtain ⟨L, S, ⟨r, cs, C, b1, b2, b3, b4, b5, b6⟩, hcp⟩ := J
  have L0 := L
  have C0 := C
  obtain ⟨k1, ⟨o0, LWw⟩, ⟨o1, LWp⟩, ⟨o2, LCc⟩, ⟨o3, k4⟩, ⟨o4, k5⟩, ⟨o5, k6⟩, ⟨o6, k7⟩, ⟨o7, k8⟩, ⟨o8, k9⟩, ⟨o9, k10⟩, hB⟩ := L
  obtain ⟨SHh, C1, C2, C3, D, M, C6⟩ := C
  have hz := SHh.zok
  have hm := SHh.m
  have hr1 := D.1.1
  have hrN := D.1.2.1
  have hNb : N ≤ 1696 := LWw.2.2.2.2.2.2.2.2.1
  have hno := X.2.2.2.1
  unfold wp_X1_leastDone
  refine ⟨k1, fun R31 R120 R63 c31 c120 c63 => ?_⟩
  rintro _ rfl
  have e0 : xe nm B [19] [41, 42, 43] [] h (xg_ui h (nm B) 19 0) := xe.u0 hn xe.rf (by decide)
  refine ⟨nm (B + 40), (e0.2.2.2 _ _).trans o2, LCc.1, ?_⟩
  rw [(e0.2.2.2 _ _).trans LCc.2.1.1]
  refine sp_fill (c := B + 41) hn LCc.2.1.2 (by decide) (fun h1 e1 f1 => ?_)
  have e1' : xe nm B [19] [41, 42, 43] [] h h1 := e0.tr ((xe.of e1 (by decide) (by decide)).mono (by simp) (by simp) (by simp))
  refine ⟨nm (B + 40), (e1'.2.2.2 _ _).trans o2, LCc.1, ?_⟩
  rw [(e1'.2.2.2 _ _).trans LCc.2.2.1.1]
  refine sp_fill (c := B + 42) hn LCc.2.2.1.2 (by omega) (fun h2 e2 f2 => ?_)
  have e2' : xe nm B [19] [41, 42, 43] [] h h2 := e1'.tr ((xe.of e2 (by decide) (by decide)).mono (by simp) (by simp) (by simp))
  rintro _ rfl
  -- what holds when the last d spans are worked out
  have I : ∃ I : Nat → xg_H → Prop, ∀ d h', I d h' ↔ (xe nm B [19] [41, 42, 43] [] h h' ∧ xg_i h' (nm B) 19 = nI 0 ∧ (∀ s, s ≤ 2 ^ n - 1 → xg_i h' (nm (B + 41)) s = nI 0) ∧ ∃ ev, EV h' nm B r ev ∧ ∀ i, i < r → lsT (DN z (2 ^ n - 1) sp K d (cs i)) (ev i)) := ⟨_, fun _ _ => Iff.rfl⟩
  obtain ⟨I, hI⟩ := I
  have fin : ∀ h', I K h' → R120 h' := by
    intro h' hi
    obtain ⟨a1, a2, a3, ev, a4, a5⟩ := (hI _ _).mp hi
    have J' : BJ Y h' nm B N N2 n z t := ⟨L0.mv a1 (by decide), S.mv a1 hB, ⟨r, cs, C0.mv a1 (by decide) (by decide) (by decide) (by decide) (by decide) (by decide) (by decide) (by decide) (by decide), b1.mv a1 (by decide), b2.mv a1 (by decide) (by decide) (by decide), Or.inl a2, b4.mv a1 (by decide) (by decide), b5.mv a1 (by decide) (by decide) (by decide) (by decide), b6.mv a1 (by decide) (by decide)⟩, hcp⟩
    have hb : bf nm B h h' := bf.of a1 (by simp)
    obtain ⟨p1, p2, p3⟩ := a5 0 (by omega)
    rw [D.1.2.2] at p2 p3
    refine c120 _ ⟨nm (B + 40), (a1.2.2.2 _ _).trans o2, LCc.1, nm (B + 42), (a1.2.2.2 _ _).trans LCc.2.2.1.1, LCc.2.2.1.2.1, ?_⟩
    rw [show xg_n Y (nm (B + 42)) = N from LCc.2.2.1.2.2, sb_cl0, (a4 0 (by omega)).1]
    refine ⟨mp_in0 (by omega) (by omega), fun c => q h' _ J' hb (Or.inl ⟨rfl, fun w hw => ?_⟩), fun c => ⟨mp_in0 (by omega) (by omega), q h' _ J' hb (Or.inr ⟨ev 0, rfl, ⟨?_, ?_⟩, fun j hj => p3 j hj.1 hj.2⟩)⟩⟩
    · have c := (nI_ltI (a := 90) (b := ev 0) (by decide) (by omega)).mp c
      have := p3 w hw.1 hw.2
      omega
    · exact Nat.le_of_not_lt (fun h9 => c (nI_lt h9 (by omega)))
    · have : ev 0 ≤ 90 := Nat.le_of_not_lt (fun h9 => c (nI_lt h9 (by omega)))
      exact p2 (by omega)
  refine lpd (R := fun d s => R31 (nI d - 1) s) (fun d s => d ≤ K ∧ I (K - d) s) ?_ ?_ K h2 ⟨Nat.le_refl K, ?_⟩
  · rintro s ⟨_, hs⟩
    exact c31 _ _ (bq_t (by decide) (fin s (by rw [Nat.sub_zero] at hs; exact hs)))
  · rintro d s ⟨hd, hs⟩ ih
    obtain ⟨a1, a2, a3, ev, a4, a5⟩ := (hI _ _).mp hs
    have Xs := X.mv (bf.of a1 (by simp)) hB
    have hsp := Xs.2.2.2.2.1 d (by omega)
    have Ls := L0.mv a1 (by decide)
    have Cs := C0.mv a1 (by decide) (by decide) (by decide) (by decide) (by decide) (by decide) (by decide) (by decide) (by decide)
    have Ds := Cs.2.2.2.2.1
    rw [nI_pred]
    refine c31 _ _ (bq_f (nI_pos (by omega)) ⟨nm tx, rfl, Xs.1, bq_f ?_ ⟨nm (tx + 10), Xs.2.1.1, Xs.2.1.2.1, ?_⟩⟩)
    · rw [Xs.2.2.1]; exact nI_ge (by omega) (by omega)
    rw [Xs.2.1.2.2, nI_clamp (by omega), hsp.1]
    refine ⟨vp_in_nI (by omega) (by decide), ?_⟩
    rintro _ rfl
    refine ⟨nm (B + 40), (a1.2.2.2 _ _).trans o2, LCc.1, ?_⟩
    have E : CE s nm (B + 40) r (2 ^ n - 1) 0 (fun _ => 0) ev := ⟨by decide, fun s' hs' => ⟨a3 s' hs', Nat.le_refl _⟩, fun j hj => ⟨(a4 j hj).1, by have := (a4 j hj).2; omega⟩⟩
    refine sp_X3_workOut (T := sp d) hn Ls.2.1.2 Ls.2.2.2.1.2 hz hm Ds E (by omega) (fun s1 d1 g1 => ?_)
    have x1 : xe nm B [19] [41, 42, 43] [] h s1 := a1.tr ((xe.of (o := 43) d1 (by decide) (by decide)).mono (by simp) (by simp) (by simp))
    have L1 := L0.mv x1 (by decide)
    -- all rows get their ends
    have ex : ∀ i, i < r → ∃ x, x ≤ 1000000 ∧ lsG (BW z (2 ^ n - 1) (fun _ => 0) ev r cs (sp d) (cs i)) x ∧ xg_i s1 (nm (B + 43)) (sp d * N + i) = nI x := fun i hi => by
      obtain ⟨x, y1, y2, y3⟩ := g1 (sp d) i hsp.2.1 (Nat.le_refl _) hi
      exact ⟨x, y2, y3, y1⟩
    refine lp (σ := xg_H) (R := fun i s2 => R63 (nI d) (nI (sp d)) (nI i) s2) (fun i s2 => xd nm [B + 42] s1 s2 ∧ ∀ j, j < i → ∃ e', xg_i s2 (nm (B + 42)) j = nI e' ∧ e' ≤ 1000000 ∧ (e' < 1000000 → ∃ b' w', rc z (2 ^ n - 1) (cs j) (sp d) b' ∧ e' = sp d + w' ∧ DN z (2 ^ n - 1) sp K (K - (d + 1)) b' w') ∧ ∀ b' w', rc z (2 ^ n - 1) (cs j) (sp d) b' → w' ≤ 90 → DN z (2 ^ n - 1) sp K (K - (d + 1)) b' w' → e' ≤ sp d + w') 0 r (Nat.zero_le r) ?_ ?_ s1 ⟨xd.rf, fun j hj => absurd hj (Nat.not_lt_zero j)⟩
    · rintro s2 ⟨d2, g2⟩
      have x2 : xe nm B [19] [41, 42, 43] [] h s2 := x1.tr ((xe.of d2 (by decide) (by decide)).mono (by simp) (by simp) (by simp))
      have C2' := C0.mv x2 (by decide) (by decide) (by decide) (by decide) (by decide) (by decide) (by decide) (by decide) (by decide)
      refine c63 _ _ _ _ ⟨nm (B + 20), (x2.2.2.2 _ _).trans o0, LWw.1, bq_t ?_ ?_⟩
      · rw [C2'.2.2.2.2.1.2.1]; exact nI_le (Nat.le_refl r) (by omega)
      obtain ⟨ev1, hev1⟩ : ∃ ev1 : Nat → Nat, ∀ j, j < r → xg_i s2 (nm (B + 42)) j = nI (ev1 j) ∧ ev1 j ≤ 1000000 ∧ (ev1 j < 1000000 → ∃ b' w', rc z (2 ^ n - 1) (cs j) (sp d) b' ∧ ev1 j = sp d + w' ∧ DN z (2 ^ n - 1) sp K (K - (d + 1)) b' w') ∧ ∀ b' w', rc z (2 ^ n - 1) (cs j) (sp d) b' → w' ≤ 90 → DN z (2 ^ n - 1) sp K (K - (d + 1)) b' w' → ev1 j ≤ sp d + w' := by
        refine ⟨fun j => if hj : j < r then Classical.choose (g2 j hj) else 0, fun j hj => ?_⟩
        simp only [dif_pos hj]
        exact Classical.choose_spec (g2 j hj)
      refine sp_X1_wait hn (L0.mv x2 (by decide)) C2' (fun j hj => ⟨(hev1 j hj).1, (hev1 j hj).2.1⟩) (fun s3 ev2 d3 v3 w3 l3 => ?_)
      rintro _ rfl
      have e9 : nI d + -1 = nI d - 1 := by rw [Int32.sub_eq_add_neg]
      rw [e9]
      have x3 : xe nm B [19] [41, 42, 43] [] h s3 := x2.tr (d3.mono (by simp) (by simp) (by simp))
      refine ih s3 ⟨by omega, (hI _ _).mpr ⟨x3, ?_, fun s' hs' => ?_, ev2, v3, fun i hi => ?_⟩⟩
      · rw [d3.1 19 (by decide), d2.i _ (by simp), d1.i _ (by simp <;> omega)]; exact a2
      · rw [(d3.2.1 41 (by decide) (by decide) (by decide) s').1, d2.i _ (by simp), d1.i _ (by simp)]; exact a3 s' hs'
      · have eK : K - d = K - (d + 1) + 1 := by omega
        have eI : K - (K - (d + 1) + 1) = d := by omega
        rw [eK]
        refine ⟨(v3 i hi).2, fun hlt => ?_, fun w hw hp => ?_⟩
        · obtain ⟨k, t1, w, j, f1, f2, f3⟩ := w3 i hi
          obtain ⟨b', w', y1, y2, y3⟩ := (hev1 j f2).2.2.1 (by omega)
          refine ⟨t1, cs j, b', w', rc_of f1, ?_, ?_, y3⟩
          · rw [eI]; exact y1
          · rw [eI]; omega
        · obtain ⟨t1, b, b', w', y1, y2, y3, y4⟩ := hp
          rw [eI] at y2 y3
          obtain ⟨k, w2, hp2⟩ := y1
          obtain ⟨j, hj, rfl⟩ := D.rowF hi hp2
          have hk := pt_k hp2
          have z1 := l3 i k t1 w2 j hi hj (by omega) hp2
          have z2 := (hev1 j hj).2.2.2 b' w' y2 (by omega) y4
          omega
    · rintro i s2 _ hi ⟨d2, g2⟩ ih2
      have x2 : xe nm B [19] [41, 42, 43] [] h s2 := x1.tr ((xe.of d2 (by decide) (by decide)).mono (by simp) (by simp) (by simp))
      have C2' := C0.mv x2 (by decide) (by decide) (by decide) (by decide) (by decide) (by decide) (by decide) (by decide) (by decide)
      have L2 := L0.mv x2 (by decide)
      refine c63 _ _ _ _ ⟨nm (B + 20), (x2.2.2.2 _ _).trans o0, LWw.1, bq_f ?_ ⟨nm (B + 40), (x2.2.2.2 _ _).trans o2, LCc.1, ?_⟩⟩
      · rw [C2'.2.2.2.2.1.2.1]; exact nI_ge hi (by omega)
      obtain ⟨x0, y1, y2, y3⟩ := ex i hi
      refine sp_X3_of (wt := fun _ => 0) (ev := ev) (cs := cs) (z := z) (m := 2 ^ n - 1) (r := r) L2.2.2.2.1.2 hNb hrN hi hsp.2.1 hsp.2.2 ⟨x0, by rw [show B + 40 + 3 = B + 43 from rfl, d2.i _ (by simp)]; exact y3, y1, y2⟩ (fun x hx hl => ?_)
      have e9 : (if nI (sp d) + nI x < 1000000 then nI (sp d) + nI x else 1000000) = nI (if sp d + x < 1000000 then sp d + x else 1000000) := by
        rw [nI_add, nl_1000000]
        by_cases h9 : sp d + x < 1000000
        · rw [if_pos h9, if_pos (nI_lt h9 (by omega))]
        · rw [if_neg h9, if_neg (nI_nlt (by omega) (by omega))]
      rw [e9]
      rintro _ rfl
      refine ⟨nm (B + 42), (x2.2.2.2 _ _).trans LCc.2.2.1.1, LCc.2.2.1.2.1, ?_⟩
      rw [show xg_n Y (nm (B + 42)) = N from LCc.2.2.1.2.2, nI_clamp (by omega)]
      refine ⟨vp_in_nI (by omega) (by omega), ?_⟩
      rintro _ rfl _ rfl
      rw [nI_1]
      refine ih2 _ ⟨xd.ui hn d2 (by simp), fun j hj => ?_⟩
      rw [xu hn]
      by_cases ej : j = i
      · subst ej
        rw [if_pos ⟨rfl, rfl⟩]
        refine ⟨_, rfl, by split <;> omega, fun hlt => ?_, fun b' w' p1 p2 p3 => ?_⟩
        · have hlt2 : sp d + x < 1000000 := by
            rcases Nat.lt_or_ge (sp d + x) 1000000 with h9 | h9
            · exact h9
            · rw [if_neg (by omega)] at hlt; omega
          rw [if_pos hlt2]
          rcases hl with ⟨p1, _⟩ | ⟨_, ⟨k, b', w1, j2, p1, p2, p3, p4, p5⟩, _⟩
          · omega
          · have w0 : w1 = 0 := by have := pt_w (B := 0) (fun s _ => Nat.le_refl _) p1; omega
            subst w0
            subst p3
            have := (a5 j2 p2).2.1 p4
            refine ⟨cs j2, ev j2, rc_of p1, by omega, this⟩
        · obtain ⟨k, w2, hp⟩ := p1
          obtain ⟨j2, hj2, rfl⟩ := D.rowF hi hp
          have z1 := (a5 j2 hj2).2.2 w' p2 p3
          have w0 : w2 = 0 := by have := pt_w (B := 0) (fun s _ => Nat.le_refl _) hp; omega
          subst w0
          have z2 : BW z (2 ^ n - 1) (fun _ => 0) ev r cs (sp d) (cs j) (ev j2) := ⟨k, cs j2, 0, j2, hp, hj2, rfl, by omega, by omega⟩
          have z3 : x ≤ ev j2 := by
            rcases hl with ⟨_, p1⟩ | ⟨_, _, p1⟩
            · exact absurd z2 (p1 _)
            · exact p1 _ z2
          split <;> omega
      · rw [if_neg (fun q => ej q.2)]; exact g2 j (by omega)
  · rw [Nat.sub_self]
    refine (hI _ _).mpr ⟨e2', ?_, fun s hs => ?_, fun _ => 0, fun j hj => ⟨?_, Nat.zero_le _⟩, fun i hi => ⟨Nat.zero_le _, fun _ => rfl, fun w _ hw => Nat.zero_le _⟩⟩
    · rw [e2.i _ (by simp), e1.i _ (by simp), xu hn, if_pos ⟨rfl, rfl⟩]; rfl
    · rw [e2.i _ (by simp), f1, if_pos (by omega)]; rfl
    · rw [f2, if_pos (by omega)]; rfl
