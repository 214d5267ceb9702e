/-! Book: knowTurns, fewestTurns, leastSpan -/
def bcI (x0 : Int32) : Int32 :=
  let z1 := x0 - (((x0.toUInt32 >>> ((1 : Int32).toUInt32 &&& Int32.toUInt32 31)).toInt32) &&& 1431655765)
  let z2 := (z1 &&& 858993459) + (((z1.toUInt32 >>> ((2 : Int32).toUInt32 &&& Int32.toUInt32 31)).toInt32) &&& 858993459)
  let z3 := (z2 + ((z2.toUInt32 >>> ((4 : Int32).toUInt32 &&& Int32.toUInt32 31)).toInt32)) &&& 252645135
  let z4 := z3 + ((z3.toUInt32 >>> ((8 : Int32).toUInt32 &&& Int32.toUInt32 31)).toInt32)
  let z5 := z4 + ((z4.toUInt32 >>> ((16 : Int32).toUInt32 &&& Int32.toUInt32 31)).toInt32)
  z5 &&& 63
theorem bcI_8 : ∀ s, s < 256 → bcI (nI s) = nI (sw (fun _ => 1) s 8) := by decide +kernel
theorem bcI_4 : ∀ s, s < 16 → bcI (nI s) = nI (on4 s) := by decide +kernel
theorem sp_bitCount {Y : xg_Y} {Q : Int32 → xg_H → Prop} {h : xg_H} {s : Nat} (hs : s < 16) (q : Q (nI (on4 s)) h) : wp_J6_bitCount_0f7a4 Y Q (nI s) h := by
  unfold wp_J6_bitCount_0f7a4
  rintro _ rfl _ rfl _ rfl _ rfl _ rfl
  rw [← bcI_4 s hs] at q
  exact q
theorem sp_bitCount8 {Y : xg_Y} {Q : Int32 → xg_H → Prop} {h : xg_H} {s : Nat} (hs : s < 256) (q : Q (nI (sw (fun _ => 1) s 8)) h) : wp_J6_bitCount_0f7a4 Y Q (nI s) h := by
  unfold wp_J6_bitCount_0f7a4
  rintro _ rfl _ rfl _ rfl _ rfl _ rfl
  rw [← bcI_8 s hs] at q
  exact q
theorem sp_X11_lowest {Y : xg_Y} {Q : Int32 → xg_H → Prop} {h : xg_H} {v : Int32} {p : Nat → Prop} (hv : isB v p) (q : ∀ r, lst (fun t => t ≤ 30 ∧ p t) r → Q r h) : wp_X11_lowest Y Q v h := by
  obtain ⟨B, rfl, hB⟩ := hv
  unfold wp_X11_lowest
  intro R2 c2
  refine lp (σ := Unit) (R := fun k _ => R2 (nI k) h) (fun k _ => ∀ i, i < k → ¬ p i) 0 31 (by decide) ?_ ?_ () (fun i hi => absurd hi (Nat.not_lt_zero i))
  · intro _ hno
    exact c2 _ _ (bq_t (by decide) (q _ (Or.inl ⟨rfl, fun m hm => hno m (by omega) hm.2⟩)))
  · intro k _ _ hk hno ih
    refine c2 _ _ (bq_f (nI_nlt (b := k) (a := 30) (by omega) (by decide)) (sp_X11_has hB.1 (by omega) (fun hb => ⟨fun c => absurd c (by decide), fun _ => q _ (Or.inr ⟨k, rfl, ⟨by omega, (hB.2 k).mp hb⟩, fun j hj => Nat.le_of_not_lt (fun h9 => hno j h9 hj.2)⟩)⟩) (fun hb => ⟨fun _ => ?_, fun c => absurd rfl c⟩)))
    rintro _ rfl
    rw [nI_1]
    refine ih () (fun i hi hp => ?_)
    rcases Nat.lt_or_ge i k with h9 | h9
    · exact hno i h9 hp
    · rw [show i = k by omega, ← hB.2 k, hb] at hp
      cases hp
/-- the greatest -/
def gst (P : Nat → Prop) (v : Int32) : Prop := (v = nM ∧ ∀ m, ¬ P m) ∨ ∃ m, v = nI m ∧ P m ∧ ∀ j, P j → j ≤ m
theorem gst_one {P P' : Nat → Prop} {v v' : Int32} (h : gst P v) (h' : gst P' v') (e : ∀ m, P m ↔ P' m) : v = v' := by
  rcases h with ⟨e1, n1⟩ | ⟨m, e1, p1, l1⟩ <;> rcases h' with ⟨e2, n2⟩ | ⟨m', e2, p2, l2⟩
  · rw [e1, e2]
  · exact absurd ((e m').mpr p2) (n1 m')
  · exact absurd ((e m).mp p1) (n2 m)
  · have h1 := l1 m' ((e m').mpr p2)
    have h2 := l2 m ((e m).mp p1)
    rw [e1, e2, show m = m' by omega]
theorem sp_X11_highest {Y : xg_Y} {Q : Int32 → xg_H → Prop} {h : xg_H} {v : Int32} {p : Nat → Prop} (hv : isB v p) (q : ∀ r, gst (fun t => t ≤ 30 ∧ p t) r → Q r h) : wp_X11_highest Y Q v h := by
  obtain ⟨B, rfl, hB⟩ := hv
  unfold wp_X11_highest
  intro R2 c2
  have key : ∀ k, k ≤ 31 → (∀ i, k ≤ i → i ≤ 30 → ¬ p i) → R2 (nI k - 1) h := by
    intro k
    induction k with
    | zero => exact fun _ hno => c2 _ _ (bq_t (by decide) (q _ (Or.inl ⟨rfl, fun m hm => hno m (Nat.zero_le m) hm.1 hm.2⟩)))
    | succ k ih =>
      intro hk hno
      rw [nI_pred]
      refine c2 _ _ (bq_f (nI_pos (by omega)) (sp_X11_has hB.1 (by omega) (fun hb => ⟨fun c => absurd c (by decide), fun _ => q _ (Or.inr ⟨k, rfl, ⟨by omega, (hB.2 k).mp hb⟩, fun j hj => Nat.le_of_not_lt (fun h9 => hno j h9 hj.1 hj.2)⟩)⟩) (fun hb => ⟨fun _ => ?_, fun c => absurd rfl c⟩)))
      rintro _ rfl
      have e9 : nI k + -1 = nI k - 1 := by rw [Int32.sub_eq_add_neg]
      rw [e9]
      refine ih (by omega) (fun i h1 h2 hp => ?_)
      rcases Nat.lt_or_ge k i with h9 | h9
      · exact hno i h9 h2 hp
      · rw [show i = k by omega, ← hB.2 k, hb] at hp
        cases hp
  exact key 31 (by decide) (fun i h1 h2 => by omega)
theorem sp_X1_knowTurns {Y : xg_Y} {Q : xg_H → Prop} {h : xg_H} {nm : Nat → Nat} {B N N2 n r : Nat} {z t cs : Nat → Nat} (hn : inj nm) (L : LB Y h nm B N N2) (C : BC h nm B N n z t r cs) (q : ∀ h', xe nm B [17, 19] [4, 6, 41, 42, 43] [] h h' → (xg_i h' (nm B) 17 = nI 1 ∧ B2 h' nm B n z t) → (xg_i h' (nm B) 19 = nI 1 ∧ B3 h' nm B N n z r cs) → Q h') : wp_X1_knowTurns Y Q (nm B) h := by
  have L0 := L
  obtain ⟨k1, ⟨o0, LWw⟩, ⟨o1, LWp⟩, ⟨o2, LCc⟩, ⟨o3, k4⟩, ⟨o4, k5⟩, ⟨o5, k6⟩, ⟨o6, k7⟩, ⟨o7, k8⟩, ⟨o8, k9⟩, ⟨o9, k10⟩, hB⟩ := L
  obtain ⟨C0, C1, C2, C3, D, M, C6⟩ := C
  have hz := C0.zok
  have hm := C0.m
  have hr1 := D.1.1
  have hrN := D.1.2.1
  have hNb : N ≤ 1696 := LWw.2.2.2.2.2.2.2.2.1
  unfold wp_X1_knowTurns
  refine ⟨k1, fun R2 R68 R97 R123 R172 R166 c2 c68 c97 c123 c172 c166 => ?_⟩
  -- the weights
  refine lp (σ := xg_H) (R := fun k s => R2 (nI k) s) (fun k s => xe nm B [17, 19] [4, 6, 41, 42, 43] [] h s ∧ ∀ i, i < k → xg_i s (nm (B + 41)) i = nI (on4 i)) 0 16 (by decide) ?_ ?_ h ⟨xe.rf, fun i hi => absurd hi (Nat.not_lt_zero i)⟩
  · rintro s ⟨e, f⟩
    have o2s : xg_o s (nm B) 2 = some (nm (B + 40)) := (e.2.2.2 _ _).trans o2
    refine c2 _ _ (bq_t (by decide) ⟨nm (B + 40), o2s, LCc.1, ?_⟩)
    rw [(e.2.2.2 _ _).trans LCc.2.2.1.1]
    refine sp_fill (c := B + 42) hn LCc.2.2.1.2 (by omega) (fun s1 e1 f1 => ?_)
    have e1' : xe nm B [17, 19] [4, 6, 41, 42, 43] [] h s1 := e.tr ((xe.of e1 (by decide) (by decide)).mono (by simp) (by simp) (by simp))
    refine ⟨nm (B + 40), (e1'.2.2.2 _ _).trans o2, LCc.1, ?_⟩
    have L1 := L0.mv e1' (by decide)
    have D1 : WD z (2 ^ n - 1) (c4 t) s1 nm (B + 20) N r cs := (BC.mv ⟨C0, C1, C2, C3, D, M, C6⟩ e1' (by decide) (by decide) (by decide) (by decide) (by decide) (by decide) (by decide) (by decide) (by decide)).2.2.2.2.1
    have E1 : CE s1 nm (B + 40) r (2 ^ n - 1) 4 on4 (fun _ => 0) := ⟨by decide, fun i hi => ⟨(e1.i (B + 41) (by simp) i).trans (f i (by omega)), on4_le i⟩, fun j hj => ⟨by rw [show B + 40 + 2 = B + 42 from rfl, f1, if_pos (by omega)]; rfl, Or.inr (show 0 + 30 * 4 < 1000000 by decide)⟩⟩
    refine sp_X3_workOut (T := 30) hn L1.2.1.2 L1.2.2.2.1.2 hz hm D1 E1 (by decide) (fun s2 e2 f2 => ?_)
    have e2' : xe nm B [17, 19] [4, 6, 41, 42, 43] [] h s2 := e1'.tr ((xe.of (o := 43) e2 (by decide) (by decide)).mono (by simp) (by simp) (by simp))
    rintro _ rfl _ rfl
    have e3' : xe nm B [17, 19] [4, 6, 41, 42, 43] [] h (xg_ui (xg_ui s2 (nm B) 19 1) (nm B) 17 1) := xe.u0 hn (xe.u0 hn e2' (by decide)) (by decide)
    rw [(e3'.2.2.2 _ _).trans o5]
    refine sp_fill (c := B + 6) hn k6 (by decide) (fun s3 e4 f4 => ?_)
    have e4' : xe nm B [17, 19] [4, 6, 41, 42, 43] [] h s3 := e3'.tr ((xe.of e4 (by decide) (by decide)).mono (by simp) (by simp) (by simp))
    -- what stands from here on
    have hct : ∀ s', xd nm [B + 4, B + 6] s3 s' → ∀ T j, 1 ≤ T → T ≤ 30 → j < r → CT z (2 ^ n - 1) on4 (fun _ => 0) r cs s' nm (B + 40) N T j := by
      intro s' es T j h1 h2 h3
      obtain ⟨x, x1, x2, x3⟩ := f2 T j h1 h2 h3
      refine ⟨x, ?_, x2, x3⟩
      rw [show B + 40 + 3 = B + 43 from rfl, es.i _ (by simp), e4.i _ (by simp), xu_c hn (by omega), xu_c hn (by omega)]
      exact x1
    have hce : ∀ s', xd nm [B + 4, B + 6] s3 s' → CE s' nm (B + 40) r (2 ^ n - 1) 4 on4 (fun _ => 0) := by
      intro s' es
      have := E1.mv e2 (by simp) (by simp)
      refine ⟨this.1, fun s hs => ⟨?_, (this.2.1 s hs).2⟩, fun j hj => ⟨?_, (this.2.2 j hj).2⟩⟩
      · rw [show B + 40 + 1 = B + 41 from rfl, es.i _ (by simp), e4.i _ (by simp), xu_c hn (by omega), xu_c hn (by omega)]; exact (this.2.1 s hs).1
      · rw [show B + 40 + 2 = B + 42 from rfl, es.i _ (by simp), e4.i _ (by simp), xu_c hn (by omega), xu_c hn (by omega)]; exact (this.2.2 j hj).1
    have hxe : ∀ s', xd nm [B + 4, B + 6] s3 s' → xe nm B [17, 19] [4, 6, 41, 42, 43] [] h s' := by
      intro s' es
      refine e4'.tr ⟨fun j _ => es.i B (by simp) j, fun o g1 g2 g3 j => es.1 (B + o) (by simp at g1 ⊢; omega) j, fun c g1 _ j => es.1 c (by simp <;> omega) j, es.2⟩
    have h1719 : ∀ s', xd nm [B + 4, B + 6] s3 s' → xg_i s' (nm B) 17 = nI 1 ∧ xg_i s' (nm B) 19 = nI 1 := by
      intro s' es
      rw [es.i _ (by simp), es.i _ (by simp), e4.i _ (by simp), e4.i _ (by simp), xu hn, if_pos ⟨rfl, rfl⟩, xu_p hn (by decide), xu hn, if_pos ⟨rfl, rfl⟩]
      exact ⟨rfl, rfl⟩
    have hlc : ∀ s', xd nm [B + 4, B + 6] s3 s' → LB Y s' nm B N N2 := fun s' es => L0.mv (hxe s' es) (by decide)
    -- fewest
    refine lp (σ := xg_H) (R := fun T s => R68 (nI T) s) (fun T s => xd nm [B + 4, B + 6] s3 s ∧ (∀ j, xg_i s (nm (B + 6)) j = xg_i s3 (nm (B + 6)) j) ∧ ∀ T', 1 ≤ T' → T' < T → ∃ x, xg_i s (nm (B + 4)) T' = nI x ∧ x ≤ 1000000 ∧ lsG (TL z (2 ^ n - 1) (c4 t) on4 T') x) 1 31 (by decide) ?_ ?_ s3 ⟨xd.rf, fun _ => rfl, fun T' h1 h2 => by omega⟩
    · rintro s5 ⟨e5, g5, f5⟩
      refine c68 _ _ (bq_t (by decide) ?_)
      -- spans
      refine lp (σ := xg_H) (R := fun i s => R97 (nI i) s) (fun i s => xd nm [B + 4, B + 6] s3 s ∧ (∀ j, xg_i s (nm (B + 4)) j = xg_i s5 (nm (B + 4)) j) ∧ ∀ T', 1 ≤ T' → T' ≤ 30 → ∃ x, xg_i s (nm (B + 6)) T' = nI x ∧ x ≤ 1000000 ∧ lsG (fun w => ∃ i' f, i' < i ∧ f ≤ 30 ∧ w = f + T' ∧ rc z (2 ^ n - 1) (c4 t) f (cs i') ∧ ∃ b', rc z (2 ^ n - 1) (cs i') T' b') x) 0 r (Nat.zero_le r) ?_ ?_ s5 ⟨e5, fun _ => rfl, fun T' h1 h2 => ⟨1000000, ?_, Nat.le_refl _, Or.inl ⟨Nat.le_refl _, fun w ⟨i', f, a, _⟩ => absurd a (Nat.not_lt_zero i')⟩⟩⟩
      · rintro s6 ⟨e6, g6, f6⟩
        have L6 := hlc s6 e6
        have D6 : WD z (2 ^ n - 1) (c4 t) s6 nm (B + 20) N r cs := (BC.mv ⟨C0, C1, C2, C3, D, M, C6⟩ (hxe s6 e6) (by decide) (by decide) (by decide) (by decide) (by decide) (by decide) (by decide) (by decide) (by decide)).2.2.2.2.1
        · refine c97 _ _ ⟨nm (B + 20), ((hxe s6 e6).2.2.2 _ _).trans o0, LWw.1, bq_t ?_ ?_⟩
          · rw [D6.2.1]; exact nI_le (Nat.le_refl r) (by omega)
          · refine q s6 (hxe s6 e6) ⟨(h1719 s6 e6).1, Or.inr ⟨(h1719 s6 e6).1, fun T h1 h2 => ⟨?_, ?_⟩⟩⟩ ⟨(h1719 s6 e6).2, Or.inr ⟨(h1719 s6 e6).2, hce s6 e6, hct s6 e6⟩⟩
            · rw [g6]; exact f5 T h1 (by omega)
            · obtain ⟨x, x1, x2, x3⟩ := f6 T h1 h2
              refine ⟨x, x1, x2, lsG_congr x3 (fun w => ?_)⟩
              constructor
              · rintro ⟨i', f, a, b, c, d, b', e⟩
                exact ⟨f, cs i', b', b, c, d, e⟩
              · rintro ⟨f, b, b', a, c, d, e⟩
                obtain ⟨k, hk⟩ := d
                obtain ⟨i', hi', rfl⟩ := D.row hk
                exact ⟨i', f, hi', a, c, ⟨k, hk⟩, b', e⟩
      · rintro i s6 _ hi ⟨e6, g6, f6⟩ ih
        have X6 := hxe s6 e6
        have L6 := hlc s6 e6
        have D6 : WD z (2 ^ n - 1) (c4 t) s6 nm (B + 20) N r cs := (BC.mv ⟨C0, C1, C2, C3, D, M, C6⟩ X6 (by decide) (by decide) (by decide) (by decide) (by decide) (by decide) (by decide) (by decide) (by decide)).2.2.2.2.1
        have M6 : WM z (2 ^ n - 1) (c4 t) s6 nm (B + 20) r cs := (BC.mv ⟨C0, C1, C2, C3, D, M, C6⟩ X6 (by decide) (by decide) (by decide) (by decide) (by decide) (by decide) (by decide) (by decide) (by decide)).2.2.2.2.2.1
        have nxt : ∀ s7, xd nm [B + 4, B + 6] s3 s7 → (∀ j, xg_i s7 (nm (B + 4)) j = xg_i s5 (nm (B + 4)) j) → (∀ T', 1 ≤ T' → T' ≤ 30 → ∃ x, xg_i s7 (nm (B + 6)) T' = nI x ∧ x ≤ 1000000 ∧ lsG (fun w => ∃ i' f, i' < i + 1 ∧ f ≤ 30 ∧ w = f + T' ∧ rc z (2 ^ n - 1) (c4 t) f (cs i') ∧ ∃ b', rc z (2 ^ n - 1) (cs i') T' b') x) → R172 (nI i) s7 := by
          intro s7 a1 a2 a3
          refine c172 _ _ ?_
          rintro _ rfl
          rw [nI_1]
          exact ih s7 ⟨a1, a2, a3⟩
        refine c97 _ _ ⟨nm (B + 20), (X6.2.2.2 _ _).trans o0, LWw.1, bq_f ?_ ⟨nm (B + 22), (X6.2.2.2 _ _).trans LWw.2.2.1.1, LWw.2.2.1.2.1, ?_⟩⟩
        · rw [D6.2.1]; exact nI_ge hi (by omega)
        rw [show xg_n Y (nm (B + 22)) = N from LWw.2.2.1.2.2, nI_clamp (by omega)]
        refine ⟨vp_in_nI (by omega) (by omega), sp_X11_lowest (M6.1 i hi) (fun bg hbg => ?_)⟩
        rcases hbg with ⟨rfl, hno⟩ | ⟨f, rfl, hf, hl⟩
        · refine c123 _ _ _ _ (bq_f (by decide) (bq_t rfl (nxt s6 e6 g6 (fun T' h1 h2 => ?_))))
          obtain ⟨x, x1, x2, x3⟩ := f6 T' h1 h2
          refine ⟨x, x1, x2, lsG_congr x3 (fun w => ⟨fun ⟨i', f, a, b⟩ => ⟨i', f, by omega, b⟩, fun ⟨i', f, a, b1, b2, b3, b4⟩ => ?_⟩)⟩
          rcases Nat.lt_or_ge i' i with h9 | h9
          · exact ⟨i', f, h9, b1, b2, b3, b4⟩
          · rw [show i' = i by omega] at b3
            exact absurd ⟨b1, b1, b3⟩ (hno f)
        · refine lp (σ := xg_H) (R := fun T s => R123 (nI i) (nI f) (nI T) s) (fun T s => xd nm [B + 4, B + 6] s3 s ∧ (∀ j, xg_i s (nm (B + 4)) j = xg_i s5 (nm (B + 4)) j) ∧ ∀ T', 1 ≤ T' → T' ≤ 30 → ∃ x, xg_i s (nm (B + 6)) T' = nI x ∧ x ≤ 1000000 ∧ lsG (fun w => (∃ i' f, i' < i ∧ f ≤ 30 ∧ w = f + T' ∧ rc z (2 ^ n - 1) (c4 t) f (cs i') ∧ ∃ b', rc z (2 ^ n - 1) (cs i') T' b') ∨ (T' < T ∧ w = f + T' ∧ ∃ b', rc z (2 ^ n - 1) (cs i) T' b')) x) 1 31 (by decide) ?_ ?_ s6 ⟨e6, g6, fun T' h1 h2 => ?_⟩
          · rintro s7 ⟨e7, g7, f7⟩
            refine c123 _ _ _ _ (bq_t (by decide) (nxt s7 e7 g7 (fun T' h1 h2 => ?_)))
            obtain ⟨x, x1, x2, x3⟩ := f7 T' h1 h2
            refine ⟨x, x1, x2, ?_⟩
            -- the earliest begin of this row is enough
            rcases x3 with ⟨y1, y2⟩ | ⟨y1, y2, y3⟩
            · refine Or.inl ⟨y1, ?_⟩
              rintro w ⟨i', f', a, b1, b2, b3, b4⟩
              rcases Nat.lt_or_ge i' i with h9 | h9
              · exact y2 w (Or.inl ⟨i', f', h9, b1, b2, b3, b4⟩)
              · rw [show i' = i by omega] at b4
                exact y2 (f + T') (Or.inr ⟨by omega, rfl, b4⟩)
            · refine Or.inr ⟨y1, ?_, ?_⟩
              · rcases y2 with ⟨i', f', a, b⟩ | ⟨a, b, d⟩
                · exact ⟨i', f', by omega, b⟩
                · exact ⟨i, f, by omega, hf.1, b, hf.2.2, d⟩
              · rintro w ⟨i', f', a, b1, b2, b3, b4⟩
                rcases Nat.lt_or_ge i' i with h9 | h9
                · exact y3 w (Or.inl ⟨i', f', h9, b1, b2, b3, b4⟩)
                · rw [show i' = i by omega] at b3 b4
                  have g1 := hl f' ⟨b1, b1, b3⟩
                  have g2 := y3 (f + T') (Or.inr ⟨by omega, rfl, b4⟩)
                  omega
          · rintro T s7 hT1 hT ⟨e7, g7, f7⟩ ih2
            have X7 := hxe s7 e7
            have L7 := hlc s7 e7
            have nx2 : ∀ s8, xd nm [B + 4, B + 6] s3 s8 → (∀ j, xg_i s8 (nm (B + 4)) j = xg_i s5 (nm (B + 4)) j) → (∀ T', 1 ≤ T' → T' ≤ 30 → ∃ x, xg_i s8 (nm (B + 6)) T' = nI x ∧ x ≤ 1000000 ∧ lsG (fun w => (∃ i' f, i' < i ∧ f ≤ 30 ∧ w = f + T' ∧ rc z (2 ^ n - 1) (c4 t) f (cs i') ∧ ∃ b', rc z (2 ^ n - 1) (cs i') T' b') ∨ (T' < T + 1 ∧ w = f + T' ∧ ∃ b', rc z (2 ^ n - 1) (cs i) T' b')) x) → R166 (nI i) (nI f) (nI T) s8 := by
              intro s8 a1 a2 a3
              refine c166 _ _ _ _ ?_
              rintro _ rfl
              rw [nI_1]
              exact ih2 s8 ⟨a1, a2, a3⟩
            have hf30 := hf.1
            refine c123 _ _ _ _ (bq_f (nI_nlt (b := T) (a := 30) (by omega) (by decide)) (bq_f ?_ ⟨nm (B + 40), (X7.2.2.2 _ _).trans o2, LCc.1, ?_⟩))
            · intro e9; rw [nl_m1, nI_eqM (by omega)] at e9; exact e9
            refine sp_X3_of L7.2.2.2.1.2 hNb hrN hi hT1 (by omega) (hct s7 e7 T i hT1 (by omega) hi) (fun x hx hl2 => ?_)
            have hT' : lsG (TL z (2 ^ n - 1) (cs i) on4 T) x := lsG_congr hl2 (fun w => BW_TL D hi)
            rcases hT' with ⟨y1, y2⟩ | ⟨y1, y2, y3⟩
            · have hno : ¬ ∃ b', rc z (2 ^ n - 1) (cs i) T b' := fun h9 => by
                obtain ⟨w, hw⟩ := TL_rc.mpr h9
                exact y2 w hw
              refine bq_t (nI_le (by omega) (by omega)) (nx2 s7 e7 g7 (fun T' h1 h2 => ?_))
              obtain ⟨x', z1, z2, z3⟩ := f7 T' h1 h2
              refine ⟨x', z1, z2, lsG_congr z3 (fun w => ⟨fun q => q.imp id (fun ⟨a, b⟩ => ⟨by omega, b⟩), fun q => q.imp id (fun ⟨a, b, d⟩ => ⟨?_, b, d⟩)⟩)⟩
              rcases Nat.lt_or_ge T' T with h9 | h9
              · exact h9
              · rw [show T' = T by omega] at d; exact absurd d hno
            · have hyes : ∃ b', rc z (2 ^ n - 1) (cs i) T b' := TL_rc.mp ⟨x, y2⟩
              refine bq_f (nI_ge (b := 1000000) (by omega) (by decide)) ⟨nm (B + 6), (X7.2.2.2 _ _).trans o5, k6.1, ?_⟩
              rw [k6.2, nI_clamp (by omega), nI_add]
              obtain ⟨x', z1, z2, z3⟩ := f7 T hT1 (by omega)
              rw [z1]
              have e9 : (if nI (f + T) < nI x' then nI (f + T) else nI x') = nI (if f + T < x' then f + T else x') := by
                by_cases h9 : f + T < x'
                · rw [if_pos h9, if_pos (nI_lt h9 (by omega))]
                · rw [if_neg h9, if_neg (nI_nlt (by omega) (by omega))]
              rw [e9]
              refine ⟨vp_in_nI (by omega) (by decide), ?_⟩
              rintro _ rfl
              refine ⟨vp_in_nI (by omega) (by decide), ?_⟩
              rintro _ rfl
              refine nx2 _ (xd.ui hn e7 (by simp)) (fun j => by rw [xu_c hn (by omega)]; exact g7 j) (fun T' h1 h2 => ?_)
              rw [xu hn]
              by_cases eT : T' = T
              · subst eT
                rw [if_pos ⟨rfl, rfl⟩]
                refine ⟨_, rfl, by split <;> omega, lsG_congr (lsG_min z3 (show lsG (fun w => w = f + T' ∧ ∃ b', rc z (2 ^ n - 1) (cs i) T' b') (f + T') from Or.inr ⟨by omega, ⟨rfl, hyes⟩, fun j hj => by omega⟩)) (fun w => ?_)⟩
                constructor
                · rintro ((a | ⟨a, b⟩) | a)
                  · exact Or.inl a
                  · exact Or.inr ⟨by omega, b⟩
                  · exact Or.inr ⟨by omega, a⟩
                · rintro (a | ⟨a, b⟩)
                  · exact Or.inl (Or.inl a)
                  · exact Or.inr b
              · rw [if_neg (fun q => eT q.2)]
                obtain ⟨x2, w1, w2, w3⟩ := f7 T' h1 h2
                refine ⟨x2, w1, w2, lsG_congr w3 (fun w => ⟨fun q => q.imp id (fun ⟨a, b⟩ => ⟨by omega, b⟩), fun q => q.imp id (fun ⟨a, b⟩ => ⟨by omega, b⟩)⟩)⟩
          · obtain ⟨x, x1, x2, x3⟩ := f6 T' h1 h2
            exact ⟨x, x1, x2, lsG_congr x3 (fun w => ⟨Or.inl, fun q => q.elim id (fun ⟨a, _⟩ => by omega)⟩)⟩
      · rw [g5, f4, if_pos (by omega)]; rfl
    · rintro T s5 hT1 hT ⟨e5, g5, f5⟩ ih
      have X5 := hxe s5 e5
      have L5 := hlc s5 e5
      refine c68 _ _ (bq_f (nI_nlt (b := T) (a := 30) (by omega) (by decide)) ⟨nm (B + 40), (X5.2.2.2 _ _).trans o2, LCc.1, ?_⟩)
      refine sp_X3_of (i := 0) L5.2.2.2.1.2 hNb hrN (by omega) hT1 (by omega) (hct s5 e5 T 0 hT1 (by omega) (by omega)) (fun x hx hl => ⟨nm (B + 4), (X5.2.2.2 _ _).trans o3, k4.1, ?_⟩)
      rw [k4.2, nI_clamp (by omega)]
      refine ⟨vp_in_nI (by omega) (by decide), ?_⟩
      rintro _ rfl _ rfl
      rw [nI_1]
      refine ih _ ⟨xd.ui hn e5 (by simp), fun j => by rw [xu_c hn (by omega)]; exact g5 j, fun T' h1 h2 => ?_⟩
      rw [xu hn]
      by_cases eT : T' = T
      · rw [if_pos ⟨rfl, eT⟩, eT]
        refine ⟨x, rfl, hx, lsG_congr hl (fun w => ?_)⟩
        rw [BW_TL D (by omega), D.1.2.2]
      · rw [if_neg (fun q => eT q.2)]; exact f5 T' h1 (by omega)
  · rintro k s _ hk ⟨e, f⟩ ih
    refine c2 _ _ (bq_f (nI_ge hk (by decide)) ⟨nm (B + 40), (e.2.2.2 _ _).trans o2, LCc.1, ?_⟩)
    refine sp_bitCount hk ⟨nm (B + 41), (e.2.2.2 _ _).trans LCc.2.1.1, LCc.2.1.2.1, ?_⟩
    rw [show xg_n Y (nm (B + 41)) = 16 from LCc.2.1.2.2, nI_clamp (by omega)]
    refine ⟨vp_in_nI hk (by decide), ?_⟩
    rintro _ rfl _ rfl
    rw [nI_1]
    refine ih _ ⟨xe.ui hn e (by decide) (by decide) (by decide), fun i hi => ?_⟩
    rw [xu hn]
    by_cases ei : i = k
    · rw [if_pos ⟨rfl, ei⟩, ei]
    · rw [if_neg (fun q => ei q.2)]; exact f i (by omega)
