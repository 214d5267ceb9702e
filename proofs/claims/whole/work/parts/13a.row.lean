/-! the reference: keepAll, leftBy, layBack, layRow -/
theorem SR.sh {p : Nat → Nat → Int32} {k n : Nat} {z t pr : Nat → Nat} (S : SR p k n z t pr) : SH n z t := ⟨S.1, fun j hj => by have := S.2.2.1 j hj; omega, fun j hj => by have := S.2.2.2 j hj; omega⟩
theorem sp_keepAll {Q : mg_H → Prop} {h : mg_H} (q : ∀ h', md [44] [] h h' → (∀ j, j < 126976 → mg_i h' 44 j = mg_i h 40 j) → Q h') : wp_keepAll Q h := by
  unfold wp_keepAll
  intro R2 c2
  refine lp (σ := mg_H) (R := fun k s => R2 (nI k) s) (fun k s => md [44] [] h s ∧ ∀ j, j < k → mg_i s 44 j = mg_i h 40 j) 0 126976 (Nat.zero_le _) ?_ ?_ h ⟨md.rf, fun j hj => absurd hj (Nat.not_lt_zero j)⟩
  · rintro s ⟨e, f⟩
    exact c2 _ _ (bq_t (by decide) (q s e f))
  · rintro k s _ hk ⟨e, f⟩ ih
    refine c2 _ _ (bq_f (nI_ge hk (by decide)) ⟨vp_in_nI (show k < 126976 from hk) (by decide), vp_in_nI (show k < 126976 from hk) (by decide), ?_⟩)
    rintro _ rfl _ rfl
    rw [nI_clamp (by omega), nI_1]
    refine ih _ ⟨md.ui e (by decide) (by decide), fun j hj => ?_⟩
    rw [mi_ui]
    by_cases ej : j = k
    · rw [if_pos ⟨rfl, ej⟩, ej]; exact e.1 40 (by decide) (by decide) k
    · rw [if_neg (fun q => ej q.2)]; exact f j (by omega)
/-- what is left from t, c to the event at minute A: as laid back -/
def LQ (z : Nat → Nat) (m c0 A : Nat) (g : mg_H) (t c : Nat) : Prop := lst (fun w => rc z m c0 t c ∧ TL z m c on4 (A - t) w) (mg_i g 40 (4096 * t + c))
theorem TL_0 {z : Nat → Nat} {m c : Nat} {wt : Nat → Nat} {w : Nat} : TL z m c wt 0 w ↔ w = 0 := by
  constructor
  · rintro ⟨k, b, h⟩
    have := pt_k h
    have e : k = 0 := by omega
    subst e
    exact h.2.2
  · rintro rfl; exact ⟨0, c, rfl, rfl, rfl⟩
theorem TL_s {z : Nat → Nat} {m c : Nat} {wt : Nat → Nat} {T w : Nat} (hT : 1 ≤ T) : TL z m c wt T w ↔ ∃ s, s ≤ m ∧ sb s m ∧ 0 < dl z c s ∧ dl z c s ≤ T ∧ ∃ w', TL z m (nc z c s) wt (T - dl z c s) w' ∧ w = wt s + w' := by
  constructor
  · rintro ⟨k, b, h⟩
    cases k with
    | zero => obtain ⟨e, _⟩ := h; omega
    | succ k =>
      obtain ⟨s, t', w', g1, g2, g3, g4, g5⟩ := h
      refine ⟨s, sb_le g1, g1, g2, by omega, w', ⟨k, b, ?_⟩, g4⟩
      rw [show T - dl z c s = t' by omega]; exact g5
  · rintro ⟨s, _, g1, g2, g3, w', ⟨k, b, h⟩, g4⟩
    exact ⟨k + 1, b, s, T - dl z c s, w', g1, g2, by omega, g4, h⟩
theorem TL_b {z : Nat → Nat} {m c T w : Nat} (hT : T ≤ 30) (h : TL z m c on4 T w) : w ≤ 120 := by
  obtain ⟨k, b, h⟩ := h
  have h1 := pt_w (B := 4) (fun s _ => on4_le s) h
  have h2 := pt_k h
  omega
theorem rc_step {z : Nat → Nat} {m c0 t c s : Nat} (h : rc z m c0 t c) (h1 : sb s m) (h2 : 0 < dl z c s) : rc z m c0 (t + dl z c s) (nc z c s) := by
  obtain ⟨k, w, hp⟩ := h
  exact ⟨k + 1, _, pt_add hp h1 h2⟩
theorem sp_leftBy {Q : Int32 → mg_H → Prop} {h : mg_H} {z : Nat → Nat} {n c0 A t c s : Nat} (hz : zok z) (hn : n ≤ 4) (hA : A ≤ 30) (hs : ∀ j, j < 4 → mg_i h 27 j = nI (z j)) (hc0 : okc z c0) (hrc : rc z (2 ^ n - 1) c0 t c) (ht : t < A) (hsm : s ≤ 2 ^ n - 1) (hL : ∀ t' c', t < t' → t' ≤ A → c' < 4096 → LQ z (2 ^ n - 1) c0 A h t' c') (q : ∀ h' v, (h' = h ∨ h' = mg_ui h 0 39 (nI (nc z c s))) → lst (fun w => (sb s (2 ^ n - 1) ∧ 0 < dl z c s ∧ dl z c s ≤ A - t) ∧ ∃ w', TL z (2 ^ n - 1) (nc z c s) on4 (A - t - dl z c s) w' ∧ w = on4 s + w') v → Q v h') : wp_leftBy Q (nI A) (nI t) (nI c) (nI s) h := by
  have hp := pow_n hn
  have hp1 := Nat.two_pow_pos n
  have hokc : okc z c := by obtain ⟨k, w, hp⟩ := hrc; exact pt_ok hz hp hc0
  have hsb : sb s (2 ^ n - 1) := sb_full.mpr hsm
  unfold wp_leftBy
  refine sp_next hz hs hokc (by omega) (fun d0 => bq_t rfl (q h _ (Or.inl rfl) (Or.inl ⟨rfl, fun w hw => by omega⟩))) (fun d0 => ?_)
  have hd7 := dl_le (c := c) (s := s) hz
  have hnc := nc_lt (c := c) (s := s) hz
  refine bq_f (fun e => by have := (nI_eq (a := dl z c s) (b := 0) (by omega) (by decide)).mp e; omega) ?_
  rw [nI_add]
  by_cases hA2 : t + dl z c s ≤ A
  · refine bq_t (nI_le hA2 (by omega)) ?_
    rw [mi_same, nl_4096, pk_mul, nI_add, nI_clamp (by omega), mi_cell (by decide)]
    refine ⟨vp_in_nI (show 4096 * (t + dl z c s) + nc z c s < 126976 by omega) (by decide), ?_⟩
    rintro _ rfl
    have hl := hL (t + dl z c s) (nc z c s) (by omega) hA2 hnc
    have hr2 := rc_step hrc hsb d0
    unfold LQ at hl
    rw [show A - (t + dl z c s) = A - t - dl z c s by omega] at hl
    rcases hl with ⟨e, hno⟩ | ⟨m0, e, ⟨_, hm0⟩, hlst⟩
    · rw [e]
      refine bq_nf rfl (q _ _ (Or.inr rfl) (Or.inl ⟨rfl, fun w hw => ?_⟩))
      obtain ⟨_, w', h1, _⟩ := hw
      exact hno w' ⟨hr2, h1⟩
    · have hb := TL_b (by omega) hm0
      rw [e]
      refine bq_nt (by rw [nl_m1, nI_eqM (by omega)]; exact id) (sp_cost0 (by omega) ?_)
      rw [nI_add]
      refine q _ _ (Or.inr rfl) (Or.inr ⟨m0 + on4 s, rfl, ⟨⟨hsb, d0, by omega⟩, m0, hm0, by omega⟩, fun j hj => ?_⟩)
      obtain ⟨_, w', h1, h2⟩ := hj
      have := hlst w' ⟨hr2, h1⟩
      omega
  · exact bq_f (nI_ge (by omega) (by omega)) (q _ _ (Or.inr rfl) (Or.inl ⟨rfl, fun w hw => by omega⟩))
theorem sp_layBack {Q : mg_H → Prop} {h : mg_H} {z t0 : Nat → Nat} {n A : Nat} (H : HS h z (2 ^ n - 1) (c4 t0)) (SHh : SH n z t0) (hA1 : 1 ≤ A) (hA : A ≤ 30) (q : ∀ h', md [40, 44] [39] h h' → (∀ t c, t ≤ A → c < 4096 → LQ z (2 ^ n - 1) (c4 t0) A h' t c) → Q h') : wp_layBack Q (nI A) h := by
  have hz := SHh.zok
  have hn := SHh.1
  have hm := SHh.m
  have hc0 := SHh.ok
  have hB : ∀ s, s ≤ 2 ^ n - 1 → on4 s ≤ 40 := fun s _ => Nat.le_trans (on4_le s) (by decide)
  unfold wp_layBack
  intro R17 R71 R56 R77 R132 R126 c17 c71 c56 c77 c132 c126
  refine sp_layOut (wt := on4) H hz hm hc0 (fun h' _ s hs _ Q q => sp_cost0 hs q) hB (fun h1 e1 C1 => ?_)
  refine sp_keepAll (fun h2 e2 f2 => ?_)
  refine sp_clear (a := 0) (b := A) (by omega) hA (fun h3 e3 f3 => ?_)
  have kept : ∀ h', md [40] [39] h3 h' → ∀ t c, t ≤ 30 → c < 4096 → lst (PF z (2 ^ n - 1) on4 (fun a => a = c4 t0) 0 t c) (mg_i h' 44 (4096 * t + c)) := by
    intro h' e t c h1 h2
    rw [e.1 44 (by decide) (by decide), e3.1 44 (by decide) (by decide), f2 _ (by omega)]
    exact C1 t c (Nat.zero_le t) h1 h2
  have krc : ∀ t c w, PF z (2 ^ n - 1) on4 (fun a => a = c4 t0) 0 t c w → rc z (2 ^ n - 1) (c4 t0) t c := fun t c w hp => by
    obtain ⟨k, hp⟩ := PF_one.mp hp
    exact rc_of hp
  have rck : ∀ t c, rc z (2 ^ n - 1) (c4 t0) t c → ∃ w, PF z (2 ^ n - 1) on4 (fun a => a = c4 t0) 0 t c w := fun t c hp => by
    obtain ⟨k, w, hp⟩ := rc_to (wt := on4) hp
    exact ⟨w, PF_one.mpr ⟨k, hp⟩⟩
  have kM : ∀ h', md [40] [39] h3 h' → ∀ t c, t ≤ 30 → c < 4096 → (mg_i h' 44 (4096 * t + c) = nM ↔ ¬ rc z (2 ^ n - 1) (c4 t0) t c) := by
    intro h' e t c h1 h2
    rcases kept h' e t c h1 h2 with ⟨a, b⟩ | ⟨m0, a, b, _⟩
    · exact ⟨fun _ hr => by obtain ⟨w, hw⟩ := rck t c hr; exact b w hw, fun _ => a⟩
    · have := CL_b hB h1 b
      refine ⟨fun e9 => ?_, fun hno => absurd (krc t c m0 b) hno⟩
      rw [a, nI_eqM (by omega)] at e9; exact e9.elim
  have H3 : HS h3 z (2 ^ n - 1) (c4 t0) := ((H.mv e1 (by decide) (by decide) (by decide)).mv e2 (by decide) (by decide) (by decide)).mv e3 (by decide) (by decide) (by decide)
  have E : ∀ h', md [40] [39] h3 h' → md [40, 44] [39] h h' := fun h' e => ((e1.mono (by decide) (by decide)).tr (e2.mono (by decide) (by decide))).tr ((e3.mono (by decide) (by decide)).tr (e.mono (by decide) (by decide)))
  -- the row A
  refine lp (σ := mg_H) (R := fun k s => R17 (nI k) s) (fun k s => md [40] [39] h3 s ∧ (∀ c, c < k → LQ z (2 ^ n - 1) (c4 t0) A s A c) ∧ ∀ j, j < 4096 * A → mg_i s 40 j = nM) 0 4096 (by decide) ?_ ?_ h3 ⟨md.rf, fun c hc => absurd hc (Nat.not_lt_zero c), fun j hj => by rw [f3, if_pos (by omega)]⟩
  · rintro s ⟨es, fs, gs⟩
    refine c17 _ _ (bq_t (by decide) ?_)
    rintro _ rfl
    rw [nl_4096, pk_mul]
    -- backward
    refine lpd (σ := mg_H) (R := fun k s => R71 (nI k - 1) s) (fun k s => k ≤ 4096 * A ∧ md [40] [39] h3 s ∧ (∀ t c, t ≤ A → c < 4096 → k ≤ 4096 * t + c → LQ z (2 ^ n - 1) (c4 t0) A s t c) ∧ ∀ j, j < k → mg_i s 40 j = nM) ?_ ?_ (4096 * A) s ⟨Nat.le_refl _, es, fun t c h1 h2 h3 => ?_, gs⟩
    · rintro s ⟨_, es, fs, _⟩
      exact c71 _ _ (bq_t (by decide) (q s (E s es) (fun t c h1 h2 => fs t c h1 h2 (Nat.zero_le _))))
    · rintro k s ⟨hk, es, fs, gs⟩ ih
      rw [nI_pred]
      have hkt : k / 4096 < A := by omega
      have hkc : k % 4096 < 4096 := Nat.mod_lt _ (by decide)
      have hke : 4096 * (k / 4096) + k % 4096 = k := by omega
      refine c71 _ _ (bq_f (nI_pos (by omega)) ?_)
      have fin : ∀ s2, md [40] [39] h3 s2 → (∀ j, j ≠ k → mg_i s2 40 j = mg_i s 40 j) → LQ z (2 ^ n - 1) (c4 t0) A s2 (k / 4096) (k % 4096) → R132 (nI k) s2 := by
        intro s2 a1 a2 a3
        refine c132 _ _ ?_
        rintro _ rfl
        have e9 : nI k + -1 = nI k - 1 := by rw [Int32.sub_eq_add_neg]
        rw [e9]
        refine ih s2 ⟨by omega, a1, fun t c h1 h2 h3 => ?_, fun j hj => by rw [a2 j (by omega)]; exact gs j (by omega)⟩
        by_cases e8 : 4096 * t + c = k
        · rw [show t = k / 4096 by omega, show c = k % 4096 by omega]; exact a3
        · unfold LQ
          rw [a2 _ e8]; exact fs t c h1 h2 (by omega)
      have k44 : mg_i s 44 k = nM ↔ ¬ rc z (2 ^ n - 1) (c4 t0) (k / 4096) (k % 4096) := by
        have := kM s es (k / 4096) (k % 4096) (by omega) hkc
        rw [hke] at this; exact this
      have k25 : ∀ s2, md [40] [39] h3 s2 → mg_i s2 0 25 = nI (2 ^ n - 1) := fun s2 e => (e.2 25 (by decide)).trans H3.2.1
      by_cases hr : rc z (2 ^ n - 1) (c4 t0) (k / 4096) (k % 4096)
      · have hkM : ¬ mg_i s 44 k = nM := fun e => k44.mp e hr
        -- all sets
        refine lp (σ := mg_H) (R := fun x s2 => R77 (nI k) (nI x) s2) (fun x s2 => md [40] [39] h3 s2 ∧ (∀ j, j ≠ k → mg_i s2 40 j = mg_i s 40 j) ∧ lst (fun w => ∃ s', s' < x ∧ (sb s' (2 ^ n - 1) ∧ 0 < dl z (k % 4096) s' ∧ dl z (k % 4096) s' ≤ A - k / 4096) ∧ ∃ w', TL z (2 ^ n - 1) (nc z (k % 4096) s') on4 (A - k / 4096 - dl z (k % 4096) s') w' ∧ w = on4 s' + w') (mg_i s2 40 k)) 0 (2 ^ n - 1 + 1) (Nat.zero_le _) ?_ ?_ s ⟨es, fun _ _ => rfl, Or.inl ⟨gs k (by omega), fun w ⟨s', a, _⟩ => absurd a (Nat.not_lt_zero s')⟩⟩
        · rintro s2 ⟨a1, a2, a3⟩
          refine c77 _ _ _ (bq_t (by rw [k25 s2 a1]; exact nI_lt (by omega) (by omega)) (fin s2 a1 a2 ?_))
          unfold LQ
          rw [hke]
          refine lst_congr a3 (fun w => ?_)
          rw [TL_s (by omega)]
          exact ⟨fun ⟨s', b1, ⟨b2, b3, b4⟩, b5⟩ => ⟨hr, s', by omega, b2, b3, b4, b5⟩, fun ⟨_, s', b1, b2, b3, b4, b5⟩ => ⟨s', by omega, ⟨b2, b3, b4⟩, b5⟩⟩
        · rintro x s2 _ hx ⟨a1, a2, a3⟩ ih2
          have m44 : mg_i s2 44 k = mg_i s 44 k := by rw [a1.1 44 (by decide) (by decide), es.1 44 (by decide) (by decide)]
          refine c77 _ _ _ (bq_f (by rw [k25 s2 a1]; exact nI_nlt (by omega) (by omega)) ⟨vp_in_nI (show k < 126976 by omega) (by decide), ?_⟩)
          rw [nI_clamp (by omega), m44]
          refine bq_f hkM ?_
          rw [nl_4096, pk_rem (by omega) (by decide) (by decide), pk_div (by omega) (by decide) (by decide)]
          refine sp_leftBy (n := n) (c0 := c4 t0) hz hn hA (fun j hj => (a1.1 27 (by decide) (by decide) j).trans (H3.1 j hj)) hc0 hr hkt (by omega) (fun t' c' b1 b2 b3 => ?_) (fun s3 v b1 b2 => ?_)
          · unfold LQ
            rw [a2 _ (by omega)]; exact fs t' c' b2 b3 (by omega)
          · have nxt : ∀ s4, md [40] [39] h3 s4 → (∀ j, j ≠ k → mg_i s4 40 j = mg_i s 40 j) → lst (fun w => ∃ s', s' < x + 1 ∧ (sb s' (2 ^ n - 1) ∧ 0 < dl z (k % 4096) s' ∧ dl z (k % 4096) s' ≤ A - k / 4096) ∧ ∃ w', TL z (2 ^ n - 1) (nc z (k % 4096) s') on4 (A - k / 4096 - dl z (k % 4096) s') w' ∧ w = on4 s' + w') (mg_i s4 40 k) → R126 (nI k) (nI x) s4 := by
              intro s4 d1 d2 d3
              refine c126 _ _ _ ?_
              rintro _ rfl
              rw [nI_1]
              exact ih2 s4 ⟨d1, d2, d3⟩
            have d1 : md [40] [39] h3 s3 := by
              rcases b1 with rfl | rfl
              · exact a1
              · exact md.u0 a1 (by decide)
            have d2 : ∀ j, mg_i s3 40 j = mg_i s2 40 j := fun j => by
              rcases b1 with rfl | rfl
              · rfl
              · exact mi_cell (by decide)
            have bnd : ∀ s' w, (sb s' (2 ^ n - 1) ∧ 0 < dl z (k % 4096) s' ∧ dl z (k % 4096) s' ≤ A - k / 4096) → (∃ w', TL z (2 ^ n - 1) (nc z (k % 4096) s') on4 (A - k / 4096 - dl z (k % 4096) s') w' ∧ w = on4 s' + w') → w < 1000 := fun s' w _ ⟨w', h1, h2⟩ => by
              have := TL_b (by omega) h1
              have := on4_le s'
              omega
            rcases b2 with ⟨ev, hno⟩ | ⟨m0, ev, hm0, hl0⟩
            · refine bq_t ev (nxt s3 d1 (fun j hj => (d2 j).trans (a2 j hj)) ?_)
              rw [d2]
              refine lst_congr a3 (fun w => ⟨fun ⟨s', c1, c2⟩ => ⟨s', by omega, c2⟩, fun ⟨s', c1, c2, c3⟩ => ?_⟩)
              rcases Nat.lt_or_ge s' x with h9 | h9
              · exact ⟨s', h9, c2, c3⟩
              · rw [show s' = x by omega] at c2 c3
                exact absurd ⟨c2, c3⟩ (hno w)
            · have hb0 := bnd x m0 hm0.1 hm0.2
              rw [ev]
              refine bq_f (by rw [nl_m1, nI_eqM (by omega)]; exact id) (sp_offer (by omega) (nxt _ (md.ui d1 (by decide) (by decide)) (fun j hj => by rw [mi_place hj, d2]; exact a2 j hj) ?_))
              rw [mi_same, d2]
              have := lst_offer (A := fun w => (sb x (2 ^ n - 1) ∧ 0 < dl z (k % 4096) x ∧ dl z (k % 4096) x ≤ A - k / 4096) ∧ ∃ w', TL z (2 ^ n - 1) (nc z (k % 4096) x) on4 (A - k / 4096 - dl z (k % 4096) x) w' ∧ w = on4 x + w') (y := 0) a3 (fun w ⟨s', c1, c2, c3⟩ => by have := bnd s' w c2 c3; omega) hm0 hl0 (by omega)
              rw [Nat.add_zero] at this
              refine lst_congr this (fun w => ?_)
              constructor
              · rintro (⟨s', c1, c2⟩ | ⟨w0, c1, c2⟩)
                · exact ⟨s', by omega, c2⟩
                · rw [Nat.add_zero] at c2; subst c2; exact ⟨x, by omega, c1⟩
              · rintro ⟨s', c1, c2⟩
                rcases Nat.lt_or_ge s' x with h9 | h9
                · exact Or.inl ⟨s', h9, c2⟩
                · rw [show s' = x by omega] at c2; exact Or.inr ⟨w, c2, rfl⟩
      · have hkM : mg_i s 44 k = nM := k44.mpr hr
        refine c77 _ _ _ (bq_f (by rw [k25 s es]; exact nI_nlt (b := 0) (by omega) (by omega)) ⟨vp_in_nI (show k < 126976 by omega) (by decide), ?_⟩)
        rw [nI_clamp (by omega)]
        refine bq_t hkM (fin s es (fun _ _ => rfl) ?_)
        unfold LQ
        rw [hke, gs k (by omega)]
        exact Or.inl ⟨rfl, fun w hw => hr hw.1⟩
    · have e9 : t = A := by omega
      subst e9
      exact fs c h2
  · rintro k s _ hk ⟨es, fs, gs⟩ ih
    have e9 : 4096 * nI A + nI k = nI (4096 * A + k) := by rw [nl_4096, pk_mul, nI_add]
    have join : ∀ v, lst (fun w => rc z (2 ^ n - 1) (c4 t0) A k ∧ TL z (2 ^ n - 1) k on4 (A - A) w) v → R56 (nI k) v (nI (4096 * A + k)) s := by
      intro v hv
      refine c56 _ _ _ _ ⟨vp_in_nI (show 4096 * A + k < 126976 by omega) (by decide), ?_⟩
      rintro _ rfl _ rfl
      rw [nI_1, nI_clamp (by omega)]
      refine ih _ ⟨md.ui es (by decide) (by decide), fun c hc => ?_, fun j hj => by rw [mi_place (by omega)]; exact gs j hj⟩
      unfold LQ
      rw [mi_ui]
      by_cases e8 : c = k
      · rw [if_pos ⟨rfl, by omega⟩, e8]; exact hv
      · rw [if_neg (fun q => e8 (by omega))]; exact fs c (by omega)
    refine c17 _ _ (bq_f (nI_ge hk (by decide)) ?_)
    rw [e9, nI_clamp (by omega)]
    refine ⟨vp_in_nI (show 4096 * A + k < 126976 by omega) (by decide), ?_⟩
    have hk44 := kM s es A k hA hk
    by_cases hr : rc z (2 ^ n - 1) (c4 t0) A k
    · refine bq_nt (fun e8 => hk44.mp e8 hr) (join 0 (Or.inr ⟨0, rfl, ⟨hr, ?_⟩, fun j _ => Nat.zero_le j⟩))
      rw [Nat.sub_self, TL_0]
    · exact bq_nf (hk44.mpr hr) (join (-1) (Or.inl ⟨rfl, fun w hw => hr hw.1⟩))
