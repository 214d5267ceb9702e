/-! reference: span -/
theorem sp_span {Q : Int32 → mg_H → Prop} {h : mg_H} {k n T : Nat} {z t pr : Nat → Nat} (ok : mp_shs h) (hv : 0 ≤ nI k ∧ nI k ≤ mg_i h 5 0 - 1) (hk : k < 2) (S : SR (mg_i h) k n z t pr) (h1 : 1 ≤ T) (h30 : T ≤ 30) (q : ∀ v h', mp_same h h' → lst (fun w => w ≤ 30 ∧ SPN z (2 ^ n - 1) (c4 t) T w) v → Q v h') : wp_span Q (nI k) (nI T) h := by
  have SHh := S.sh
  have hz := SHh.zok
  have hc0 := SHh.ok
  have hm := SHh.m
  have hB : ∀ s, s ≤ 2 ^ n - 1 → on4 s ≤ 40 := fun s _ => Nat.le_trans (on4_le s) (by decide)
  unfold wp_span
  intro R36 R55 R97 c36 c55 c97
  rintro _ rfl
  refine sp_inT (lo := 1) (hi := 30) h1 h30 (by decide) (bq_f (by decide) (sp_hand0 ok hv hk S (fun h2 es2 H2 f23 f24 _ S2 => bq_nt (by decide) ?_)))
  refine sp_layOut (wt := on4) H2 hz hm hc0 (fun h' _ s hs _ Q q => sp_cost0 hs q) hB (fun h3 e3 C3 => sp_keepAll (fun h4 e4 k4 => ?_))
  have H4 : HS h4 z (2 ^ n - 1) (c4 t) := (H2.mv e3 (by decide) (by decide) (by decide)).mv e4 (by decide) (by decide) (by decide)
  have es4 : mp_same h h4 := (es2.tr (e3.same (by decide))).tr (e4.same (by decide))
  have kp : ∀ f c, f ≤ 30 → c < 4096 → (mg_i h4 44 (4096 * f + c) = nM ↔ ¬ rc z (2 ^ n - 1) (c4 t) f c) := fun f c hf hc => by
    rw [k4 _ (by omega)]
    exact CL_rc hB C3 hf hc
  refine lp (σ := mg_H) (R := fun f s => R36 (nI f) s) (fun f s => md [40] [39] h4 s ∧ ∀ f', f' < f → ¬ ∃ b b', rc z (2 ^ n - 1) (c4 t) f' b ∧ rc z (2 ^ n - 1) b T b') 0 (31 - T) (Nat.zero_le _) ?_ ?_ h4 ⟨md.rf, fun f' hf' => absurd hf' (Nat.not_lt_zero f')⟩
  · rintro s ⟨e, no⟩
    refine c36 _ _ (bq_t ?_ (q _ _ (es4.tr (e.same (by decide))) (Or.inl ⟨rfl, fun w ⟨hw, f, b, b', hf, ew, r1, r2⟩ => no f (by omega) ⟨b, b', r1, r2⟩⟩)))
    rw [nI_add]; exact nI_lt (a := 30) (by omega) (by omega)
  · rintro f s _ hf ⟨e, no⟩ ih
    have hfT : f + T ≤ 30 := by omega
    refine c36 _ _ (bq_f (by rw [nI_add]; exact nI_nlt (a := 30) hfT (by decide)) ?_)
    rw [nI_add]
    refine sp_clear (a := f) (b := f + T) (by omega) hfT (fun s1 e1 cl1 => ?_)
    have e1' : md [40] [39] h4 s1 := e.tr (e1.mono (fun c hc => hc) (fun c hc => absurd hc (by simp)))
    refine lp (σ := mg_H) (R := fun c s => R55 (nI f) (nI c) s) (fun c s => md [40] [39] h4 s ∧ (∀ c', c' < c → lst (fun w => rc z (2 ^ n - 1) (c4 t) f c' ∧ w = 0) (mg_i s 40 (4096 * f + c'))) ∧ ∀ j, 4096 * (f + 1) ≤ j → mg_i s 40 j = mg_i s1 40 j) 0 4096 (Nat.zero_le _) ?_ ?_ s1 ⟨e1', fun c' hc' => absurd hc' (Nat.not_lt_zero c'), fun _ _ => rfl⟩
    · rintro s2 ⟨e2, w2, r2⟩
      have H5 := H4.mv e2 (by decide) (by decide) (by decide)
      refine c55 _ _ _ (bq_t (by decide) ?_)
      rw [nI_add]
      refine sp_goOn (wt := on4) (fun c => rc z (2 ^ n - 1) (c4 t) f c) hz hm (by omega) hfT H5.1 H5.2.1 (fun a ⟨k, w, hp⟩ => pt_ok hz hp hc0) (fun h' _ s hs _ Q q => sp_cost0 hs q) hB w2 (fun t' c' ht1 ht2 hc' => ?_) (fun s3 e3' _ C5 => ?_)
      · rw [r2 _ (by omega), cl1, if_pos (by omega)]
      · have e5 : md [40] [39] h4 s3 := e2.tr e3'
        refine sp_leastAt hfT (P := fun c w => PF z (2 ^ n - 1) on4 (fun c => rc z (2 ^ n - 1) (c4 t) f c) f (f + T) c w) (fun c hc => C5 (f + T) c (by omega) (Nat.le_refl _) hc) (fun c m p => CL_b hB hfT p) (fun v hv => ⟨fun hno => ?_, fun hne => ?_⟩)
        · rintro _ rfl
          rw [nI_1]
          refine ih s3 ⟨e5, fun f' hf' => ?_⟩
          rcases Nat.lt_or_ge f' f with h9 | h9
          · exact no f' h9
          · have e9 : f' = f := by omega
            subst e9
            rintro ⟨b, b', r1, r2⟩
            have hb := (pt_ok hz r1.choose_spec.choose_spec hc0)
            obtain ⟨k', w', hp⟩ := rc_to (wt := on4) r2
            have hb' := (pt_ok hz hp hb).1
            rcases hv with ⟨_, hv⟩ | ⟨m, ev, ⟨c, hc, hp2⟩, _⟩
            · exact hv w' ⟨b', hb', b, k', r1, by rw [show f' + T - f' = T by omega]; exact hp⟩
            · have := CL_b hB hfT hp2
              rw [ev, nl_m1, nI_eqM (by omega)] at hno
              exact hno
        · refine q _ _ (es4.tr (e5.same (by decide))) (Or.inr ⟨f + T, rfl, ⟨hfT, ?_⟩, fun w ⟨hw, f', b, b', hf', ew, r1, r2⟩ => ?_⟩)
          · rcases hv with ⟨ev, _⟩ | ⟨m, ev, ⟨c, hc, a, k', ha, hp⟩, _⟩
            · exact absurd ev hne
            · rw [show f + T - f = T by omega] at hp
              exact ⟨f, a, c, by omega, rfl, ha, rc_of hp⟩
          · rcases Nat.lt_or_ge f' f with h9 | h9
            · exact absurd ⟨b, b', r1, r2⟩ (no f' h9)
            · omega
    · rintro c s2 _ hc ⟨e2, w2, r2⟩ ih2
      have go : ∀ v, lst (fun w => rc z (2 ^ n - 1) (c4 t) f c ∧ w = 0) v → R97 (nI f) (nI c) v (nI (4096 * f + c)) s2 := by
        intro v hv
        refine c97 _ _ _ _ _ ?_
        rw [nI_clamp (by omega)]
        refine ⟨vp_in_nI (show 4096 * f + c < 126976 by omega) (by decide), ?_⟩
        rintro _ rfl _ rfl
        rw [nI_1]
        refine ih2 _ ⟨e2.ui (by decide) (by decide), fun c' hc' => ?_, fun j hj => ?_⟩
        · rcases Nat.lt_or_ge c' c with h9 | h9
          · rw [mi_place (by omega)]; exact w2 c' h9
          · have e9 : c' = c := by omega
            subst e9
            rw [mi_same]; exact hv
        · rw [mi_place (by omega)]; exact r2 j hj
      refine c55 _ _ _ (bq_f (nI_ge hc (by decide)) ?_)
      rw [nl_4096, pk_mul, nI_add, nI_clamp (by omega), e2.1 44 (by decide) (by decide)]
      have hkp := kp f c (by omega) hc
      refine ⟨vp_in_nI (show 4096 * f + c < 126976 by omega) (by decide), fun e9 => go _ (Or.inr ⟨0, rfl, ⟨Classical.byContradiction (fun hno => e9 (hkp.mpr hno)), rfl⟩, fun j _ => Nat.zero_le j⟩), fun e9 => go _ (Or.inl ⟨rfl, fun m hm' => hkp.mp e9 hm'.1⟩)⟩
