/-! the class: Cloth: which rows fit -/
theorem isF_ex (P : Nat → Prop) (m : Nat) : ∃ v, isF P m v := by
  induction m with
  | zero => exact ⟨0, Nat.le_refl 0, fun i hi => absurd hi (Nat.not_lt_zero i), fun c => absurd c (Nat.lt_irrefl 0)⟩
  | succ m ih =>
    obtain ⟨v, h1, h2, h3⟩ := ih
    by_cases e : v < m
    · exact ⟨v, by omega, h2, fun _ => h3 e⟩
    · by_cases hp : P m
      · exact ⟨m, by omega, fun i hi => h2 i (by omega), fun _ => hp⟩
      · refine ⟨m + 1, Nat.le_refl _, fun i hi => ?_, fun c => absurd c (Nat.lt_irrefl _)⟩
        rcases Nat.lt_or_ge i m with h9 | h9
        · exact h2 i (by omega)
        · rw [show i = m by omega]; exact hp
/-- the facts are so by the tops T, v deeds being done -/
def FITv (n c : Nat) (z T kd yy mi gl : Nat → Nat) (v : Nat) : Prop := ∀ j, j < c → (gl j = 9 → ∀ g, g < n → RO g kd yy (z g) (T g) v (mi j) = false) ∧ (gl j ≠ 9 → gl j < n ∧ RO (gl j) kd yy (z (gl j)) (T (gl j)) v (mi j) = true)
def FIT (n m c : Nat) (z T kd yy mi gl : Nat → Nat) : Prop := ∃ v, isF (stP n kd yy z T) m v ∧ FITv n c z T kd yy mi gl v
/-- anything runs out at minute x -/
def ANY (n m : Nat) (z T kd yy : Nat → Nat) (x : Nat) : Prop := ∃ v, isF (stP n kd yy z T) m v ∧ ∃ g, g < n ∧ RO g kd yy (z g) (T g) v x = true
theorem mn_ok {n v : Nat} {kd yy : Nat → Nat} (h : ∀ i, i < v → ¬ shP n kd yy i) : mn kd yy v ≤ 99 := by
  have go : ∀ k, k ≤ v → mn kd yy k ≤ 99 := by
    intro k
    induction k with
    | zero => exact fun _ => Nat.zero_le _
    | succ k ih =>
      intro hk
      have h1 := ih (by omega)
      by_cases k0 : kd k = 0
      · exact Nat.le_of_not_lt (fun c => h k (by omega) (Or.inl ⟨k0, c⟩))
      · rw [mn, if_neg k0]; omega
  exact go v (Nat.le_refl v)
theorem l202124 : ∀ c : Nat, c ∈ [20, 21, 24] → c < 100 := fun c h => by simp at h <;> omega
/-- of the cloth itself only anyRan has changed -/
def cF (nm : Nat → Nat) (h h2 : xg_H) : Prop := xd nm [20, 21, 24] h h2 ∧ (∀ j, xg_i h2 (nm 20) j = xg_i h (nm 20) j) ∧ ∀ j, j ≠ 11 → xg_l h2 (nm 20) j = xg_l h (nm 20) j
theorem cF.tr {nm : Nat → Nat} {h h2 h3 : xg_H} (a : cF nm h h2) (b : cF nm h2 h3) : cF nm h h3 := ⟨a.1.tr b.1, fun j => (b.2.1 j).trans (a.2.1 j), fun j hj => (b.2.2 j hj).trans (a.2.2 j hj)⟩
set_option maxHeartbeats 1000000 in
theorem sp_X2_fitsNow {Y : xg_Y} {Q : Int32 → xg_H → Prop} {h : xg_H} {nm : Nat → Nat} {tx dx n m c : Nat} {z t pr kd yy mi gl T : Nat → Nat} (hn : inj nm) (X : XQ Y h nm tx dx n m z t pr kd yy) (A : RA h nm n z kd yy) (SP : ∀ g tp, g < n → tp ≤ z g → SPv h nm n m z kd yy g tp) (M : MF h nm n c mi gl) (hmi : ∀ j, j < c → mi j ≤ 40) (nev : ¬ ∃ j, j < c ∧ gl j ≠ 9 ∧ n ≤ gl j) (ht : ∀ g, g < n → xg_i h (nm 22) g = nI (T g) ∧ T g ≤ z g) (q1 : ∀ h', cF nm h h' → RA h' nm n z kd yy → FIT n m c z T kd yy mi gl → isL6 (xg_l h' (nm 20) 11) (fun i => i ≤ 40 ∧ ANY n m z T kd yy i) → Q 1 h') (q0 : ∀ h', cF nm h h' → RA h' nm n z kd yy → ¬ FIT n m c z T kd yy mi gl → Q 0 h') : wp_X2_fitsNow Y Q (nm 20) h := by
  have X0 := X
  have hm40 := X.2.2.2.2.1.2.2.2.2.1
  obtain ⟨C, o12, o13, S, D, H⟩ := X
  have hn4 := H.1
  obtain ⟨M1, M2, M3⟩ := M
  obtain ⟨v, Fv⟩ := isF_ex (stP n kd yy z T) m
  have hvm := Fv.1
  have okm : mn kd yy v ≤ 99 := mn_ok (fun i hi c => Fv.2.1 i hi (Or.inl c))
  have oks : ∀ g, g < n → ∀ k, k < v → kd k ≠ 0 → yy k = g → gM (kd k) (hT g kd yy (h0 (z g) (T g)) k).1 = true := by
    intro g hg k hk k0 ey
    cases e : gM (kd k) (hT g kd yy (h0 (z g) (T g)) k).1 with
    | true => rfl
    | false => exact absurd (Or.inr ⟨g, hg, k0, ey, e⟩) (Fv.2.1 k hk)
  -- the answer by v
  have fit_iff : FIT n m c z T kd yy mi gl ↔ FITv n c z T kd yy mi gl v := ⟨fun ⟨v', F', r⟩ => by rw [isF_one Fv F']; exact r, fun r => ⟨v, Fv, r⟩⟩
  have any_iff : ∀ i, ANY n m z T kd yy i ↔ ∃ g, g < n ∧ RO g kd yy (z g) (T g) v i = true := fun i => ⟨fun ⟨v', F', r⟩ => by rw [isF_one Fv F']; exact r, fun r => ⟨v, Fv, r⟩⟩
  unfold wp_X2_fitsNow
  refine ⟨C.1, fun R16 R19 R64 c16 c19 c64 => ?_⟩
  -- the second loop: what each glass does
  have sec : ∀ y1, (1 ≤ n → y1 = nI v) → R64 y1 0 (xg_ul h (nm 20) 11 0) := by
    intro y1 ey1
    have e0 : cF nm h (xg_ul h (nm 20) 11 0) := ⟨xd.ul hn xd.rf (by simp), fun j => xi_ul _ _ _ _ _ _, fun j hj => by rw [xv hn, if_neg (fun c => hj c.2)]⟩
    refine lp (σ := xg_H) (R := fun g s => R64 y1 (nI g) s) (fun g s => cF nm h s ∧ RA s nm n z kd yy ∧ isL6 (xg_l s (nm 20) 11) (fun i => i ≤ 40 ∧ ∃ g', g' < g ∧ RO g' kd yy (z g') (T g') v i = true) ∧ ∀ g', g' < g → ∀ j, j < c → gl j = g' → RO g' kd yy (z g') (T g') v (mi j) = true) 0 n (Nat.zero_le n) ?_ ?_ _ ⟨e0, A.mv (xd.ul hn xd.rf (List.mem_singleton_self 20)) (by decide), ?_, fun g' hg' => absurd hg' (Nat.not_lt_zero g')⟩
    · rintro s ⟨e, As, ba, hr⟩
      have Xs := X0.mv e.1 l202124
      refine c64 _ _ _ ⟨nm tx, Xs.2.1, Xs.2.2.2.1.1, ?_⟩
      rw [Xs.2.2.2.1.2.2.2.2.1]
      refine bq_t (nI_le (Nat.le_refl n) (by omega)) ?_
      have b9 : isL6 (xg_l s (nm 20) 9) (fun i => ∃ j, j < c ∧ gl j = 9 ∧ mi j = i) := by rw [e.2.2 9 (by decide)]; exact M2
      have key : (xg_l s (nm 20) 11 &&& xg_l s (nm 20) 9) = 0 ↔ FIT n m c z T kd yy mi gl := by
        rw [isL6_and0 ba b9, fit_iff]
        constructor
        · intro hno j hj
          refine ⟨fun g9 g hg => ?_, fun g9 => ?_⟩
          · cases e9 : RO g kd yy (z g) (T g) v (mi j) with
            | false => rfl
            | true => exact absurd ⟨⟨hmi j hj, g, hg, e9⟩, j, hj, g9, rfl⟩ (hno (mi j))
          · have gn : gl j < n := Nat.lt_of_not_le (fun c2 => nev ⟨j, hj, g9, c2⟩)
            exact ⟨gn, hr (gl j) gn j hj rfl⟩
        · rintro hf i ⟨⟨_, g, hg, e9⟩, j, hj, g9, ei⟩
          have := (hf j hj).1 g9 g hg
          rw [ei, e9] at this
          cases this
      by_cases hF : FIT n m c z T kd yy mi gl
      · refine bq_nf ((lg_cmp_eq _ _).mpr (key.mpr hF)) (q1 s e As hF (ba.congr (fun i => ?_)))
        rw [any_iff]
      · exact bq_nt (fun c2 => hF (key.mp ((lg_cmp_eq _ _).mp c2))) (q0 s e As hF)
    · rintro g s _ hg ⟨e, As, ba, hr⟩ ih
      have Xs := X0.mv e.1 l202124
      have hz := H.2.1 g hg
      have htg := ht g hg
      refine c64 _ _ _ ⟨nm tx, Xs.2.1, Xs.2.2.2.1.1, ?_⟩
      rw [Xs.2.2.2.1.2.2.2.2.1]
      refine bq_f (nI_ge hg (by omega)) ⟨nm 22, Xs.1.2.2.1.1, Xs.1.2.2.1.2.1, ?_⟩
      rw [Xs.1.2.2.1.2.2, nI_clamp (by omega), (e.1.i 22 (by decide) g).trans htg.1, ey1 (by omega)]
      refine ⟨vp_in_nI (by omega) (by decide), sp_X2_ranMinutes hn Xs As hg htg.2 hvm okm (oks g hg) (fun b s2 e2 A2 hb => ?_)⟩
      have X2 := Xs.mv e2 (fun c hc => by simp at hc <;> omega)
      have k27 := X2.1.2.2.2.2.2.2.2
      have ec : cF nm s s2 := ⟨e2.mono (by simp), fun j => e2.i 20 (by decide) j, fun j _ => (e2.1 20 (by decide) j).2⟩
      refine ⟨nm 27, k27.1, k27.2.1, ?_⟩
      have m27 : isL6 (xg_l s2 (nm 27) g) (fun i => g < n ∧ ∃ j, j < c ∧ gl j = g ∧ mi j = i) := by
        rw [(e2.1 27 (by decide) g).2, (e.1.1 27 (by decide) g).2]; exact M1 g (by omega)
      rw [k27.2.2]
      refine ⟨vp_in_nI (by omega) (by decide), vp_in_nI (by omega) (by decide), ?_⟩
      have sub := isL6_sub hb m27
      by_cases hs : ∀ j, j < c → gl j = g → RO g kd yy (z g) (T g) v (mi j) = true
      · refine bq_t ((lg_cmp_eq _ _).mpr (sub.mpr (fun i ⟨_, j, hj, e1, e2⟩ => ⟨by rw [← e2]; exact hmi j hj, by rw [← e2]; exact hs j hj e1⟩))) ?_
        rintro _ rfl _ rfl
        rw [nI_1, ← ey1 (by omega)]
        have e3 : cF nm s2 (xg_ul s2 (nm 20) 11 (xg_l s2 (nm 20) 11 ||| b)) := ⟨xd.ul hn xd.rf (by simp), fun j => xi_ul _ _ _ _ _ _, fun j hj => by rw [xv hn, if_neg (fun c => hj c.2)]⟩
        refine ih _ ⟨(e.tr ec).tr e3, A2.mv (xd.ul hn xd.rf (List.mem_singleton_self 20)) (by decide), ?_, fun g' hg' => ?_⟩
        · rw [xv hn, if_pos ⟨rfl, rfl⟩, (e2.1 20 (by decide) 11).2]
          refine (isL6_or ba hb).congr (fun i => ?_)
          constructor
          · rintro (⟨h1, g', h2, h3⟩ | ⟨h1, h2⟩)
            · exact ⟨h1, g', by omega, h3⟩
            · exact ⟨h1, g, by omega, h2⟩
          · rintro ⟨h1, g', h2, h3⟩
            rcases Nat.lt_or_ge g' g with h9 | h9
            · exact Or.inl ⟨h1, g', h9, h3⟩
            · rw [show g' = g by omega] at h3; exact Or.inr ⟨h1, h3⟩
        · rcases Nat.lt_or_ge g' g with h9 | h9
          · exact hr g' h9
          · rw [show g' = g by omega]; exact hs
      · refine bq_f (fun c2 => hs (fun j hj e1 => ?_)) (q0 s2 (e.tr ec) A2 (fun c2 => hs (fun j hj e1 => ?_)))
        · have := sub.mp ((lg_cmp_eq _ _).mp c2) (mi j) ⟨hg, j, hj, e1, rfl⟩
          exact this.2
        · have := ((fit_iff.mp c2) j hj).2 (by omega)
          rw [e1] at this
          exact this.2
    · rw [xv hn, if_pos ⟨rfl, rfl⟩]
      exact isL6_0 (fun i c => by obtain ⟨_, g', hg', _⟩ := c; exact absurd hg' (Nat.not_lt_zero g'))
  -- the first loop: where the day stops
  have fst : ∀ y0, (n = 0 ∨ y0 = nI 40) → R16 y0 h := by
    intro y0 hy0
    refine c16 _ _ ?_
    by_cases n0 : n = 0
    · refine c19 _ _ _ ⟨nm tx, o12, S.1, ?_⟩
      rw [S.2.2.2.2.1, n0]
      refine bq_t (by decide) ?_
      rintro _ rfl
      exact sec y0 (fun c => by omega)
    · have hy0 : y0 = nI 40 := hy0.elim (fun c => absurd c n0) id
      rw [hy0]
      have z := lp (σ := Nat) (R := fun g a => R19 (nI a) (nI g) h) (fun g a => a ≤ 40 ∧ ((g = 0 ∧ a = 40) ∨ (1 ≤ g ∧ isF (fun k => ∃ g', g' < g ∧ (shP n kd yy k ∨ owP g' kd yy (h0 (z g') (T g')) k)) m a))) 0 n (Nat.zero_le n) ?_ ?_ 40 ⟨Nat.le_refl 40, Or.inl ⟨rfl, rfl⟩⟩
      · exact z
      · rintro a ⟨ha, hc⟩
        have Fa : isF (stP n kd yy z T) m a := by
          rcases hc with hc | hc
          · omega
          · refine isF_congr hc.2 (fun k => ?_)
            constructor
            · rintro ⟨g', hg', c2 | c2⟩
              · exact Or.inl c2
              · exact Or.inr ⟨g', hg', c2⟩
            · rintro (c2 | ⟨g', hg', c2⟩)
              · exact ⟨0, by omega, Or.inl c2⟩
              · exact ⟨g', hg', Or.inr c2⟩
        have ev : a = v := isF_one Fa Fv
        refine c19 _ _ _ ⟨nm tx, o12, S.1, ?_⟩
        rw [S.2.2.2.2.1]
        refine bq_t (nI_le (Nat.le_refl n) (by omega)) ?_
        rintro _ rfl
        exact sec _ (fun _ => by rw [ev])
      · rintro g a _ hg ⟨ha, hc⟩ ih
        have hz := H.2.1 g hg
        have htg := ht g hg
        obtain ⟨v1, s1, F1⟩ := SP g (T g) hg htg.2
        have hv1 := F1.1
        refine c19 _ _ _ ⟨nm tx, o12, S.1, ?_⟩
        rw [S.2.2.2.2.1]
        refine bq_f (nI_ge hg (by omega)) ⟨nm 22, C.2.2.1.1, C.2.2.1.2.1, ?_⟩
        rw [C.2.2.1.2.2, nI_clamp (by omega), htg.1, nl_8, pk_mul, nI_add]
        refine ⟨vp_in_nI (by omega) (by decide), nm 23, C.2.2.2.1.1, C.2.2.2.1.2.1, ?_⟩
        rw [C.2.2.2.1.2.2, nI_clamp (by omega), s1, mnr_I (by omega) (by omega)]
        refine ⟨vp_in_nI (by omega) (by decide), ?_⟩
        rintro _ rfl _ rfl
        rw [nI_1]
        refine ih (min a v1) ⟨by omega, Or.inr ⟨by omega, ?_⟩⟩
        rcases hc with ⟨e1, e2⟩ | ⟨h1, Fa⟩
        · rw [e2, Nat.min_eq_right (by omega)]
          refine isF_congr F1 (fun k => ?_)
          constructor
          · intro c2; exact ⟨g, by omega, c2⟩
          · rintro ⟨g', hg', c2⟩
            have : g' = g := by omega
            rw [this] at c2; exact c2
        · refine isF_congr (isF_min Fa F1) (fun k => ?_)
          constructor
          · rintro (⟨g', hg', c2⟩ | c2)
            · exact ⟨g', by omega, c2⟩
            · exact ⟨g, by omega, c2⟩
          · rintro ⟨g', hg', c2⟩
            rcases Nat.lt_or_ge g' g with h9 | h9
            · exact Or.inl ⟨g', h9, c2⟩
            · rw [show g' = g by omega] at c2; exact Or.inr c2
  refine ⟨nm tx, o12, S.1, ?_⟩
  rw [S.2.2.2.2.1]
  by_cases n0 : n = 0
  · exact bq_nf (by rw [n0]; rfl) (fst 0 (Or.inl n0))
  · exact bq_nt (fun c2 => n0 ((nI_eq (b := 0) (by omega) (by decide)).mp c2)) (fst 40 (Or.inr rfl))
