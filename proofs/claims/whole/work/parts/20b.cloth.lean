/-! the class: Cloth: one glass -/
def XC (Y : xg_Y) (h : xg_H) (nm : Nat → Nat) : Prop := xg_is Y (nm 20) 2 ∧ (xg_o h (nm 20) 2 = some (nm 21) ∧ xg_is Y (nm 21) 5) ∧ (xg_o h (nm 20) 3 = some (nm 22) ∧ xk Y nm 22 22 4) ∧ (xg_o h (nm 20) 4 = some (nm 23) ∧ xk Y nm 23 22 32) ∧ (xg_o h (nm 20) 5 = some (nm 24) ∧ xk Y nm 24 23 1312) ∧ (xg_o h (nm 20) 6 = some (nm 25) ∧ xk Y nm 25 22 4) ∧ (xg_o h (nm 20) 7 = some (nm 26) ∧ xk Y nm 26 22 41) ∧ (xg_o h (nm 20) 8 = some (nm 27) ∧ xk Y nm 27 23 4)
theorem XC.mv {Y : xg_Y} {h h2 : xg_H} {nm : Nat → Nat} {L : List Nat} (a : XC Y h nm) (e : xd nm L h h2) : XC Y h2 nm := by
  obtain ⟨a1, a2, a3, a4, a5, a6, a7, a8⟩ := a
  exact ⟨a1, ⟨(e.2 _ _).trans a2.1, a2.2⟩, ⟨(e.2 _ _).trans a3.1, a3.2⟩, ⟨(e.2 _ _).trans a4.1, a4.2⟩, ⟨(e.2 _ _).trans a5.1, a5.2⟩, ⟨(e.2 _ _).trans a6.1, a6.2⟩, ⟨(e.2 _ _).trans a7.1, a7.2⟩, ⟨(e.2 _ _).trans a8.1, a8.2⟩⟩
theorem XS.mx {Y : xg_Y} {h h2 : xg_H} {nm : Nat → Nat} {tx n : Nat} {z t pr : Nat → Nat} {L : List Nat} (a : XS Y h nm tx n z t pr) (e : xd nm L h h2) (hL : ∀ c, c ∈ L → c < 100) : XS Y h2 nm tx n z t pr := by
  obtain ⟨a1, a2, a3, a4, a5, a6, a7, a8, a9⟩ := a
  have E : ∀ c, 100 ≤ c → ∀ j, xg_i h2 (nm c) j = xg_i h (nm c) j := fun c h1 j => e.i c (fun hc => by have := hL c hc; omega) j
  refine ⟨a1, ⟨(e.2 _ _).trans a2.1, a2.2⟩, ⟨(e.2 _ _).trans a3.1, a3.2⟩, ⟨(e.2 _ _).trans a4.1, a4.2⟩, (E tx (by omega) 0).trans a5, fun j hj => ?_, a7, a8, a9⟩
  rw [E _ (by omega), E _ (by omega), E _ (by omega)]
  exact a6 j hj
/-- the shelf and the day at hand -/
def XQ (Y : xg_Y) (h : xg_H) (nm : Nat → Nat) (tx dx n m : Nat) (z t pr kd yy : Nat → Nat) : Prop := XC Y h nm ∧ xg_o h (nm 20) 12 = some (nm tx) ∧ xg_o h (nm 20) 13 = some (nm dx) ∧ XS Y h nm tx n z t pr ∧ XD Y h nm dx m kd yy ∧ SH n z t
theorem XQ.mv {Y : xg_Y} {h h2 : xg_H} {nm : Nat → Nat} {tx dx n m : Nat} {z t pr kd yy : Nat → Nat} {L : List Nat} (a : XQ Y h nm tx dx n m z t pr kd yy) (e : xd nm L h h2) (hL : ∀ c, c ∈ L → c < 100) : XQ Y h2 nm tx dx n m z t pr kd yy := ⟨a.1.mv e, (e.2 _ _).trans a.2.1, (e.2 _ _).trans a.2.2.1, a.2.2.2.1.mx e hL, a.2.2.2.2.1.mv e hL, a.2.2.2.2.2⟩
theorem l21 : ∀ c : Nat, c ∈ [21] → c < 100 := fun c h => by rw [List.mem_singleton.mp h]; decide
theorem sp_X2_sharedStop {Y : xg_Y} {Q : Int32 → xg_H → Prop} {h : xg_H} {nm : Nat → Nat} {tx dx n m : Nat} {z t pr kd yy : Nat → Nat} (X : XQ Y h nm tx dx n m z t pr kd yy) (q : ∀ v, isF (shP n kd yy) m v → Q (nI v) h) : wp_X2_sharedStop Y Q (nm 20) h := by
  obtain ⟨C, o12, o13, S, D, H⟩ := X
  obtain ⟨d1, ⟨d2, dk2⟩, ⟨d3, dk3⟩, d4, d5, d6, d7, d8⟩ := D
  have hn4 := H.1
  unfold wp_X2_sharedStop
  refine ⟨C.1, fun R4 R68 c4 c68 => ?_⟩
  refine lp (σ := Unit) (R := fun k _ => R4 (nI (mn kd yy k)) (nI k) h) (fun k _ => (∀ i, i < k → ¬ shP n kd yy i) ∧ mn kd yy k ≤ 99) 0 m (Nat.zero_le m) ?_ ?_ () ⟨fun i hi => absurd hi (Nat.not_lt_zero i), Nat.zero_le _⟩
  · intro _ ⟨hno, _⟩
    refine c4 _ _ _ ⟨nm dx, o13, d1, ?_⟩
    rw [d4]
    exact bq_t (nI_le (Nat.le_refl m) (by omega)) (q m ⟨Nat.le_refl m, hno, fun c => absurd c (Nat.lt_irrefl m)⟩)
  · intro k _ _ hk ⟨hno, hm⟩ ih
    obtain ⟨f1, f2, f3, f4⟩ := d6 k hk
    refine c4 _ _ _ ⟨nm dx, o13, d1, ?_⟩
    rw [d4]
    refine bq_f (nI_ge hk (by omega)) ⟨nm (dx + 10), d2, dk2.1, ?_⟩
    rw [dk2.2, nI_clamp (by omega), f1]
    refine ⟨vp_in_nI (by omega) (by decide), ?_⟩
    have next : ¬ shP n kd yy k → mn kd yy (k + 1) ≤ 99 → R68 (nI (mn kd yy (k + 1))) (nI k) h := fun h1 h2 => by
      refine c68 _ _ _ ?_
      rintro _ rfl
      rw [nI_1]
      refine ih () ⟨fun i hi => ?_, h2⟩
      rcases Nat.lt_or_ge i k with h9 | h9
      · exact hno i h9
      · rw [show i = k by omega]; exact h1
    have stop : shP n kd yy k → Q (nI k) h := fun h1 => q k ⟨by omega, hno, fun _ => h1⟩
    by_cases k0 : kd k = 0
    · have em : mn kd yy (k + 1) = mn kd yy k + yy k := by rw [mn, if_pos k0]
      refine bq_nf (by rw [k0]; rfl) ⟨nm (dx + 20), d3, dk3.1, ?_⟩
      rw [dk3.2, f2]
      refine ⟨vp_in_nI (by omega) (by decide), ?_⟩
      rintro _ rfl
      rw [nI_add]
      by_cases g : mn kd yy k + yy k ≤ 99
      · refine bq_t (nI_le (b := 99) g (by decide)) ?_
        rw [← em]
        exact next (fun c => c.elim (fun c => by omega) (fun c => c.1 k0)) (by omega)
      · exact bq_f (nI_ge (a := 99) (by omega) (by omega)) (stop (Or.inl ⟨k0, by omega⟩))
    · have em : mn kd yy (k + 1) = mn kd yy k := by rw [mn, if_neg k0, Nat.add_zero]
      refine bq_nt (fun c => k0 ((nI_eq (b := 0) (by omega) (by decide)).mp c)) ⟨nm (dx + 20), d3, dk3.1, ?_⟩
      rw [dk3.2, f2]
      refine ⟨vp_in_nI (by omega) (by decide), nm tx, o12, S.1, ?_⟩
      rw [S.2.2.2.2.1]
      by_cases g : yy k < n
      · refine bq_t (nI_lt g (by omega)) ?_
        rw [← em]
        exact next (fun c => c.elim (fun c => k0 c.1) (fun c => by omega)) (by omega)
      · exact bq_f (nI_nlt (by omega) (by omega)) (stop (Or.inr ⟨k0, by omega⟩))
theorem gK_mono {r r' : Nat} {G : gS} (h : gK r G) (hr : r ≤ r') : gK r' G := ⟨h.1, h.2.1, h.2.2.1, Nat.le_trans h.2.2.2 hr⟩
/-- j minutes go by for the glass of the cloth -/
theorem hI_K {r : Nat} {S : hS} (h : gK r S.1) : ∀ j, gK (r + j) (hI S j).1
  | 0 => h
  | j + 1 => gP_K (hI_K h j)
set_option maxHeartbeats 1000000 in
theorem sp_X2_ownStop {Y : xg_Y} {Q : Int32 → xg_H → Prop} {h : xg_H} {nm : Nat → Nat} {tx dx n m g tp : Nat} {z t pr kd yy : Nat → Nat} (hn : inj nm) (X : XQ Y h nm tx dx n m z t pr kd yy) (hg : g < n) (htp : tp ≤ z g) (q : ∀ v h', xd nm [21] h h' → isF (owP g kd yy (h0 (z g) tp)) m v → Q (nI v) h') : wp_X2_ownStop Y Q (nm 20) (nI g) (nI tp) h := by
  have X0 := X
  obtain ⟨C, o12, o13, S, D, H⟩ := X
  have hn4 := H.1
  have hz := H.2.1 g hg
  have hm40 := D.2.2.2.2.1
  unfold wp_X2_ownStop
  refine ⟨C.1, fun R19 R126 R45 c19 c126 c45 => ⟨nm tx, o12, S.1, nm (tx + 10), S.2.1.1, S.2.1.2.1, ?_⟩⟩
  rw [S.2.1.2.2, nI_clamp (by omega), (S.2.2.2.2.2.1 g hg).1]
  refine ⟨vp_in_nI (by omega) (by decide), nm 21, C.2.1.1, C.2.1.2, sp_X5_put hn C.2.1.2 (fun h1 e1 g1 => ?_)⟩
  refine lp (σ := xg_H) (R := fun k s => R19 (nI k) s) (fun k s => xd nm [21] h s ∧ (∀ i, i < k → ¬ owP g kd yy (h0 (z g) tp) i) ∧ GL s nm 21 (hT g kd yy (h0 (z g) tp) k).1 ∧ gK (9 * k) (hT g kd yy (h0 (z g) tp) k).1) 0 m (Nat.zero_le m) ?_ ?_ h1 ⟨e1, fun i hi => absurd hi (Nat.not_lt_zero i), g1, ⟨hz.1, hz.2.1, htp, Nat.le_refl 0⟩⟩
  · rintro s ⟨e, hno, _, _⟩
    have Xs := X0.mv e l21
    refine c19 _ _ ⟨nm dx, Xs.2.2.1, Xs.2.2.2.2.1.1, ?_⟩
    rw [Xs.2.2.2.2.1.2.2.2.1]
    exact bq_t (nI_le (Nat.le_refl m) (by omega)) (q m s e ⟨Nat.le_refl m, hno, fun c => absurd c (Nat.lt_irrefl m)⟩)
  · rintro k s _ hk ⟨e, hno, G, K⟩ ih
    have Xs := X0.mv e l21
    obtain ⟨Cs, os12, os13, Ss, ⟨d1, ⟨d2, dk2⟩, ⟨d3, dk3⟩, d4, d5, d6, d7, d8⟩, _⟩ := Xs
    obtain ⟨f1, f2, f3, f4⟩ := d6 k hk
    have next : ∀ s2, xd nm [21] h s2 → ¬ owP g kd yy (h0 (z g) tp) k → GL s2 nm 21 (hT g kd yy (h0 (z g) tp) (k + 1)).1 → gK (9 * (k + 1)) (hT g kd yy (h0 (z g) tp) (k + 1)).1 → R126 (nI k) s2 := fun s2 e2 h1 h2 h3 => by
      refine c126 _ _ ?_
      rintro _ rfl
      rw [nI_1]
      refine ih s2 ⟨e2, fun i hi => ?_, h2, h3⟩
      rcases Nat.lt_or_ge i k with h9 | h9
      · exact hno i h9
      · rw [show i = k by omega]; exact h1
    refine c19 _ _ ⟨nm dx, os13, d1, ?_⟩
    rw [d4]
    refine bq_f (nI_ge hk (by omega)) ⟨nm (dx + 10), d2, dk2.1, ?_⟩
    rw [dk2.2, nI_clamp (by omega), f1]
    refine ⟨vp_in_nI (by omega) (by decide), ?_⟩
    by_cases k0 : kd k = 0
    · have eT : hT g kd yy (h0 (z g) tp) (k + 1) = hI (hT g kd yy (h0 (z g) tp) k) (yy k) := by rw [hT]; exact if_pos k0
      refine bq_nf (by rw [k0]; rfl) ?_
      refine lp (σ := xg_H) (R := fun j s2 => R45 (nI k) (nI j) s2) (fun j s2 => xd nm [21] h s2 ∧ GL s2 nm 21 (hI (hT g kd yy (h0 (z g) tp) k) j).1) 0 (yy k) (Nat.zero_le _) ?_ ?_ s ⟨e, G⟩
      · rintro s2 ⟨e2, G2⟩
        have X2 := (X0.mv e2 l21).2.2.2.2.1
        refine c45 _ _ _ ⟨nm dx, (X0.mv e2 l21).2.2.1, X2.1, nm (dx + 20), X2.2.2.1.1, X2.2.2.1.2.1, ?_⟩
        rw [X2.2.2.1.2.2, nI_clamp (by omega), (X2.2.2.2.2.2.1 k hk).2.1]
        refine ⟨vp_in_nI (by omega) (by decide), bq_t (nI_le (Nat.le_refl _) (by omega)) (next s2 e2 (fun c => c.1 k0) (by rw [eT]; exact G2) (by rw [eT]; exact gK_mono (hI_K K (yy k)) (by omega)))⟩
      · rintro j s2 _ hj ⟨e2, G2⟩ ih2
        have X2 := (X0.mv e2 l21).2.2.2.2.1
        have C2 := (X0.mv e2 l21).1
        refine c45 _ _ _ ⟨nm dx, (X0.mv e2 l21).2.2.1, X2.1, nm (dx + 20), X2.2.2.1.1, X2.2.2.1.2.1, ?_⟩
        rw [X2.2.2.1.2.2, nI_clamp (by omega), (X2.2.2.2.2.2.1 k hk).2.1]
        refine ⟨vp_in_nI (by omega) (by decide), bq_f (nI_ge hj (by omega)) ⟨nm 21, C2.2.1.1, C2.2.1.2, sp_X5_passMinute hn C2.2.1.2 G2 (hI_K K j) (fun s3 e3 G3 => ?_)⟩⟩
        rintro _ rfl
        rw [nI_1]
        exact ih2 s3 ⟨e2.tr e3, G3⟩
    · refine bq_nt (fun c => k0 ((nI_eq (b := 0) (by omega) (by decide)).mp c)) ⟨nm (dx + 20), d3, dk3.1, ?_⟩
      rw [dk3.2, f2]
      refine ⟨vp_in_nI (by omega) (by decide), ?_⟩
      by_cases ey : yy k = g
      · have eT : hT g kd yy (h0 (z g) tp) (k + 1) = (gA (kd k) (hT g kd yy (h0 (z g) tp) k).1, (hT g kd yy (h0 (z g) tp) k).2) := by rw [hT]; unfold hD; rw [if_neg k0, if_pos ey]
        refine bq_nf (by rw [ey]) ⟨vp_in_nI (by omega) (by decide), nm 21, Cs.2.1.1, Cs.2.1.2, sp_X5_may Cs.2.1.2 G K f3 ?_⟩
        cases hgm : gM (kd k) (hT g kd yy (h0 (z g) tp) k).1 with
        | false => exact bq_nf rfl (q k s e ⟨by omega, hno, fun _ => ⟨k0, ey, hgm⟩⟩)
        | true =>
          refine bq_nt (by decide) ⟨nm dx, os13, d1, nm (dx + 10), d2, dk2.1, ?_⟩
          rw [dk2.2, f1]
          refine ⟨vp_in_nI (by omega) (by decide), nm 21, Cs.2.1.1, Cs.2.1.2, sp_X5_act hn Cs.2.1.2 G K f3 (fun s2 e2 G2 => next s2 (e.tr e2) (fun c => Bool.noConfusion (hgm.symm.trans c.2.2)) ?_ ?_)⟩
          · rw [eT]; exact G2
          · rw [eT]; exact gK_mono (gA_K K hgm) (by omega)
      · have eT : hT g kd yy (h0 (z g) tp) (k + 1) = hT g kd yy (h0 (z g) tp) k := by rw [hT]; unfold hD; rw [if_neg k0, if_neg ey]
        exact bq_nt (fun c => ey ((nI_eq (by omega) (by omega)).mp c)) (next s e (fun c => ey c.2.1) (by rw [eT]; exact G) (by rw [eT]; exact gK_mono K (by omega)))
