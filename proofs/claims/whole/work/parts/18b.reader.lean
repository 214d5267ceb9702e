/-! the class: Reader: blanks, rows, words, numbers -/
/-- the tape at hand: bytes f, L of them -/
def XT (Y : xg_Y) (h : xg_H) (nm : Nat → Nat) (L : Nat) (f : Nat → Nat) : Prop := xg_o h (nm 50) 5 = some (nm 101) ∧ xk Y nm 101 22 600 ∧ xg_i h (nm 50) 6 = nI L ∧ L ≤ 600 ∧ ∀ i, i < 600 → xg_i h (nm 101) i = nI (f i) ∧ f i < 256
theorem XT.mv {Y : xg_Y} {h h2 : xg_H} {nm : Nat → Nat} {L : Nat} {f : Nat → Nat} {M : List Nat} (a : XT Y h nm L f) (e : xd nm M h h2) (hM : 101 ∉ M) (h6 : xg_i h2 (nm 50) 6 = xg_i h (nm 50) 6) : XT Y h2 nm L f := ⟨(e.2 _ _).trans a.1, a.2.1, h6.trans a.2.2.1, a.2.2.2.1, fun i hi => ⟨(e.i 101 hM i).trans (a.2.2.2.2 i hi).1, (a.2.2.2.2 i hi).2⟩⟩
theorem sp_X6_rowEnd {Y : xg_Y} {Q : Int32 → xg_H → Prop} {h : xg_H} {nm : Nat → Nat} {L p a b : Nat} {f : Nat → Nat} (k6 : xg_is Y (nm 50) 6) (T : XT Y h nm L f) (hp : xg_i h (nm 50) 7 = nI p) (hpL : p ≤ L) (ha : a < 256) (hb : b < 256) (q : Q (nI (sce (rg2 a b) f L p)) h) : wp_X6_rowEnd Y Q (nm 50) (nI a) (nI b) h := by
  obtain ⟨t5, t1, t6, tL, tf⟩ := T
  unfold wp_X6_rowEnd
  refine ⟨k6, fun R5 c5 => ?_⟩
  rintro _ rfl
  rw [hp]
  refine lp (σ := Unit) (R := fun k _ => R5 (nI k) h) (fun k _ => sce (rg2 a b) f L k = sce (rg2 a b) f L p) p L hpL ?_ ?_ () rfl
  · intro _ e
    refine c5 _ _ (bq_t (by rw [t6]; exact nI_le (Nat.le_refl L) (by omega)) ?_)
    rw [← e, sce_no (fun c => absurd c.1 (Nat.lt_irrefl L))] at q
    exact q
  · intro k _ _ hk e ih
    refine c5 _ _ (bq_f (by rw [t6]; exact nI_ge hk (by omega)) ⟨nm 101, t5, t1.1, ?_⟩)
    have hf := (tf k (by omega)).2
    rw [t1.2, nI_clamp (by omega), (tf k (by omega)).1]
    refine ⟨vp_in_nI (by omega) (by decide), ?_⟩
    by_cases h1 : a ≤ f k
    · refine bq_f (nI_nlt h1 (by omega)) ⟨vp_in_nI (by omega) (by decide), ?_⟩
      by_cases h2 : f k ≤ b
      · refine bq_f (nI_nlt h2 (by omega)) ?_
        rintro _ rfl
        rw [nI_1]
        exact ih () (by rw [← e, sce_go hk (decide_eq_true ⟨h1, h2⟩)])
      · refine bq_t (nI_lt (by omega) (by omega)) ?_
        rw [← e, sce_no (fun c => h2 (of_decide_eq_true c.2).2)] at q
        exact q
    · refine bq_t (nI_lt (by omega) (by omega)) ?_
      rw [← e, sce_no (fun c => h1 (of_decide_eq_true c.2).1)] at q
      exact q
theorem sp_X6_skip {Y : xg_Y} {Q : xg_H → Prop} {h : xg_H} {nm : Nat → Nat} {L p : Nat} {f : Nat → Nat} (hn : inj nm) (k6 : xg_is Y (nm 50) 6) (T : XT Y h nm L f) (hp : xg_i h (nm 50) 7 = nI p) (hpL : p ≤ L) (q : ∀ h', xd nm [50] h h' → (∀ j, j ≠ 7 → xg_i h' (nm 50) j = xg_i h (nm 50) j) → xg_i h' (nm 50) 7 = nI (sce bl f L p) → Q h') : wp_X6_skipBlanks Y Q (nm 50) h := by
  obtain ⟨t5, t1, t6, tL, tf⟩ := T
  unfold wp_X6_skipBlanks
  refine ⟨k6, fun R0 R39 c0 c39 => ?_⟩
  refine lp (σ := xg_H) (R := fun _ s => R0 s) (fun k s => (xd nm [50] h s ∧ (∀ j, j ≠ 7 → xg_i s (nm 50) j = xg_i h (nm 50) j) ∧ xg_i s (nm 50) 7 = nI k) ∧ sce bl f L k = sce bl f L p) p L hpL ?_ ?_ h ⟨⟨xd.rf, fun _ _ => rfl, hp⟩, rfl⟩
  · rintro s ⟨⟨e, e0, e7⟩, es⟩
    refine c0 _ (bq_t (by rw [e0 6 (by decide), t6, e7]; exact nI_le (Nat.le_refl L) (by omega)) (q s e e0 ?_))
    rw [e7, ← es, sce_no (fun c => absurd c.1 (Nat.lt_irrefl L))]
  · rintro k s _ hk ⟨⟨e, e0, e7⟩, es⟩ ih
    have hf := (tf k (by omega)).2
    have go : bl (f k) = true → R39 s := fun hb => by
      refine c39 _ ?_
      rintro _ rfl
      rw [e7, nI_1]
      exact ih _ ⟨⟨xd.ui hn e (List.mem_singleton_self 50), fun j hj => (xu_p hn hj).trans (e0 j hj), xi_same⟩, by rw [← es, sce_go hk hb]⟩
    have no : bl (f k) = false → Q s := fun hb => q s e e0 (by rw [e7, ← es, sce_no (fun c => by rw [hb] at c; cases c.2)])
    refine c0 _ (bq_f (by rw [e0 6 (by decide), t6, e7]; exact nI_ge hk (by omega)) ⟨nm 101, (e.2 _ _).trans t5, t1.1, ?_⟩)
    rw [t1.2, e7, nI_clamp (by omega), (e.i 101 (by decide) k).trans (tf k (by omega)).1]
    refine ⟨vp_in_nI (by omega) (by decide), ?_⟩
    by_cases h1 : f k = 10
    · exact bq_t (by rw [h1]; rfl) (go (bl_iff.mpr (Or.inl h1)))
    · refine bq_f (fun c => h1 ((nI_eq (b := 10) (by omega) (by decide)).mp c)) ⟨vp_in_nI (by omega) (by decide), ?_⟩
      by_cases h2 : f k = 32
      · exact bq_nf (by rw [h2]; rfl) (go (bl_iff.mpr (Or.inr h2)))
      · exact bq_nt (fun c => h2 ((nI_eq (b := 32) (by omega) (by decide)).mp c)) (no (Bool.eq_false_iff.mpr (fun c => (bl_iff.mp c).elim h1 h2)))
theorem len_I : ∀ w, w < 10 → Int32.ofNat (xg_tl.getD w 0) >>> ((0 : Int32) &&& 31) = nI (kwL w) := by decide +kernel
theorem len_J : ∀ w, w < 10 → Int32.ofNat (xg_tl.getD w 0) = nI (kwL w) := by decide +kernel
theorem sp_len {Y : xg_Y} {Q : Int32 → xg_H → Prop} {h : xg_H} {w : Nat} (hw : w < 10) (q : Q (nI (kwL w)) h) : wp_J0_length_8abf5 Y Q w h := by
  unfold wp_J0_length_8abf5 wp_J0_coder_7d493
  refine ⟨hw, hw, fun c => absurd c (by decide), fun _ => ⟨pk_nb 0, ?_⟩⟩
  show Q (Int32.ofNat (xg_tl.getD w 0) >>> ((0 : Int32) &&& 31)) h
  rw [len_I w hw]
  exact q
theorem sp_charAt {Y : xg_Y} {Q : Int32 → xg_H → Prop} {h : xg_H} {w i : Nat} (hw : w < 10) (hi : i < kwL w) (q : Q (nI (kwB w i)) h) : wp_J0_charAt_5068e Y Q w (nI i) h := by
  have hl := kwL_b w hw
  have hb := kwB_b w hw i (by omega)
  unfold wp_J0_charAt_5068e wp_J0_isLatin1_aae02
  refine ⟨hw, hw, fun c => absurd c (by decide), fun _ => ⟨fun c => absurd rfl c, fun _ => ⟨fun c => absurd c (by decide), fun _ => ?_⟩⟩⟩
  unfold wp_J1_charAt_3b067 wp_J0_checkIndex_df160 wp_J3_checkIndex_8e157
  refine ⟨hw, fun _ R9 _ => bq_f (nI_pos (by omega)) (bq_t (by rw [len_J w hw]; exact nI_lt hi (by omega)) ?_)⟩
  rw [nI_clamp (by omega), kwB_I w hw i (by omega)]
  exact ⟨vp_in_nI (show i < xg_tl.getD w 0 from hi) (show kwL w < 2 ^ 31 by omega), (pk_charN (by omega)).1, (pk_charN (by omega)).1, q⟩
theorem sp_X6_isHere {Y : xg_Y} {Q : Int32 → xg_H → Prop} {h : xg_H} {nm : Nat → Nat} {L p e w : Nat} {f : Nat → Nat} (k6 : xg_is Y (nm 50) 6) (T : XT Y h nm L f) (hp : xg_i h (nm 50) 7 = nI p) (hpe : p ≤ e) (he : e ≤ L) (hw : w < 10) (q1 : isW f p e w → Q 1 h) (q0 : ¬ isW f p e w → Q 0 h) : wp_X6_isHere Y Q (nm 50) w (nI e) h := by
  obtain ⟨t5, t1, t6, tL, tf⟩ := T
  have hl := kwL_b w hw
  unfold wp_X6_isHere
  refine ⟨hw, k6, fun R17 c17 => sp_len hw ?_⟩
  rw [hp, pk_sub hpe]
  by_cases hlen : e - p = kwL w
  · refine bq_t (by rw [hlen]) ?_
    refine lp (σ := Unit) (R := fun k _ => R17 (nI k) h) (fun k _ => ∀ i, i < k → f (p + i) = kwB w i) 0 (kwL w) (Nat.zero_le _) ?_ ?_ () (fun i hi => absurd hi (Nat.not_lt_zero i))
    · intro _ ha
      exact c17 _ _ (sp_len hw (bq_t (nI_le (Nat.le_refl _) (by omega)) (q1 ⟨hlen, ha⟩)))
    · intro k _ _ hk ha ih
      have hf := (tf (p + k) (by omega)).2
      have hb := kwB_b w hw k (by omega)
      refine c17 _ _ (sp_len hw (bq_f (nI_ge hk (by omega)) ⟨nm 101, t5, t1.1, ?_⟩))
      rw [t1.2, hp, nI_add, nI_clamp (by omega), (tf (p + k) (by omega)).1]
      refine ⟨vp_in_nI (by omega) (by decide), sp_charAt hw hk ?_⟩
      by_cases h1 : f (p + k) = kwB w k
      · refine bq_t (by rw [h1]) ?_
        rintro _ rfl
        rw [nI_1]
        refine ih () (fun i hi => ?_)
        rcases Nat.lt_or_ge i k with h9 | h9
        · exact ha i h9
        · rw [show i = k by omega]; exact h1
      · exact bq_f (fun c => h1 ((nI_eq (by omega) (by omega)).mp c)) (q0 (fun c => h1 (c.2 k hk)))
  · exact bq_f (fun c => hlen ((nI_eq (by omega) (by omega)).mp c)) (q0 (fun c => hlen c.1))
theorem sp_X6_spelling {Y : xg_Y} {Q : Nat → xg_H → Prop} {h : xg_H} {w : Nat} (hw : w < 10) (q : Q w h) : wp_X6_spelling Y Q (nI w) h := by
  have e : ∀ k, k < 10 → nI w = nI k → w = k := fun k hk c => (nI_eq (by omega) (by omega)).mp c
  have t : ∀ k, k < 10 → nI w = nI k → Q k h := fun k hk c => e k hk c ▸ q
  unfold wp_X6_spelling
  refine ⟨t 0 (by omega), t 1 (by omega), t 2 (by omega), t 3 (by omega), t 4 (by omega), t 5 (by omega), t 6 (by omega), t 7 (by omega), t 8 (by omega), fun n0 n1 n2 n3 n4 n5 n6 n7 n8 => ?_⟩
  have h9 : w = 9 := by
    rcases (show w = 0 ∨ w = 1 ∨ w = 2 ∨ w = 3 ∨ w = 4 ∨ w = 5 ∨ w = 6 ∨ w = 7 ∨ w = 8 ∨ w = 9 by omega) with h9 | h9 | h9 | h9 | h9 | h9 | h9 | h9 | h9 | h9
    · exact absurd (by rw [h9]; rfl) n0
    · exact absurd (by rw [h9]; rfl) n1
    · exact absurd (by rw [h9]; rfl) n2
    · exact absurd (by rw [h9]; rfl) n3
    · exact absurd (by rw [h9]; rfl) n4
    · exact absurd (by rw [h9]; rfl) n5
    · exact absurd (by rw [h9]; rfl) n6
    · exact absurd (by rw [h9]; rfl) n7
    · exact absurd (by rw [h9]; rfl) n8
    · exact h9
  rw [h9] at q
  exact q
theorem sp_X6_wordHere {Y : xg_Y} {Q : Int32 → xg_H → Prop} {h : xg_H} {nm : Nat → Nat} {L p s : Nat} {f : Nat → Nat} (k6 : xg_is Y (nm 50) 6) (T : XT Y h nm L f) (hp : xg_i h (nm 50) 7 = nI p) (hpL : p ≤ L) (hs : s < 4) (h8 : xg_i h (nm 50) 8 = nI s) (q1 : lW f L s p < 10 → Q (nI (lW f L s p)) h) (q0 : lW f L s p = 10 → Q nM h) : wp_X6_wordHere Y Q (nm 50) h := by
  unfold wp_X6_wordHere
  refine ⟨k6, fun R11 R43 c11 c43 => ?_⟩
  refine sp_X6_rowEnd (a := 97) (b := 122) k6 T hp hpL (by decide) (by decide) ?_
  have hge : p ≤ lP0 f L p := sce_ge
  have hle : lP0 f L p ≤ L := sce_le hpL
  refine lp (σ := Unit) (R := fun k _ => R11 (nI (lP0 f L p)) (nI k) h) (fun k _ => ∀ w, w < k → kwS w = s → ¬ isW f p (lP0 f L p) w) 0 10 (Nat.zero_le _) ?_ ?_ () (fun i hi => absurd hi (Nat.not_lt_zero i))
  · intro _ ha
    exact c11 _ _ _ (bq_t (by decide) (q0 (wf_no ha)))
  · intro k _ _ hk ha ih
    refine c11 _ _ _ (bq_f (nI_ge hk (by decide)) ?_)
    rw [nI_clamp (by omega), kwS_I k hk, h8]
    have hsb := kwS_b k hk
    refine ⟨vp_in_nI (show k < 10 from hk) (by decide), ?_⟩
    have next : (kwS k = s → ¬ isW f p (lP0 f L p) k) → R43 (nI (lP0 f L p)) (nI k) h := fun h1 => by
      refine c43 _ _ _ ?_
      rintro _ rfl
      rw [nI_1]
      refine ih () (fun w hw => ?_)
      rcases Nat.lt_or_ge w k with h9 | h9
      · exact ha w h9
      · rw [show w = k by omega]; exact h1
    by_cases h1 : kwS k = s
    · refine bq_nf (by rw [h1]) (sp_X6_spelling hk ?_)
      refine sp_X6_isHere k6 T hp hge hle hk (fun hw => ?_) (fun hw => bq_t rfl (next (fun _ => hw)))
      have ew : lW f L s p = k := wf_is hk h1 hw
      exact bq_f (by decide) (by rw [← ew]; exact q1 (by rw [ew]; exact hk))
    · exact bq_nt (fun c => h1 ((nI_eq (by omega) (by omega)).mp c)) (next (fun c => absurd c h1))
/-- the fault as it stands in the reader -/
def FT (h : xg_H) (nm : Nat → Nat) (u : fS) : Prop := xg_i h (nm 50) 0 = nI u.1 ∧ u.1 < 5 ∧ xg_i h (nm 50) 1 = if u.1 = 0 then nM else nI u.2
theorem sp_X6_note {Y : xg_Y} {Q : xg_H → Prop} {h : xg_H} {nm : Nat → Nat} {c p : Nat} {u : fS} (hn : inj nm) (k6 : xg_is Y (nm 50) 6) (F : FT h nm u) (hc : c < 5) (hc0 : c ≠ 0) (q : ∀ h', xd nm [50] h h' → (∀ j, j ≠ 0 → j ≠ 1 → xg_i h' (nm 50) j = xg_i h (nm 50) j) → FT h' nm (nte c p u) → Q h') : wp_X6_note Y Q (nm 50) (nI c) (nI p) h := by
  obtain ⟨f0, f5, f1⟩ := F
  unfold wp_X6_note
  refine ⟨k6, ?_⟩
  rw [f0]
  by_cases h0 : u.1 = 0
  · refine bq_nf (by rw [h0]; rfl) ?_
    rintro _ rfl _ rfl
    have e9 : nte c p u = (c, p) := if_pos h0
    refine q _ (xd.ui hn (xd.ui hn xd.rf (List.mem_singleton_self 50)) (List.mem_singleton_self 50)) (fun j h1 h2 => by rw [xu_p hn h2, xu_p hn h1]) ?_
    rw [e9]
    refine ⟨by rw [xu_p hn (by decide), xi_same], hc, ?_⟩
    rw [xi_same, if_neg hc0]
  · have e9 : nte c p u = u := if_neg h0
    refine bq_nt (fun c => h0 ((nI_eq (b := 0) (by omega) (by decide)).mp c)) (q h xd.rf (fun _ _ _ => rfl) ?_)
    rw [e9]
    exact ⟨f0, f5, f1⟩
theorem sp_X6_breakOff {Y : xg_Y} {Q : xg_H → Prop} {h : xg_H} {nm : Nat → Nat} {p : Nat} (hn : inj nm) (k6 : xg_is Y (nm 50) 6) (hp : xg_i h (nm 50) 7 = nI p) (q : ∀ h', xd nm [50] h h' → (∀ j, j ≠ 0 → j ≠ 1 → xg_i h' (nm 50) j = xg_i h (nm 50) j) → FT h' nm (1, p) → Q h') : wp_X6_breakOff Y Q (nm 50) h := by
  unfold wp_X6_breakOff
  refine ⟨k6, ?_⟩
  rintro _ rfl _ rfl
  refine q _ (xd.ui hn (xd.ui hn xd.rf (List.mem_singleton_self 50)) (List.mem_singleton_self 50)) (fun j h1 h2 => by rw [xu_p hn h2, xu_p hn h1]) ⟨?_, (by decide : 1 < 5), ?_⟩
  · rw [xu_p hn (by decide), xi_same]; rfl
  · rw [xi_same, xu_p hn (by decide), hp]
    exact (if_neg (by decide : ¬ (1 : Nat) = 0)).symm
