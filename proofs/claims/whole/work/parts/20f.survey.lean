/-! the class: Cloth: the survey -/
theorem sr_L {a k : Nat} (ha : a < 2 ^ 62) (hk : k < 64) : lN a >>> (lN k &&& 63) = lN (a / 2 ^ k) := by
  apply Int64.toInt_inj.mp
  have e : (lN a >>> (lN k &&& 63)).toInt = ((lN a).toBitVec.sshiftRight' ((lN k &&& 63).toBitVec.smod 64)).toInt := rfl
  have hle : a / 2 ^ k ≤ a := Nat.div_le_self _ _
  rw [e, BitVec.toInt_sshiftRight', s_64 k hk, Int.shiftRight_eq_div_pow, pk_lT (by omega)]
  have e2 : (lN a).toBitVec.toInt = (a : Int) := pk_lT (by omega)
  rw [e2, Int.natCast_ediv, Int.natCast_pow]
theorem bit_L {v : Int64} {p : Nat → Prop} {k : Nat} (h : isL6 v p) (hk : k < 62) : ((p k → ((v >>> ((nI k).toInt64 &&& 63)) &&& 1).toInt32 = nI 1) ∧ (¬ p k → ((v >>> ((nI k).toInt64 &&& 63)) &&& 1).toInt32 = nI 0)) := by
  obtain ⟨B, e1, e2, e3⟩ := h
  have e9 : ((v >>> ((nI k).toInt64 &&& 63)) &&& 1).toInt32 = nI (B / 2 ^ k % 2) := by
    rw [e1, nI_l (by omega), sr_L e2 (by omega), show (1 : Int64) = lN (2 ^ 1 - 1) from rfl, fb_maskL, lN_i]
  rw [e9]
  have hb : B / 2 ^ k % 2 = 1 ↔ p k := tb_iff.trans (e3 k)
  refine ⟨fun c => by rw [hb.mpr c], fun c => ?_⟩
  have : B / 2 ^ k % 2 ≠ 1 := fun c2 => c (hb.mp c2)
  rw [show B / 2 ^ k % 2 = 0 by omega]
theorem sp_X2_noteFitting {Y : xg_Y} {Q : xg_H → Prop} {h : xg_H} {nm : Nat → Nat} {tx dx n m a : Nat} {z t pr kd yy T u : Nat → Nat} {p : Nat → Nat → Prop} {A : Nat → Prop} (hn : inj nm) (X : XQ Y h nm tx dx n m z t pr kd yy) (ht : ∀ g, g < n → xg_i h (nm 22) g = nI (T g) ∧ T g ≤ z g) (h0 : xg_i h (nm 20) 0 = nI a) (hs : ∀ g, g < n → isB (xg_i h (nm 25) g) (p g)) (hh : ∀ x, 1 ≤ x → x ≤ 40 → xg_i h (nm 26) x = nI (u x)) (ha : isL6 (xg_l h (nm 20) 11) A)
    (q : ∀ h', xd nm [20, 25, 26] h h' → (∀ j, j ≠ 0 → xg_i h' (nm 20) j = xg_i h (nm 20) j) → (∀ j, xg_l h' (nm 20) j = xg_l h (nm 20) j) → xg_i h' (nm 20) 0 = nI (a + 1) → (∀ g, g < n → isB (xg_i h' (nm 25) g) (fun v => p g v ∨ v = T g)) → (∀ g, n ≤ g → xg_i h' (nm 25) g = xg_i h (nm 25) g) → (∀ x, 1 ≤ x → x ≤ 40 → (A x → xg_i h' (nm 26) x = nI (u x + 1)) ∧ (¬ A x → xg_i h' (nm 26) x = nI (u x))) → Q h') : wp_X2_noteFitting Y Q (nm 20) h := by
  have X0 := X
  obtain ⟨C, o12, o13, S, D, H⟩ := X
  have hn4 := H.1
  have l3 : ∀ c : Nat, c ∈ [20, 25, 26] → c < 100 := fun c h => by simp at h <;> omega
  unfold wp_X2_noteFitting
  refine ⟨C.1, fun R12 R48 c12 c48 => ?_⟩
  rintro _ rfl
  rw [h0, nI_1]
  refine lp (σ := xg_H) (R := fun g s => R12 (nI g) s) (fun g s => xd nm [20, 25, 26] h s ∧ (∀ j, j ≠ 0 → xg_i s (nm 20) j = xg_i h (nm 20) j) ∧ (∀ j, xg_l s (nm 20) j = xg_l h (nm 20) j) ∧ xg_i s (nm 20) 0 = nI (a + 1) ∧ (∀ j, xg_i s (nm 26) j = xg_i h (nm 26) j) ∧ (∀ g', g' < g → isB (xg_i s (nm 25) g') (fun v => p g' v ∨ v = T g')) ∧ ∀ g', g ≤ g' → xg_i s (nm 25) g' = xg_i h (nm 25) g') 0 n (Nat.zero_le n) ?_ ?_ _ ⟨xd.ui hn xd.rf (by simp), fun j hj => xu_p hn hj, fun j => xl_ui _ _ _ _ _ _, xi_same, fun j => xu_c hn (by decide), fun g' hg => absurd hg (Nat.not_lt_zero g'), fun g' _ => xu_c hn (by decide)⟩
  · rintro s ⟨e, k20, kl, k0, k26, ks, ko⟩
    have Xs := X0.mv e l3
    refine c12 _ _ ⟨nm tx, Xs.2.1, Xs.2.2.2.1.1, ?_⟩
    rw [Xs.2.2.2.1.2.2.2.2.1]
    refine bq_t (nI_le (Nat.le_refl n) (by omega)) ?_
    refine lp (σ := xg_H) (R := fun x s2 => R48 (nI x) s2) (fun x s2 => xd nm [26] s s2 ∧ (∀ y, 1 ≤ y → y < x → (A y → xg_i s2 (nm 26) y = nI (u y + 1)) ∧ (¬ A y → xg_i s2 (nm 26) y = nI (u y))) ∧ ∀ y, x ≤ y → xg_i s2 (nm 26) y = xg_i s (nm 26) y) 1 41 (by decide) ?_ ?_ s ⟨xd.rf, fun y h1 h2 => by omega, fun y _ => rfl⟩
    · rintro s2 ⟨e2, w1, w2⟩
      refine c48 _ _ (bq_t (by decide) (q s2 (e.tr (e2.mono (by simp))) (fun j hj => (e2.i 20 (by decide) j).trans (k20 j hj)) (fun j => ((e2.1 20 (by decide) j).2).trans (kl j)) ((e2.i 20 (by decide) 0).trans k0) (fun g hg => by rw [e2.i 25 (by decide)]; exact ks g hg) (fun g hg => (e2.i 25 (by decide) g).trans (ko g hg)) (fun x h1 h2 => w1 x h1 (by omega))))
    · rintro x s2 h1 hx ⟨e2, w1, w2⟩ ih2
      have C2 := Xs.1.mv e2
      refine c48 _ _ (bq_f (nI_nlt (a := 40) (by omega) (by decide)) ⟨nm 26, C2.2.2.2.2.2.2.1.1, C2.2.2.2.2.2.2.1.2.1, ?_⟩)
      rw [C2.2.2.2.2.2.2.1.2.2, nI_clamp (by omega)]
      refine ⟨vp_in_nI (by omega) (by decide), vp_in_nI (by omega) (by decide), ?_⟩
      have b11 : isL6 (xg_l s2 (nm 20) 11) A := by rw [(e2.1 20 (by decide) 11).2, kl]; exact ha
      have bb := bit_L (k := x) b11 (by omega)
      rw [w2 x (Nat.le_refl x), k26, hh x h1 (by omega)]
      rintro _ rfl _ rfl
      rw [nI_1]
      refine ih2 _ ⟨xd.ui hn e2 (List.mem_singleton_self 26), fun y g1 g2 => ?_, fun y g1 => by rw [xu_p hn (by omega)]; exact w2 y (by omega)⟩
      by_cases ey : y = x
      · rw [ey, xi_same]
        exact ⟨fun c => by rw [bb.1 c, nI_add], fun c => by rw [bb.2 c, nI_add, Nat.add_zero]⟩
      · rw [xu_p hn ey]; exact w1 y g1 (by omega)
  · rintro g s _ hg ⟨e, k20, kl, k0, k26, ks, ko⟩ ih
    have Xs := X0.mv e l3
    have hz := H.2.1 g hg
    have htg := ht g hg
    refine c12 _ _ ⟨nm tx, Xs.2.1, Xs.2.2.2.1.1, ?_⟩
    rw [Xs.2.2.2.1.2.2.2.2.1]
    refine bq_f (nI_ge hg (by omega)) ⟨nm 25, Xs.1.2.2.2.2.2.1.1, Xs.1.2.2.2.2.2.1.2.1, ?_⟩
    rw [Xs.1.2.2.2.2.2.1.2.2, nI_clamp (by omega)]
    refine ⟨vp_in_nI (by omega) (by decide), nm 22, Xs.1.2.2.1.1, Xs.1.2.2.1.2.1, ?_⟩
    rw [Xs.1.2.2.1.2.2, (e.i 22 (by decide) g).trans htg.1, bit_I (by omega), ko g (Nat.le_refl g)]
    refine ⟨vp_in_nI (by omega) (by decide), vp_in_nI (by omega) (by decide), ?_⟩
    rintro _ rfl _ rfl
    rw [nI_1]
    refine ih _ ⟨xd.ui hn e (by simp), fun j hj => by rw [xu_c hn (by decide)]; exact k20 j hj, fun j => by rw [xl_ui]; exact kl j, by rw [xu_c hn (by decide)]; exact k0, fun j => by rw [xu_c hn (by decide)]; exact k26 j, fun g' hg' => ?_, fun g' hg' => by rw [xu_p hn (by omega)]; exact ko g' (by omega)⟩
    by_cases e9 : g' = g
    · rw [e9, xi_same]
      exact isB_or (hs g hg) (isB_bit (by omega))
    · rw [xu_p hn e9]; exact ks g' (by omega)
/-- a row of tops as a number -/
def rno (T : Nat → Nat) : Nat → Nat
  | 0 => 1
  | k + 1 => rno T k * 10 + T k
theorem rno_b {T : Nat → Nat} (hT : ∀ g, T g ≤ 7) : ∀ k, rno T k ≤ 20 ^ k
  | 0 => Nat.le_refl _
  | k + 1 => by
    have := rno_b hT k
    have h2 := hT k
    have h3 : 0 < 20 ^ k := Nat.pow_pos (by decide)
    rw [rno, Nat.pow_succ]
    omega
theorem sp_X2_rowNumber {Y : xg_Y} {Q : Int32 → xg_H → Prop} {h : xg_H} {nm : Nat → Nat} {tx dx n m : Nat} {z t pr kd yy T : Nat → Nat} (X : XQ Y h nm tx dx n m z t pr kd yy) (ht : ∀ g, g < n → xg_i h (nm 22) g = nI (T g) ∧ T g ≤ z g) (q : Q (nI (rno T n)) h) : wp_X2_rowNumber Y Q (nm 20) h := by
  obtain ⟨C, o12, o13, S, D, H⟩ := X
  have hn4 := H.1
  unfold wp_X2_rowNumber
  refine ⟨C.1, fun R4 c4 => ?_⟩
  refine lp (σ := Unit) (R := fun g _ => R4 (nI (rno T g)) (nI g) h) (fun _ _ => True) 0 n (Nat.zero_le n) ?_ ?_ () trivial
  · intro _ _
    refine c4 _ _ _ ⟨nm tx, o12, S.1, ?_⟩
    rw [S.2.2.2.2.1]
    exact bq_t (nI_le (Nat.le_refl n) (by omega)) q
  · intro g _ _ hg _ ih
    refine c4 _ _ _ ⟨nm tx, o12, S.1, ?_⟩
    rw [S.2.2.2.2.1]
    refine bq_f (nI_ge hg (by omega)) ⟨nm 22, C.2.2.1.1, C.2.2.1.2.1, ?_⟩
    rw [C.2.2.1.2.2, nI_clamp (by omega), (ht g hg).1]
    refine ⟨vp_in_nI (by omega) (by decide), ?_⟩
    rintro _ rfl _ rfl
    rw [nI_1, nl_10, pk_mul, nI_add]
    exact ih () trivial
/-- how many rows -/
def PBk (z : Nat → Nat) : Nat → Nat
  | 0 => 1
  | k + 1 => PBk z k * (z k + 1)
theorem PBk_b {z : Nat → Nat} (hz : ∀ g, z g ≤ 7) : ∀ k, 1 ≤ PBk z k ∧ PBk z k ≤ 8 ^ k
  | 0 => ⟨Nat.le_refl _, Nat.le_refl _⟩
  | k + 1 => by
    have h1 := PBk_b hz k
    rw [PBk, Nat.pow_succ]
    exact ⟨Nat.mul_pos h1.1 (by omega), Nat.mul_le_mul h1.2 (by have := hz k; omega)⟩
/-- what is gathered of the first i rows -/
def WNT (F : Nat → Prop) (n : Nat) (z : Nat → Nat) (x4 : Int32) (i : Nat) (v : Int32) : Prop := (v = nM2 ∧ ∀ j, j < i → F j → nI (fb_ct (fun k => dcd (F k)) j) ≠ x4) ∨ ∃ j, j < i ∧ F j ∧ nI (fb_ct (fun k => dcd (F k)) j) = x4 ∧ v = nI (rno (tpr z j) n)
def ACC (h : xg_H) (nm : Nat → Nat) (n : Nat) (z : Nat → Nat) (F : Nat → Prop) (A : Nat → Nat → Prop) (x4 : Int32) (i : Nat) : Prop :=
  xg_i h (nm 20) 0 = nI (fb_ct (fun j => dcd (F j)) i) ∧
  (∀ g, g < 4 → isB (xg_i h (nm 25) g) (fun u => g < n ∧ ∃ j, j < i ∧ F j ∧ tpr z j g = u)) ∧
  (∀ x, 1 ≤ x → x ≤ 40 → xg_i h (nm 26) x = nI (fb_ct (fun j => dcd (F j ∧ A j x)) i)) ∧
  WNT F n z x4 i (xg_i h (nm 20) 1)
theorem ex_s {k : Nat} {P : Nat → Prop} : (∃ j, j < k + 1 ∧ P j) ↔ ((∃ j, j < k ∧ P j) ∨ P k) := ⟨fun ⟨j, hj, hp⟩ => by
  rcases Nat.lt_or_ge j k with h9 | h9
  · exact Or.inl ⟨j, h9, hp⟩
  · rw [show j = k by omega] at hp; exact Or.inr hp, fun c => c.elim (fun ⟨j, hj, hp⟩ => ⟨j, by omega, hp⟩) (fun hp => ⟨k, by omega, hp⟩)⟩
theorem WNT_no {F : Nat → Prop} {n i : Nat} {z : Nat → Nat} {x4 v : Int32} (h : WNT F n z x4 i v) (hc : ¬ F i ∨ nI (fb_ct (fun k => dcd (F k)) i) ≠ x4) : WNT F n z x4 (i + 1) v := by
  rcases h with ⟨h1, h2⟩ | ⟨j, h1, h2⟩
  · refine Or.inl ⟨h1, fun j hj hf => ?_⟩
    rcases Nat.lt_or_ge j i with h9 | h9
    · exact h2 j h9 hf
    · have e : j = i := by omega
      rw [e] at hf ⊢
      exact hc.elim (fun c => absurd hf c) id
  · exact Or.inr ⟨j, by omega, h2⟩
theorem ct_s {F : Nat → Prop} {i : Nat} : fb_ct (fun j => dcd (F j)) (i + 1) = fb_ct (fun j => dcd (F j)) i + (if dcd (F i) = true then 1 else 0) := rfl
abbrev cFt (n m c : Nat) (z kd yy mi gl : Nat → Nat) : Nat → Prop := fun i => FIT n m c z (tpr z i) kd yy mi gl
abbrev cAn (n m : Nat) (z kd yy : Nat → Nat) : Nat → Nat → Prop := fun i x => ANY n m z (tpr z i) kd yy x
set_option maxHeartbeats 2000000 in
theorem sp_X2_survey {Y : xg_Y} {Q : xg_H → Prop} {h : xg_H} {nm : Nat → Nat} {tx dx lx n m c : Nat} {x4 : Int32} {z t pr kd yy mi gl : Nat → Nat} (hn : inj nm) (C : XC Y h nm) (S : XS Y h nm tx n z t pr) (D : XD Y h nm dx m kd yy) (L : XL Y h nm lx c mi gl) (H : SH n z t) (q : ∀ h', xd nm [20, 21, 22, 23, 24, 25, 26, 27] (xg_uo (xg_uo h (nm 20) 12 (some (nm tx))) (nm 20) 13 (some (nm dx))) h' → ACC h' nm n z (cFt n m c z kd yy mi gl) (cAn n m z kd yy) x4 (PBk z n) → Q h') : wp_X2_survey Y Q (nm 20) (some (nm tx)) (some (nm dx)) (some (nm lx)) x4 h := by
  have hn4 := H.1
  have hz7 : ∀ g, z g ≤ 7 := fun g => (H.le g).1
  have hPB := PBk_b hz7
  have hm40 := D.2.2.2.2.1
  have l8 : ∀ c : Nat, c ∈ [20, 21, 22, 23, 24, 25, 26, 27] → c < 100 := fun c h => by simp at h <;> omega
  unfold wp_X2_survey
  refine ⟨C.1, fun R68 R73 R105 R146 R142 c68 c73 c105 c146 c142 => ?_⟩
  rintro _ rfl _ rfl _ rfl _ rfl
  -- the shelf and the day are at hand
  have O : ∀ c j, ¬ (c = 20 ∧ (j = 12 ∨ j = 13)) → xg_o (xg_uo (xg_uo h (nm 20) 12 (some (nm tx))) (nm 20) 13 (some (nm dx))) (nm c) j = xg_o h (nm c) j := fun c j hc => by
    rw [xo_uo, if_neg (fun e => hc ⟨hn _ _ e.1, Or.inr e.2⟩), xo_uo, if_neg (fun e => hc ⟨hn _ _ e.1, Or.inl e.2⟩)]
  have Xo : XQ Y (xg_uo (xg_uo h (nm 20) 12 (some (nm tx))) (nm 20) 13 (some (nm dx))) nm tx dx n m z t pr kd yy := by
    obtain ⟨a1, a2, a3, a4, a5, a6, a7, a8⟩ := C
    obtain ⟨s1, s2, s3, s4, s5, s6, s7, s8, s9⟩ := S
    obtain ⟨d1, d2, d3, d4, d5, d6, d7, d8⟩ := D
    refine ⟨⟨a1, ⟨(O 20 2 (by omega)).trans a2.1, a2.2⟩, ⟨(O 20 3 (by omega)).trans a3.1, a3.2⟩, ⟨(O 20 4 (by omega)).trans a4.1, a4.2⟩, ⟨(O 20 5 (by omega)).trans a5.1, a5.2⟩, ⟨(O 20 6 (by omega)).trans a6.1, a6.2⟩, ⟨(O 20 7 (by omega)).trans a7.1, a7.2⟩, ⟨(O 20 8 (by omega)).trans a8.1, a8.2⟩⟩, ?_, ?_, ⟨s1, ⟨(O tx 1 (by omega)).trans s2.1, s2.2⟩, ⟨(O tx 2 (by omega)).trans s3.1, s3.2⟩, ⟨(O tx 3 (by omega)).trans s4.1, s4.2⟩, s5, s6, s7, s8, s9⟩, ⟨d1, ⟨(O dx 1 (by omega)).trans d2.1, d2.2⟩, ⟨(O dx 2 (by omega)).trans d3.1, d3.2⟩, d4, d5, d6, d7, d8⟩, H⟩
    · rw [xo_uo, if_neg (by omega), xo_uo, if_pos ⟨rfl, rfl⟩]
    · rw [xo_uo, if_pos ⟨rfl, rfl⟩]
  have Lo : XL Y (xg_uo (xg_uo h (nm 20) 12 (some (nm tx))) (nm 20) 13 (some (nm dx))) nm lx c mi gl := by
    obtain ⟨d1, d2, d3, d4, d5, d6, d7, d8⟩ := L
    exact ⟨d1, ⟨(O lx 1 (by omega)).trans d2.1, d2.2⟩, ⟨(O lx 2 (by omega)).trans d3.1, d3.2⟩, d4, d5, d6, d7, d8⟩
  generalize xg_uo (xg_uo h (nm 20) 12 (some (nm tx))) (nm 20) 13 (some (nm dx)) = ho at q Xo Lo
  have e1 : xd nm [20, 21, 22, 23, 24, 25, 26, 27] ho (xg_ui (xg_ui ho (nm 20) 0 0) (nm 20) 1 (-2)) := xd.ui hn (xd.ui hn xd.rf (by simp)) (by simp)
  have a0 : xg_i (xg_ui (xg_ui ho (nm 20) 0 0) (nm 20) 1 (-2)) (nm 20) 0 = nI 0 := by rw [xu_p hn (by decide), xi_same]; rfl
  have a1 : xg_i (xg_ui (xg_ui ho (nm 20) 0 0) (nm 20) 1 (-2)) (nm 20) 1 = nM2 := by rw [xi_same]; rfl
  generalize xg_ui (xg_ui ho (nm 20) 0 0) (nm 20) 1 (-2) = h1 at e1 a0 a1
  have X1 := Xo.mv e1 l8
  rw [X1.1.2.2.2.2.2.1.1]
  refine sp_fill (c := 25) hn X1.1.2.2.2.2.2.1.2 (by decide) (fun h2 e2 p2 => ?_)
  have X2 := X1.mv e2 (fun c hc => by simp at hc <;> omega)
  rw [X2.1.2.2.2.2.2.2.1.1]
  refine sp_fill (c := 26) hn X2.1.2.2.2.2.2.2.1.2 (by decide) (fun h3 e3 p3 => ?_)
  have X3 := X2.mv e3 (fun c hc => by simp at hc <;> omega)
  rw [X3.1.2.2.2.2.1.1]
  refine sp_fillL (c := 24) hn X3.1.2.2.2.2.1.2 (by decide) (fun h4 e4 p4 => ?_)
  have X4 := X3.mv e4 (fun c hc => by simp at hc <;> omega)
  have E4 : xd nm [20, 21, 22, 23, 24, 25, 26, 27] ho h4 := ((e1.tr (e2.mono (by simp))).tr (e3.mono (by simp))).tr (e4.mono (by simp))
  refine sp_X2_readFacts hn X4 (Lo.mv E4 l8) (fun h5 e5 k5 M5 => ?_)
  have X5 := X4.mv e5 l2027
  refine sp_X2_findStops hn X5 (fun h6 e6 SP6 => ?_)
  have X6 := X5.mv e6 l2123
  have E6 : xd nm [20, 21, 22, 23, 24, 25, 26, 27] ho h6 := (E4.tr (e5.mono (by simp))).tr (e6.mono (by simp))
  have M6 : MF h6 nm n c mi gl := ⟨fun g hg => by rw [(e6.1 27 (by decide) g).2]; exact M5.1 g hg, by rw [(e6.1 20 (by decide) 9).2]; exact M5.2.1, by rw [e6.i 20 (by decide) 10]; exact M5.2.2⟩
  have hmi : ∀ j, j < c → mi j ≤ 40 := fun j hj => (L.2.2.2.2.2.1 j hj).2.2.2.1
  have hgl : ∀ j, j < c → gl j ≤ 3 ∨ gl j = 9 := fun j hj => (L.2.2.2.2.2.1 j hj).2.2.2.2
  have A6 : RA h6 nm n z kd yy := fun g tp v hg htp hv => Or.inl (by
    have := H.2.1 g hg
    rw [(e6.1 24 (by decide) _).2, (e5.1 24 (by decide) _).2, p4, if_pos (by omega)])
  have B6 : ACC h6 nm n z (cFt n m c z kd yy mi gl) (cAn n m z kd yy) x4 0 := by
    refine ⟨?_, fun g hg => ?_, fun x h1 h2 => ?_, Or.inl ⟨?_, fun j hj => absurd hj (Nat.not_lt_zero j)⟩⟩
    · rw [e6.i 20 (by decide), k5 0 (by decide), e4.i 20 (by decide), e3.i 20 (by decide), e2.i 20 (by decide)]; exact a0
    · rw [e6.i 25 (by decide), e5.i 25 (by decide), e4.i 25 (by decide), e3.i 25 (by decide), p2, if_pos hg]
      exact isB_0 (fun i c => by obtain ⟨_, j, hj, _⟩ := c; exact absurd hj (Nat.not_lt_zero j))
    · rw [e6.i 26 (by decide), e5.i 26 (by decide), e4.i 26 (by decide), p3, if_pos (by omega)]; rfl
    · rw [e6.i 20 (by decide), k5 1 (by decide), e4.i 20 (by decide), e3.i 20 (by decide), e2.i 20 (by decide)]; exact a1
  -- the product of the sizes
  have f68 : ∀ y0, ((∃ j, j < c ∧ gl j ≠ 9 ∧ n ≤ gl j) ∧ y0 = nI 0 ∨ (¬ ∃ j, j < c ∧ gl j ≠ 9 ∧ n ≤ gl j) ∧ y0 = nI 1) → R68 y0 h6 := by
    intro y0 hy0
    refine c68 _ _ ?_
    have S6 := X6.2.2.2.1
    have loop : ∀ u, u ≤ 1 → R105 (nI (u * PBk z n)) 0 h6 → R73 (nI (u * PBk z 0)) (nI 0) h6 := by
      intro u hu fin
      refine lp (σ := Unit) (R := fun k _ => R73 (nI (u * PBk z k)) (nI k) h6) (fun _ _ => True) 0 n (Nat.zero_le n) ?_ ?_ () trivial
      · intro _ _
        refine c73 _ _ _ ⟨nm tx, rfl, S6.1, ?_⟩
        rw [S6.2.2.2.2.1]
        exact bq_t (nI_le (Nat.le_refl n) (by omega)) fin
      · intro k _ _ hk _ ih
        refine c73 _ _ _ ⟨nm tx, rfl, S6.1, ?_⟩
        rw [S6.2.2.2.2.1]
        refine bq_f (nI_ge hk (by omega)) ⟨nm (tx + 10), S6.2.1.1, S6.2.1.2.1, ?_⟩
        rw [S6.2.1.2.2, nI_clamp (by omega), (S6.2.2.2.2.2.1 k hk).1, nI_1, pk_mul]
        refine ⟨vp_in_nI (by omega) (by decide), ?_⟩
        rintro _ rfl _ rfl
        rw [nI_1, Nat.mul_assoc]
        exact ih () trivial
    rcases hy0 with ⟨hc, ey⟩ | ⟨hc, ey⟩
    · -- a fact of a glass that isn't there: no row fits
      have noF : ∀ i, ¬ cFt n m c z kd yy mi gl i := by
        rintro i ⟨v, _, hf⟩
        obtain ⟨j, hj, g9, gn⟩ := hc
        have := ((hf j hj).2 g9).1
        omega
      have z0 := loop 0 (by decide)
      rw [Nat.zero_mul, Nat.zero_mul] at z0
      rw [ey]
      refine z0 (c105 _ _ _ (bq_t (by decide) (q h6 E6 ?_)))
      obtain ⟨b1, b2, b3, b4⟩ := B6
      refine ⟨?_, fun g hg => (b2 g hg).congr (fun u => ⟨fun c => by obtain ⟨_, j, hj, _⟩ := c; exact absurd hj (Nat.not_lt_zero j), fun c => by obtain ⟨_, j, _, hj, _⟩ := c; exact absurd hj (noF j)⟩), fun x h1 h2 => ?_, Or.inl ⟨?_, fun j _ hj => absurd hj (noF j)⟩⟩
      · rw [b1, fb_ct_zero.mpr (show ∀ k, k < PBk z n → dcd (cFt n m c z kd yy mi gl k) = false from fun k _ => dcd_f.mpr (noF k))]; rfl
      · rw [b3 x h1 h2, fb_ct_zero.mpr (show ∀ k, k < PBk z n → dcd (cFt n m c z kd yy mi gl k ∧ cAn n m z kd yy k x) = false from fun k _ => dcd_f.mpr (fun c => noF k c.1))]; rfl
      · rcases b4 with b4 | ⟨j, hj, _⟩
        · exact b4.1
        · exact absurd hj (Nat.not_lt_zero j)
    · have z1 := loop 1 (by decide)
      rw [Nat.one_mul, Nat.one_mul] at z1
      rw [ey]
      refine z1 ?_
      have hP := hPB n
      have h84 : 8 ^ n ≤ 8 ^ 4 := Nat.pow_le_pow_right (by decide) hn4
      refine lp (σ := xg_H) (R := fun i s => R105 (nI (PBk z n)) (nI i) s) (fun i s => xd nm [20, 21, 22, 24, 25, 26] h6 s ∧ (∀ j, j ≠ 0 → j ≠ 1 → xg_i s (nm 20) j = xg_i h6 (nm 20) j) ∧ (∀ j, j ≠ 11 → xg_l s (nm 20) j = xg_l h6 (nm 20) j) ∧ RA s nm n z kd yy ∧ ACC s nm n z (cFt n m c z kd yy mi gl) (cAn n m z kd yy) x4 i) 0 (PBk z n) (Nat.zero_le _) ?_ ?_ h6 ⟨xd.rf, fun _ _ _ => rfl, fun _ _ => rfl, A6, B6⟩
      · rintro s ⟨e, _, _, _, B⟩
        exact c105 _ _ _ (bq_t (nI_le (Nat.le_refl _) (by omega)) (q s (E6.tr (e.mono (by simp))) B))
      · rintro i s _ hi ⟨e, k20, kl, As, B⟩ ih
        have Xs := X6.mv e (fun c hc => by simp at hc <;> omega)
        refine c105 _ _ _ (bq_f (nI_ge hi (by omega)) (sp_X2_layOut hn Xs (by omega) (fun s2 e2 ht2 => ?_)))
        have Xs2 := Xs.mv e2 (fun c hc => by simp at hc <;> omega)
        have E2 : xd nm [20, 21, 22, 24, 25, 26] h6 s2 := e.tr (e2.mono (by simp))
        have SP2 : ∀ g tp, g < n → tp ≤ z g → SPv s2 nm n m z kd yy g tp := fun g tp hg htp => by
          obtain ⟨v, w1, w2⟩ := SP6 g tp hg htp
          exact ⟨v, by rw [E2.i 23 (by decide)]; exact w1, w2⟩
        have M2 : MF s2 nm n c mi gl := ⟨fun g hg => by rw [(E2.1 27 (by decide) g).2]; exact M6.1 g hg, by rw [(e2.1 20 (by decide) 9).2, kl 9 (by decide)]; exact M6.2.1, by rw [e2.i 20 (by decide), k20 10 (by decide) (by decide)]; exact M6.2.2⟩
        have ht2' : ∀ g, g < n → xg_i s2 (nm 22) g = nI (tpr z i g) ∧ tpr z i g ≤ z g := fun g hg => ⟨ht2 g hg, tpr_le⟩
        have B2 : ACC s2 nm n z (cFt n m c z kd yy mi gl) (cAn n m z kd yy) x4 i := ⟨by rw [e2.i 20 (by decide)]; exact B.1, fun g hg => by rw [e2.i 25 (by decide)]; exact B.2.1 g hg, fun x h1 h2 => by rw [e2.i 26 (by decide)]; exact B.2.2.1 x h1 h2, by rw [e2.i 20 (by decide)]; exact B.2.2.2⟩
        have cnt := fb_ct_le (fun j => dcd (cFt n m c z kd yy mi gl j)) i
        have cntA : ∀ x, fb_ct (fun j => dcd (cFt n m c z kd yy mi gl j ∧ cAn n m z kd yy j x)) i ≤ i := fun x => fb_ct_le _ i
        have next : ∀ s5, xd nm [20, 21, 22, 24, 25, 26] h6 s5 → (∀ j, j ≠ 0 → j ≠ 1 → xg_i s5 (nm 20) j = xg_i h6 (nm 20) j) → (∀ j, j ≠ 11 → xg_l s5 (nm 20) j = xg_l h6 (nm 20) j) → RA s5 nm n z kd yy → ACC s5 nm n z (cFt n m c z kd yy mi gl) (cAn n m z kd yy) x4 (i + 1) → R146 (nI (PBk z n)) (nI i) s5 := fun s5 w1 w2 w3 w4 w5 => by
          refine c146 _ _ _ ?_
          rintro _ rfl
          rw [nI_1]
          exact ih s5 ⟨w1, w2, w3, w4, w5⟩
        refine sp_X2_fitsNow hn Xs2 (As.mv e2 (by decide)) SP2 M2 hmi hc ht2' (fun s3 e3 A3 hF hany => bq_f (by decide) ?_) (fun s3 e3 A3 hF => bq_t rfl ?_)
        · have E3 : xd nm [20, 21, 22, 24, 25, 26] h6 s3 := E2.tr (e3.1.mono (by simp))
          have Xs3 := Xs2.mv e3.1 l202124
          have b1 : xg_i s3 (nm 20) 0 = nI (fb_ct (fun j => dcd (cFt n m c z kd yy mi gl j)) i) := (e3.2.1 0).trans B2.1
          -- noted
          have note : ∀ s4, xd nm [20] s3 s4 → (∀ j, j ≠ 1 → xg_i s4 (nm 20) j = xg_i s3 (nm 20) j) → (∀ j, xg_l s4 (nm 20) j = xg_l s3 (nm 20) j) → WNT (cFt n m c z kd yy mi gl) n z x4 (i + 1) (xg_i s4 (nm 20) 1) → R142 (nI (PBk z n)) (nI i) s4 := by
            intro s4 e4 k4 l4 w4
            have Xs4 := Xs3.mv e4 (fun c hc => by simp at hc <;> omega)
            refine c142 _ _ _ ?_
            refine sp_X2_noteFitting (a := fb_ct (fun j => dcd (cFt n m c z kd yy mi gl j)) i) (T := tpr z i) (u := fun x => fb_ct (fun j => dcd (cFt n m c z kd yy mi gl j ∧ cAn n m z kd yy j x)) i) (p := fun g u => g < n ∧ ∃ j, j < i ∧ cFt n m c z kd yy mi gl j ∧ tpr z j g = u) (A := fun x => x ≤ 40 ∧ cAn n m z kd yy i x) hn Xs4 (fun g hg => ⟨by rw [e4.i 22 (by decide), e3.1.i 22 (by decide)]; exact ht2 g hg, tpr_le⟩) ((k4 0 (by decide)).trans b1) (fun g hg => by rw [e4.i 25 (by decide), e3.1.i 25 (by decide)]; exact B2.2.1 g (by omega)) (fun x h1 h2 => by rw [e4.i 26 (by decide), e3.1.i 26 (by decide)]; exact B2.2.2.1 x h1 h2) (by rw [l4]; exact hany) (fun s5 e5 k5 l5 w0 wS wO wH => ?_)
            refine next s5 ((E3.tr (e4.mono (by simp))).tr (e5.mono (by simp))) (fun j h1 h2 => by rw [k5 j h1, k4 j h2, e3.2.1, e2.i 20 (by decide), k20 j h1 h2]) (fun j hj => by rw [l5, l4, e3.2.2 j hj, (e2.1 20 (by decide) j).2, kl j hj]) ((A3.mv e4 (by decide)).mv e5 (by decide)) ⟨?_, fun g hg => ?_, fun x h1 h2 => ?_, ?_⟩
            · rw [w0, ct_s, if_pos (dcd_iff.mpr hF)]
            · by_cases hgn : g < n
              · refine (wS g hgn).congr (fun u => ?_)
                rw [ex_s]
                constructor
                · rintro (⟨_, c1⟩ | c1)
                  · exact ⟨hgn, Or.inl c1⟩
                  · exact ⟨hgn, Or.inr ⟨hF, c1.symm⟩⟩
                · rintro ⟨_, c1 | c1⟩
                  · exact Or.inl ⟨hgn, c1⟩
                  · exact Or.inr c1.2.symm
              · rw [wO g (by omega), e4.i 25 (by decide), e3.1.i 25 (by decide)]
                exact (B2.2.1 g hg).congr (fun u => ⟨fun c1 => absurd c1.1 hgn, fun c1 => absurd c1.1 hgn⟩)
            · have := wH x h1 h2
              show _ = nI (fb_ct (fun j => dcd (cFt n m c z kd yy mi gl j ∧ cAn n m z kd yy j x)) i + (if dcd (cFt n m c z kd yy mi gl i ∧ cAn n m z kd yy i x) = true then 1 else 0))
              by_cases ha : cAn n m z kd yy i x
              · rw [if_pos (dcd_iff.mpr ⟨hF, ha⟩)]; exact this.1 ⟨h2, ha⟩
              · rw [if_neg (by rw [dcd_iff]; exact fun c1 => ha c1.2)]; exact this.2 (fun c1 => ha c1.2)
            · rw [k5 1 (by decide)]; exact w4
          rw [b1]
          have w0 : WNT (cFt n m c z kd yy mi gl) n z x4 i (xg_i s3 (nm 20) 1) := by rw [e3.2.1 1]; exact B2.2.2.2
          by_cases hk : nI (fb_ct (fun j => dcd (cFt n m c z kd yy mi gl j)) i) = x4
          · refine bq_nf hk (sp_X2_rowNumber (T := tpr z i) Xs3 (fun g hg => ⟨by rw [e3.1.i 22 (by decide)]; exact ht2 g hg, tpr_le⟩) ?_)
            rintro _ rfl
            exact note _ (xd.ui hn xd.rf (by simp)) (fun j hj => xu_p hn hj) (fun j => xl_ui _ _ _ _ _ _) (Or.inr ⟨i, by omega, hF, hk, xi_same⟩)
          · exact bq_nt hk (note s3 xd.rf (fun _ _ => rfl) (fun _ => rfl) (WNT_no w0 (Or.inr hk)))
        · refine next s3 (E2.tr (e3.1.mono (by simp))) (fun j h1 h2 => by rw [e3.2.1, e2.i 20 (by decide), k20 j h1 h2]) (fun j hj => by rw [e3.2.2 j hj, (e2.1 20 (by decide) j).2, kl j hj]) A3 ⟨?_, fun g hg => ?_, fun x h1 h2 => ?_, ?_⟩
          · rw [e3.2.1, ct_s, if_neg (by rw [dcd_iff]; exact hF), Nat.add_zero]; exact B2.1
          · rw [e3.1.i 25 (by decide)]
            refine (B2.2.1 g hg).congr (fun u => ?_)
            rw [ex_s]
            exact ⟨fun c1 => ⟨c1.1, Or.inl c1.2⟩, fun c1 => ⟨c1.1, c1.2.elim id (fun c2 => absurd c2.1 hF)⟩⟩
          · rw [e3.1.i 26 (by decide)]
            show _ = nI (fb_ct (fun j => dcd (cFt n m c z kd yy mi gl j ∧ cAn n m z kd yy j x)) i + (if dcd (cFt n m c z kd yy mi gl i ∧ cAn n m z kd yy i x) = true then 1 else 0))
            rw [if_neg (by rw [dcd_iff]; exact fun c1 => hF c1.1), Nat.add_zero]
            exact B2.2.2.1 x h1 h2
          · rw [e3.2.1]; exact WNT_no B2.2.2.2 (Or.inl hF)
  rcases M6.2.2 with ⟨w1, w2⟩ | ⟨w1, w2⟩
  · rw [w1]
    exact bq_t rfl (f68 1 (Or.inr ⟨w2, rfl⟩))
  · rw [w1]
    exact bq_f (by decide) (f68 0 (Or.inl ⟨w2, rfl⟩))
