/-! the class: Cloth: the minutes at which a glass runs out -/
def isL6 (v : Int64) (p : Nat → Prop) : Prop := ∃ B, v = lN B ∧ B < 2 ^ 62 ∧ ∀ i, B.testBit i = true ↔ p i
theorem isL6.congr {v : Int64} {p p' : Nat → Prop} (h : isL6 v p) (e : ∀ i, p i ↔ p' i) : isL6 v p' := by
  obtain ⟨B, e1, e2, e3⟩ := h
  exact ⟨B, e1, e2, fun i => (e3 i).trans (e i)⟩
theorem isL6_0 {p : Nat → Prop} (h : ∀ i, ¬ p i) : isL6 0 p := ⟨0, rfl, by decide, fun i => by rw [Nat.zero_testBit]; exact ⟨fun c => (by cases c), fun c => absurd c (h i)⟩⟩
theorem isL6_or {v v' : Int64} {p p' : Nat → Prop} (h : isL6 v p) (h' : isL6 v' p') : isL6 (v ||| v') (fun i => p i ∨ p' i) := by
  obtain ⟨B, e1, e2, e3⟩ := h
  obtain ⟨B', f1, f2, f3⟩ := h'
  refine ⟨B ||| B', by rw [e1, f1, fb_orL], Nat.or_lt_two_pow e2 f2, fun i => ?_⟩
  rw [Nat.testBit_or, Bool.or_eq_true, e3 i, f3 i]
theorem isL6_bit {k : Nat} (hk : k < 62) : isL6 ((1 : Int64) <<< ((nI k).toInt64 &&& 63)) (fun i => i = k) := by
  refine ⟨2 ^ k, by rw [nI_l (by omega), lsh1 (by omega)], Nat.pow_lt_pow_right (by decide) hk, fun i => ?_⟩
  rw [Nat.testBit_two_pow]
  simp only [decide_eq_true_eq]
  exact eq_comm
theorem isL6_and0 {v v' : Int64} {p p' : Nat → Prop} (h : isL6 v p) (h' : isL6 v' p') : (v &&& v') = 0 ↔ ∀ i, ¬ (p i ∧ p' i) := by
  obtain ⟨B, e1, e2, e3⟩ := h
  obtain ⟨B', f1, f2, f3⟩ := h'
  have hlt : B &&& B' < 2 ^ 63 := Nat.lt_of_le_of_lt Nat.and_le_left (by omega)
  rw [e1, f1, fb_andL, show (0 : Int64) = lN 0 from rfl, fb_lN_inj hlt (by decide)]
  constructor
  · intro c i hi
    have := congrArg (fun x => x.testBit i) c
    simp only [Nat.testBit_and, Nat.zero_testBit] at this
    rw [(e3 i).mpr hi.1, (f3 i).mpr hi.2] at this
    cases this
  · intro c
    apply Nat.eq_of_testBit_eq
    intro i
    rw [Nat.testBit_and, Nat.zero_testBit, Bool.and_eq_false_iff]
    by_cases hi : B.testBit i = true
    · exact Or.inr (Bool.eq_false_iff.mpr (fun c2 => c i ⟨(e3 i).mp hi, (f3 i).mp c2⟩))
    · exact Or.inl (Bool.eq_false_iff.mpr hi)
theorem isL6_sub {v v' : Int64} {p p' : Nat → Prop} (h : isL6 v p) (h' : isL6 v' p') : (v &&& v') = v' ↔ ∀ i, p' i → p i := by
  obtain ⟨B, e1, e2, e3⟩ := h
  obtain ⟨B', f1, f2, f3⟩ := h'
  have hlt : B &&& B' < 2 ^ 63 := Nat.lt_of_le_of_lt Nat.and_le_left (by omega)
  rw [e1, f1, fb_andL, fb_lN_inj hlt (by omega)]
  constructor
  · intro c i hi
    have := congrArg (fun x => x.testBit i) c
    simp only [Nat.testBit_and] at this
    rw [(f3 i).mpr hi, Bool.and_true] at this
    exact (e3 i).mp this
  · intro c
    apply Nat.eq_of_testBit_eq
    intro i
    rw [Nat.testBit_and]
    by_cases hi : B'.testBit i = true
    · rw [hi, (e3 i).mpr (c i ((f3 i).mp hi))]; rfl
    · rw [Bool.eq_false_iff.mpr hi, Bool.and_false]
theorem isL6_ne {v : Int64} {p : Nat → Prop} (h : isL6 v p) : v ≠ -1 := by
  obtain ⟨B, e1, e2, e3⟩ := h
  intro c
  rw [e1] at c
  have := congrArg Int64.toInt c
  rw [pk_lT (by omega)] at this
  have h2 : (-1 : Int64).toInt = -1 := by decide
  rw [h2] at this
  omega
/-- bits of minutes gone by alone -/
def hB (S : hS) : Prop := ∀ i, S.2.2 i = true → i ≤ S.2.1
theorem hB_M {S : hS} (h : hB S) : hB (hM S) := by
  intro i hi
  have hi : (if i = S.2.1 + 1 then gO S.1 else S.2.2 i) = true := hi
  show i ≤ S.2.1 + 1
  by_cases e : i = S.2.1 + 1
  · omega
  · rw [if_neg e] at hi
    have := h i hi
    omega
theorem hB_I {S : hS} (h : hB S) : ∀ j, hB (hI S j)
  | 0 => h
  | j + 1 => hB_M (hB_I h j)
theorem hB_T {g z t : Nat} {kd yy : Nat → Nat} : ∀ k, hB (hT g kd yy (h0 z t) k)
  | 0 => fun i hi => by cases hi
  | k + 1 => by
    rw [hT]
    unfold hD
    by_cases k0 : kd k = 0
    · rw [if_pos k0]; exact hB_I (hB_T k) _
    · rw [if_neg k0]
      by_cases ey : yy k = g
      · rw [if_pos ey]; exact hB_T k
      · rw [if_neg ey]; exact hB_T k
/-- what one minute more adds -/
theorem hM_bits {S : hS} (h : hB S) (i : Nat) : (i ≤ 40 ∧ (hM S).2.2 i = true) ↔ ((i ≤ 40 ∧ S.2.2 i = true) ∨ (i = S.2.1 + 1 ∧ S.2.1 + 1 ≤ 40 ∧ gO S.1 = true)) := by
  show (i ≤ 40 ∧ (if i = S.2.1 + 1 then gO S.1 else S.2.2 i) = true) ↔ _
  by_cases e : i = S.2.1 + 1
  · rw [if_pos e]
    constructor
    · intro c; exact Or.inr ⟨e, by omega, c.2⟩
    · intro c
      rcases c with c | c
      · have := h i c.2; omega
      · exact ⟨by omega, c.2.2⟩
  · rw [if_neg e]
    constructor
    · exact Or.inl
    · intro c; exact c.elim id (fun c => absurd c.1 e)
theorem sp_X2_ranOutAt {Y : xg_Y} {Q : Int64 → xg_H → Prop} {h : xg_H} {nm : Nat → Nat} {r : Nat} {S : hS} (hn : inj nm) (C : XC Y h nm) (G : GL h nm 21 S.1) (K : gK r S.1) (hm : S.2.1 < 99) (q : ∀ v h', xd nm [21] h h' → GL h' nm 21 (hM S).1 → isL6 v (fun i => i = S.2.1 + 1 ∧ S.2.1 + 1 ≤ 40 ∧ gO S.1 = true) → Q v h') : wp_X2_ranOutAt Y Q (nm 20) (nI (S.2.1 + 1)) h := by
  unfold wp_X2_ranOutAt
  refine ⟨C.1, nm 21, C.2.1.1, C.2.1.2, sp_X5_passMinute hn C.2.1.2 G K (fun s e G2 => ?_)⟩
  cases ho : gO S.1 with
  | false => exact bq_t rfl (q 0 s e G2 (isL6_0 (fun i c => Bool.noConfusion (ho.symm.trans c.2.2))))
  | true =>
    refine bq_f (by decide) ?_
    by_cases g : S.2.1 + 1 ≤ 40
    · refine bq_f (nI_nlt (a := 40) g (by decide)) (q _ s e G2 ((isL6_bit (by omega)).congr (fun i => ⟨fun c => ⟨c, g, ho⟩, fun c => c.1⟩)))
    · exact bq_t (nI_lt (a := 40) (by omega) (by omega)) (q 0 s e G2 (isL6_0 (fun i c => g c.2.1)))
set_option maxHeartbeats 1000000 in
theorem sp_X2_follow {Y : xg_Y} {Q : Int64 → xg_H → Prop} {h : xg_H} {nm : Nat → Nat} {tx dx n m g tp v : Nat} {z t pr kd yy : Nat → Nat} (hn : inj nm) (X : XQ Y h nm tx dx n m z t pr kd yy) (hg : g < n) (htp : tp ≤ z g) (hv : v ≤ m) (hm99 : mn kd yy v ≤ 99) (hok : ∀ k, k < v → kd k ≠ 0 → yy k = g → gM (kd k) (hT g kd yy (h0 (z g) tp) k).1 = true) (q : ∀ b h', xd nm [21] h h' → isL6 b (fun i => i ≤ 40 ∧ RO g kd yy (z g) tp v i = true) → Q b h') : wp_X2_follow Y Q (nm 20) (nI g) (nI tp) (nI v) h := by
  have X0 := X
  obtain ⟨C, o12, o13, S, D, H⟩ := X
  have hn4 := H.1
  have hz := H.2.1 g hg
  have hm40 := D.2.2.2.2.1
  unfold wp_X2_follow
  refine ⟨C.1, fun R26 R135 R129 R60 R141 c26 c135 c129 c60 c141 => ⟨nm tx, o12, S.1, nm (tx + 10), S.2.1.1, S.2.1.2.1, ?_⟩⟩
  rw [S.2.1.2.2, nI_clamp (by omega), (S.2.2.2.2.2.1 g hg).1]
  refine ⟨vp_in_nI (by omega) (by decide), nm 21, C.2.1.1, C.2.1.2, sp_X5_put hn C.2.1.2 (fun h1 e1 g1 => ?_)⟩
  have mon : ∀ k, k ≤ v → mn kd yy k ≤ 99 := fun k hk => by
    have := mn_mono (kd := kd) (yy := yy) (i := k) (v - k)
    rw [show k + (v - k) = v by omega] at this
    omega
  have em : ∀ k, (hT g kd yy (h0 (z g) tp) k).2.1 = mn kd yy k := fun k => by rw [hT_m]; exact Nat.zero_add _
  refine lp (σ := xg_H × Int64) (R := fun k s => R26 s.2 (nI (mn kd yy k)) (nI k) s.1) (fun k s => xd nm [21] h s.1 ∧ GL s.1 nm 21 (hT g kd yy (h0 (z g) tp) k).1 ∧ gK (9 * k) (hT g kd yy (h0 (z g) tp) k).1 ∧ isL6 s.2 (fun i => i ≤ 40 ∧ (hT g kd yy (h0 (z g) tp) k).2.2 i = true)) 0 v (Nat.zero_le v) ?_ ?_ (h1, 0) ⟨e1, g1, ⟨hz.1, hz.2.1, htp, Nat.le_refl 0⟩, isL6_0 (fun i c => by cases c.2)⟩
  · rintro ⟨s, b⟩ ⟨e, G, K, hb⟩
    dsimp only at e G K hb ⊢
    refine c26 _ _ _ _ (bq_t (nI_le (Nat.le_refl v) (by omega)) (c135 _ _ _ ?_))
    rintro _ rfl
    rw [nI_1]
    -- the minutes behind the day
    by_cases g40 : mn kd yy v ≤ 40
    · refine lp (σ := xg_H × Int64) (R := fun j s2 => R141 s2.2 (nI (mn kd yy v + j + 1)) s2.1) (fun j s2 => xd nm [21] h s2.1 ∧ GL s2.1 nm 21 (hI (hT g kd yy (h0 (z g) tp) v) j).1 ∧ isL6 s2.2 (fun i => i ≤ 40 ∧ (hI (hT g kd yy (h0 (z g) tp) v) j).2.2 i = true)) 0 (40 - mn kd yy v) (Nat.zero_le _) ?_ ?_ (s, b) ⟨e, G, hb⟩
      · rintro ⟨s2, b2⟩ ⟨e2, G2, hb2⟩
        dsimp only at e2 G2 hb2 ⊢
        refine c141 _ _ _ (bq_t (nI_lt (a := 40) (by omega) (by omega)) (q b2 s2 e2 (hb2.congr (fun i => ?_))))
        have key : i ≤ 40 → RO g kd yy (z g) tp v i = (hI (hT g kd yy (h0 (z g) tp) v) (40 - mn kd yy v)).2.2 i := fun hi => by
          unfold RO
          rw [show 99 - mn kd yy v = (40 - mn kd yy v) + 59 by omega]
          exact hI_old _ _ (by rw [em]; omega)
        exact ⟨fun c => ⟨c.1, by rw [key c.1]; exact c.2⟩, fun c => ⟨c.1, by rw [← key c.1]; exact c.2⟩⟩
      · rintro j ⟨s2, b2⟩ _ hj ⟨e2, G2, hb2⟩ ih2
        dsimp only at e2 G2 hb2 ⊢
        have C2 := C.mv e2
        have e9 : (hI (hT g kd yy (h0 (z g) tp) v) j).2.1 = mn kd yy v + j := by rw [hI_m, em]
        refine c141 _ _ _ (bq_f (nI_nlt (a := 40) (by omega) (by decide)) ?_)
        rw [← e9]
        refine sp_X2_ranOutAt hn C2 G2 (hI_K K j) (by omega) (fun b3 s3 e3 G3 hb3 => ?_)
        rintro _ rfl _ rfl
        rw [nI_1, e9, show mn kd yy v + j + 1 + 1 = mn kd yy v + (j + 1) + 1 by omega]
        exact ih2 (s3, b2 ||| b3) ⟨e2.tr e3, G3, (isL6_or hb2 hb3).congr (fun i => (hM_bits (hB_I (hB_T v) j) i).symm)⟩
    · refine c141 _ _ _ (bq_t (nI_lt (a := 40) (by omega) (by omega)) (q b s e (hb.congr (fun i => ?_))))
      have key : i ≤ 40 → RO g kd yy (z g) tp v i = (hT g kd yy (h0 (z g) tp) v).2.2 i := fun hi => by
        unfold RO
        have := hI_old (S := hT g kd yy (h0 (z g) tp) v) (t := i) 0 (99 - mn kd yy v) (by rw [em]; omega)
        rw [Nat.zero_add] at this
        exact this
      exact ⟨fun c => ⟨c.1, by rw [key c.1]; exact c.2⟩, fun c => ⟨c.1, by rw [← key c.1]; exact c.2⟩⟩
  · rintro k ⟨s, b⟩ _ hk ⟨e, G, K, hb⟩ ih
    dsimp only at e G K hb ⊢
    have Xs := X0.mv e l21
    obtain ⟨Cs, os12, os13, Ss, ⟨d1, ⟨d2, dk2⟩, ⟨d3, dk3⟩, d4, d5, d6, d7, d8⟩, _⟩ := Xs
    obtain ⟨f1, f2, f3, f4⟩ := d6 k (by omega)
    have hmk := mon k (by omega)
    have hmk1 := mon (k + 1) (by omega)
    have next : ∀ s2 b2, xd nm [21] h s2 → GL s2 nm 21 (hT g kd yy (h0 (z g) tp) (k + 1)).1 → gK (9 * (k + 1)) (hT g kd yy (h0 (z g) tp) (k + 1)).1 → isL6 b2 (fun i => i ≤ 40 ∧ (hT g kd yy (h0 (z g) tp) (k + 1)).2.2 i = true) → R129 b2 (nI (mn kd yy (k + 1))) (nI k) s2 := fun s2 b2 e2 h1 h2 h3 => by
      refine c129 _ _ _ _ ?_
      rintro _ rfl
      rw [nI_1]
      exact ih (s2, b2) ⟨e2, h1, h2, h3⟩
    refine c26 _ _ _ _ (bq_f (nI_ge hk (by omega)) ⟨nm dx, os13, d1, ?_⟩)
    rw [d4]
    refine bq_f (nI_ge (by omega) (by omega)) ⟨nm (dx + 10), d2, dk2.1, ?_⟩
    rw [dk2.2, nI_clamp (by omega), f1]
    refine ⟨vp_in_nI (by omega) (by decide), ?_⟩
    by_cases k0 : kd k = 0
    · have eT : hT g kd yy (h0 (z g) tp) (k + 1) = hI (hT g kd yy (h0 (z g) tp) k) (yy k) := by rw [hT]; exact if_pos k0
      have emk : mn kd yy (k + 1) = mn kd yy k + yy k := by rw [mn, if_pos k0]
      refine bq_nf (by rw [k0]; rfl) ?_
      refine lp (σ := xg_H × Int64) (R := fun j s2 => R60 s2.2 (nI (mn kd yy k + j)) (nI k) (nI j) s2.1) (fun j s2 => xd nm [21] h s2.1 ∧ GL s2.1 nm 21 (hI (hT g kd yy (h0 (z g) tp) k) j).1 ∧ isL6 s2.2 (fun i => i ≤ 40 ∧ (hI (hT g kd yy (h0 (z g) tp) k) j).2.2 i = true)) 0 (yy k) (Nat.zero_le _) ?_ ?_ (s, b) ⟨e, G, hb⟩
      · rintro ⟨s2, b2⟩ ⟨e2, G2, hb2⟩
        dsimp only at e2 G2 hb2 ⊢
        have X2 := (X0.mv e2 l21).2.2.2.2.1
        refine c60 _ _ _ _ _ ⟨nm dx, (X0.mv e2 l21).2.2.1, X2.1, nm (dx + 20), X2.2.2.1.1, X2.2.2.1.2.1, ?_⟩
        rw [X2.2.2.1.2.2, nI_clamp (by omega), (X2.2.2.2.2.2.1 k (by omega)).2.1]
        refine ⟨vp_in_nI (by omega) (by decide), bq_t (nI_le (Nat.le_refl _) (by omega)) ?_⟩
        rw [← emk]
        exact next s2 b2 e2 (by rw [eT]; exact G2) (by rw [eT]; exact gK_mono (hI_K K (yy k)) (by omega)) (by rw [eT]; exact hb2)
      · rintro j ⟨s2, b2⟩ _ hj ⟨e2, G2, hb2⟩ ih2
        dsimp only at e2 G2 hb2 ⊢
        have X2 := (X0.mv e2 l21).2.2.2.2.1
        have C2 := (X0.mv e2 l21).1
        have e9 : (hI (hT g kd yy (h0 (z g) tp) k) j).2.1 = mn kd yy k + j := by rw [hI_m, em]
        refine c60 _ _ _ _ _ ⟨nm dx, (X0.mv e2 l21).2.2.1, X2.1, nm (dx + 20), X2.2.2.1.1, X2.2.2.1.2.1, ?_⟩
        rw [X2.2.2.1.2.2, nI_clamp (by omega), (X2.2.2.2.2.2.1 k (by omega)).2.1]
        refine ⟨vp_in_nI (by omega) (by decide), bq_f (nI_ge hj (by omega)) ?_⟩
        rintro _ rfl
        rw [nI_1, nI_1, ← e9]
        refine sp_X2_ranOutAt hn C2 G2 (hI_K K j) (by omega) (fun b3 s3 e3 G3 hb3 => ?_)
        rintro _ rfl _ rfl
        rw [e9, show mn kd yy k + j + 1 = mn kd yy k + (j + 1) by omega]
        exact ih2 (s3, b2 ||| b3) ⟨e2.tr e3, G3, (isL6_or hb2 hb3).congr (fun i => (hM_bits (hB_I (hB_T k) j) i).symm)⟩
    · have emk : mn kd yy (k + 1) = mn kd yy k := by rw [mn, if_neg k0, Nat.add_zero]
      rw [emk] at next
      refine bq_nt (fun c => k0 ((nI_eq (b := 0) (by omega) (by decide)).mp c)) ⟨nm (dx + 20), d3, dk3.1, ?_⟩
      rw [dk3.2, f2]
      refine ⟨vp_in_nI (by omega) (by decide), ?_⟩
      by_cases ey : yy k = g
      · have eT : hT g kd yy (h0 (z g) tp) (k + 1) = (gA (kd k) (hT g kd yy (h0 (z g) tp) k).1, (hT g kd yy (h0 (z g) tp) k).2) := by rw [hT]; unfold hD; rw [if_neg k0, if_pos ey]
        refine bq_nf (by rw [ey]) ⟨vp_in_nI (by omega) (by decide), nm 21, Cs.2.1.1, Cs.2.1.2, sp_X5_act hn Cs.2.1.2 G K f3 (fun s2 e2 G2 => next s2 b (e.tr e2) ?_ ?_ ?_)⟩
        · rw [eT]; exact G2
        · rw [eT]; exact gK_mono (gA_K K (hok k hk k0 ey)) (by omega)
        · rw [eT]; exact hb
      · have eT : hT g kd yy (h0 (z g) tp) (k + 1) = hT g kd yy (h0 (z g) tp) k := by rw [hT]; unfold hD; rw [if_neg k0, if_neg ey]
        exact bq_nt (fun c => ey ((nI_eq (by omega) (by omega)).mp c)) (next s b e (by rw [eT]; exact G) (by rw [eT]; exact gK_mono K (by omega)) (by rw [eT]; exact hb))
/-- what is known of the minutes -/
def RA (h : xg_H) (nm : Nat → Nat) (n : Nat) (z kd yy : Nat → Nat) : Prop := ∀ g tp v, g < n → tp ≤ z g → v ≤ 40 → xg_l h (nm 24) ((g * 8 + tp) * 41 + v) = -1 ∨ isL6 (xg_l h (nm 24) ((g * 8 + tp) * 41 + v)) (fun i => i ≤ 40 ∧ RO g kd yy (z g) tp v i = true)
theorem RA.mv {h h2 : xg_H} {nm : Nat → Nat} {n : Nat} {z kd yy : Nat → Nat} {L : List Nat} (a : RA h nm n z kd yy) (e : xd nm L h h2) (hL : 24 ∉ L) : RA h2 nm n z kd yy := fun g tp v h1 h2' h3 => by
  rw [(e.1 24 hL _).2]
  exact a g tp v h1 h2' h3
theorem sp_X2_ranMinutes {Y : xg_Y} {Q : Int64 → xg_H → Prop} {h : xg_H} {nm : Nat → Nat} {tx dx n m g tp v : Nat} {z t pr kd yy : Nat → Nat} (hn : inj nm) (X : XQ Y h nm tx dx n m z t pr kd yy) (A : RA h nm n z kd yy) (hg : g < n) (htp : tp ≤ z g) (hv : v ≤ m) (hm99 : mn kd yy v ≤ 99) (hok : ∀ k, k < v → kd k ≠ 0 → yy k = g → gM (kd k) (hT g kd yy (h0 (z g) tp) k).1 = true) (q : ∀ b h', xd nm [21, 24] h h' → RA h' nm n z kd yy → isL6 b (fun i => i ≤ 40 ∧ RO g kd yy (z g) tp v i = true) → Q b h') : wp_X2_ranMinutes Y Q (nm 20) (nI g) (nI tp) (nI v) h := by
  have C := X.1
  have H := X.2.2.2.2.2
  have hn4 := H.1
  have hz := H.2.1 g hg
  have hm40 := X.2.2.2.2.1.2.2.2.2.1
  obtain ⟨_, _, _, _, ⟨o5, k24⟩, _⟩ := C
  unfold wp_X2_ranMinutes
  refine ⟨X.1.1, fun R58 c58 => ?_⟩
  rw [nl_8, pk_mul, nI_add, nl_41, pk_mul, nI_add]
  rintro _ rfl
  have hi : (g * 8 + tp) * 41 + v < 1312 := by omega
  refine bq_f (nI_pos (by omega)) ⟨nm 24, o5, k24.1, ?_⟩
  rw [k24.2, nI_clamp (by omega)]
  refine bq_t (nI_lt (b := 1312) hi (by decide)) ⟨vp_in_nI hi (by decide), ?_⟩
  have done : ∀ s, xd nm [21, 24] h s → RA s nm n z kd yy → isL6 (xg_l s (nm 24) ((g * 8 + tp) * 41 + v)) (fun i => i ≤ 40 ∧ RO g kd yy (z g) tp v i = true) → R58 (nI ((g * 8 + tp) * 41 + v)) s := fun s e A2 b => by
    refine c58 _ _ ⟨nm 24, (e.2 _ _).trans o5, k24.1, ?_⟩
    rw [k24.2, nI_clamp (by omega)]
    exact ⟨vp_in_nI hi (by decide), q _ s e A2 b⟩
  rcases A g tp v hg htp (by omega) with c | c
  · refine bq_nf ((lg_cmp_eq _ _).mpr c) (sp_X2_follow hn X hg htp hv hm99 hok (fun b s e hb => ⟨vp_in_nI hi (by decide), ?_⟩))
    rintro _ rfl
    have A2 := A.mv e (by decide)
    refine done _ (xd.ul hn (e.mono (by simp)) (by simp)) (fun g' tp' v' h1 h2 h3 => ?_) ?_
    · rw [xv hn]
      by_cases ee : (24 : Nat) = 24 ∧ (g' * 8 + tp') * 41 + v' = (g * 8 + tp) * 41 + v
      · have hz' := H.2.1 g' h1
        have e1 : g' = g := by omega
        subst e1
        have e2 : tp' = tp := by omega
        subst e2
        have e3 : v' = v := by omega
        subst e3
        rw [if_pos ⟨rfl, rfl⟩]
        exact Or.inr hb
      · rw [if_neg ee]; exact A2 g' tp' v' h1 h2 h3
    · rw [xv hn, if_pos ⟨rfl, rfl⟩]; exact hb
  · exact bq_nt (fun c2 => isL6_ne c ((lg_cmp_eq _ _).mp c2)) (done h xd.rf A c)
