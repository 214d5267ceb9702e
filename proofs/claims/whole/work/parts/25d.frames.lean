/-! image and again, both sides -/
theorem cpa_1 {g : mg_H} {f t : Nat} (hft : f ≠ t) (j : Nat) : mg_i (mp_cpa g f t) 1 j = if 600 * t ≤ j ∧ j < 600 * t + 600 then vp_nar .byte (mg_i g 1 (600 * f + (j - 600 * t))) else mg_i g 1 j := by
  simp only [mp_cpa, mp_cpr_i hft _ (Nat.le_refl _), mp_cpt_i hft 600 (Nat.le_refl _), Nat.reduceEqDiff, false_and, if_false, true_and]
theorem cpa_2 {g : mg_H} {f t : Nat} (hft : f ≠ t) (j : Nat) : mg_i (mp_cpa g f t) 2 j = if 1 * t ≤ j ∧ j < 1 * t + 1 then mg_i g 2 (1 * f + (j - 1 * t)) else mg_i g 2 j := by
  simp only [mp_cpa, mp_cpr_i hft _ (Nat.le_refl _), mp_cpt_i hft 600 (Nat.le_refl _), Nat.reduceEqDiff, false_and, if_false, true_and]
theorem cpa_3 {g : mg_H} {f t : Nat} (hft : f ≠ t) (j : Nat) : mg_i (mp_cpa g f t) 3 j = if 1 * t ≤ j ∧ j < 1 * t + 1 then mg_i g 3 (1 * f + (j - 1 * t)) else mg_i g 3 j := by
  simp only [mp_cpa, mp_cpr_i hft _ (Nat.le_refl _), mp_cpt_i hft 600 (Nat.le_refl _), Nat.reduceEqDiff, false_and, if_false, true_and]
theorem cpa_4 {g : mg_H} {f t : Nat} (hft : f ≠ t) (j : Nat) : mg_i (mp_cpa g f t) 4 j = if 1 * t ≤ j ∧ j < 1 * t + 1 then mg_i g 4 (1 * f + (j - 1 * t)) else mg_i g 4 j := by
  simp only [mp_cpa, mp_cpr_i hft _ (Nat.le_refl _), mp_cpt_i hft 600 (Nat.le_refl _), Nat.reduceEqDiff, false_and, if_false, true_and]
theorem cpa_5 {g : mg_H} {f t : Nat} (hft : f ≠ t) (j : Nat) : mg_i (mp_cpa g f t) 5 j = if 4 * t ≤ j ∧ j < 4 * t + 4 then mg_i g 5 (4 * f + (j - 4 * t)) else mg_i g 5 j := by
  simp only [mp_cpa, mp_cpr_i hft _ (Nat.le_refl _), mp_cpt_i hft 600 (Nat.le_refl _), Nat.reduceEqDiff, false_and, if_false, true_and]
theorem cpa_6 {g : mg_H} {f t : Nat} (hft : f ≠ t) (j : Nat) : mg_i (mp_cpa g f t) 6 j = if 26 * t ≤ j ∧ j < 26 * t + 26 then mg_i g 6 (26 * f + (j - 26 * t)) else mg_i g 6 j := by
  simp only [mp_cpa, mp_cpr_i hft _ (Nat.le_refl _), mp_cpt_i hft 600 (Nat.le_refl _), Nat.reduceEqDiff, false_and, if_false, true_and]
theorem cpa_7 {g : mg_H} {f t : Nat} (hft : f ≠ t) (j : Nat) : mg_i (mp_cpa g f t) 7 j = if 162 * t ≤ j ∧ j < 162 * t + 162 then mg_i g 7 (162 * f + (j - 162 * t)) else mg_i g 7 j := by
  simp only [mp_cpa, mp_cpr_i hft _ (Nat.le_refl _), mp_cpt_i hft 600 (Nat.le_refl _), Nat.reduceEqDiff, false_and, if_false, true_and]
theorem cpa_8 {g : mg_H} {f t : Nat} (hft : f ≠ t) (j : Nat) : mg_i (mp_cpa g f t) 8 j = if 34 * t ≤ j ∧ j < 34 * t + 34 then mg_i g 8 (34 * f + (j - 34 * t)) else mg_i g 8 j := by
  simp only [mp_cpa, mp_cpr_i hft _ (Nat.le_refl _), mp_cpt_i hft 600 (Nat.le_refl _), Nat.reduceEqDiff, false_and, if_false, true_and]
theorem cpa_9 {g : mg_H} {f t : Nat} (hft : f ≠ t) (j : Nat) : mg_i (mp_cpa g f t) 9 j = if 14 * t ≤ j ∧ j < 14 * t + 14 then mg_i g 9 (14 * f + (j - 14 * t)) else mg_i g 9 j := by
  simp only [mp_cpa, mp_cpr_i hft _ (Nat.le_refl _), mp_cpt_i hft 600 (Nat.le_refl _), Nat.reduceEqDiff, false_and, if_false, true_and]
theorem cpa_60 {g : mg_H} {f t : Nat} (hft : f ≠ t) (j : Nat) : mg_i (mp_cpa g f t) 60 j = mg_i g 60 j := by
  simp only [mp_cpa, mp_cpr_i hft _ (Nat.le_refl _), mp_cpt_i hft 600 (Nat.le_refl _), Nat.reduceEqDiff, false_and, if_false, true_and]
theorem cpa_c {g : mg_H} {f t : Nat} (hft : f ≠ t) {c : Nat} (h2 : 2 ≤ c) (h9 : c ≤ 9) (j : Nat) : mg_i (mp_cpa g f t) c j = if rsz c * t ≤ j ∧ j < rsz c * t + rsz c then mg_i g c (rsz c * f + (j - rsz c * t)) else mg_i g c j := by
  rcases (show c = 2 ∨ c = 3 ∨ c = 4 ∨ c = 5 ∨ c = 6 ∨ c = 7 ∨ c = 8 ∨ c = 9 by omega) with e | e | e | e | e | e | e | e <;> rw [e]
  · exact cpa_2 hft j
  · exact cpa_3 hft j
  · exact cpa_4 hft j
  · exact cpa_5 hft j
  · exact cpa_6 hft j
  · exact cpa_7 hft j
  · exact cpa_8 hft j
  · exact cpa_9 hft j
/-- the frame that is written holds what the other held -/
theorem cpa_t {g : mg_H} {f t : Nat} (hft : f ≠ t) : agB (fun c j => mg_i g c (rsz c * f + j)) (fun c j => mg_i (mp_cpa g f t) c (rsz c * t + j)) := by
  refine ⟨fun j hj => ?_, fun c h2 h9 j hj => ?_⟩
  · show mg_i (mp_cpa g f t) 1 (600 * t + j) &&& 255 = mg_i g 1 (600 * f + j) &&& 255
    rw [cpa_1 hft, if_pos ⟨by omega, by omega⟩, bt_nar, show 600 * t + j - 600 * t = j by omega]
  · show mg_i (mp_cpa g f t) c (rsz c * t + j) = mg_i g c (rsz c * f + j)
    rw [cpa_c hft h2 h9, if_pos ⟨by omega, by omega⟩, show rsz c * t + j - rsz c * t = j by omega]
/-- the others stand -/
theorem cpa_u {g : mg_H} {f t u : Nat} (hft : f ≠ t) (hu : u ≠ t) : agB (fun c j => mg_i g c (rsz c * u + j)) (fun c j => mg_i (mp_cpa g f t) c (rsz c * u + j)) := by
  refine ⟨fun j hj => ?_, fun c h2 h9 j hj => ?_⟩
  · show mg_i (mp_cpa g f t) 1 (600 * u + j) &&& 255 = mg_i g 1 (600 * u + j) &&& 255
    have := mp_mul (n := 600) hu
    rw [cpa_1 hft, if_neg (fun c => by omega)]
  · show mg_i (mp_cpa g f t) c (rsz c * u + j) = mg_i g c (rsz c * u + j)
    have := mp_mul (n := rsz c) hu
    rw [cpa_c hft h2 h9, if_neg (fun c => by omega)]
theorem agB.tr {p p2 p3 : Nat → Nat → Int32} (a : agB p p2) (b : agB p2 p3) : agB p p3 := ⟨fun j hj => (b.1 j hj).trans (a.1 j hj), fun c h2 h9 j hj => (b.2 c h2 h9 j hj).trans (a.2 c h2 h9 j hj)⟩
theorem fr_0 {g : mg_H} : (fun c j => mg_i g c (rsz c * 0 + j)) = mg_i g := by
  funext c j
  rw [Nat.mul_zero, Nat.zero_add]
theorem lw_30 {X : lg_X} {a : Nat} {R : Int32 → Nat → Nat → xg_Y → xg_H → mg_H → Prop} {y3 : Int32} {k n : Nat} {Y : xg_Y} {h : xg_H} {g : mg_H} {nm b : Nat → Nat} {sv : Nat → Bool} (V : IVx a k n Y h g nm b sv) (hv : vps X y3) (ih : ∀ k n Y h g, INV a k n Y h g → R (y3 + 6) k n Y h g) : wp_law_30 X a R y3 k n Y h g := by
  obtain ⟨w1, w2, w3, w4, w5⟩ := hv
  have C := V.2.1
  have hn := C.1
  have rm := IV_room V
  have fl := V.2.2.2.2.1
  unfold wp_law_30
  refine ⟨w1, IV_is V, rm, ?_⟩
  generalize lg_xs X (y3 + 1).toNatClampNeg = x1
  rw [← V.1]
  have hr : ∀ i, i < 3 → ¬ (x1 < 0 ∨ 2 < x1) ∨ x1 ≠ nI i := fun i hi => by
    by_cases e : x1 = nI i
    · refine Or.inl (fun c => ?_)
      rw [e] at c
      exact c.elim (nI_pos (by omega)) (nI_nlt (a := 2) (by omega) (by decide))
    · exact Or.inr e
  refine sp_X11_again (sv := sv) hn C.2.1.1 C.2.1.2.1 C.2.1.2.2.1.1 C.2.1.2.2.1.2 (fun i hi => ?_) C.2.2.1.1 (fun i hi ei si h' e D => ⟨w1, rm, sp_again (fun i' hi' ei' _ => lfin rfl (ih _ _ _ _ _ ?_)) (fun i' hi' ei' hz => ?_) (fun c => ?_)⟩) (fun hno => ⟨w1, rm, sp_again (fun i hi ei hz => ?_) (fun i hi ei _ => lfin rfl (ih _ _ _ _ _ (IV_q0 V C rz_s))) (fun c => lfin rfl (ih _ _ _ _ _ (IV_q0 V C rz_s)))⟩)
  · rcases C.2.2.2.2.2.1 i hi with ⟨s, o⟩ | ⟨s, o, T, _⟩
    · exact ⟨fun c => absurd (s.symm.trans c) (by decide), fun _ => o⟩
    · exact ⟨fun _ => ⟨o, T⟩, fun c => absurd (s.symm.trans c) (by decide)⟩
  · have ii : i' = i := (nI_eq (by omega) (by omega)).mp (ei'.symm.trans ei)
    rw [ii]
    have RI : REL h nm (200 + 100 * i) (pkf g i) := by
      rcases C.2.2.2.2.2.1 i hi with ⟨s, _⟩ | ⟨_, _, _, RR⟩
      · exact absurd (s.symm.trans si) (by decide)
      · exact RR
    have R1 : REL h' nm 100 (pkf g i) := D.rel RI
    have C1 := CW_told C (fun c j _ => e.2 c j) (fun c hc j => e.1 c (by omega) j) R1
    have a0 : agB (pkf g i) (mg_i (mp_cpa (mg_ui g 0 0 0) (i + 1) 0)) := by
      have := cpa_t (g := mg_ui g 0 0 0) (f := i + 1) (t := 0) (by omega)
      rw [fr_0] at this
      exact (agB_k rz_s).tr this
    have ak : ∀ u, agB (pkf g u) (pkf (mp_cpa (mg_ui g 0 0 0) (i + 1) 0) u) := fun u => (agB_k rz_s).tr (cpa_u (g := mg_ui g 0 0 0) (f := i + 1) (t := 0) (u := u + 1) (by omega) (by omega))
    exact IV_t V (CW_p C1 a0 (fun _ _ _ => agB.rf)) (VAL_b a0 (V.2.2.2.1 i hi si)) (fun u _ => ak u) (fun u _ => (cpa_60 (by omega) u).trans (mi_cell (by decide)))
  · have ii : i' = i := (nI_eq (by omega) (by omega)).mp (ei'.symm.trans ei)
    rw [ii, fl i hi, if_pos si] at hz
    exact absurd hz (by decide)
  · exact absurd c ((hr i hi).elim id (fun c => absurd ei c))
  · have := hno i hi ei
    rw [fl i hi, this] at hz
    exact absurd rfl hz
theorem ag60 {g : mg_H} {i : Nat} {v : Int32} : agB (mg_i g) (mg_i (mg_ui g 60 i v)) := ⟨fun j _ => by rw [mi_cell (by decide)], fun c h2 h9 j _ => mi_cell (by omega)⟩
theorem ag60k {g : mg_H} {i u : Nat} {v : Int32} : agB (pkf g u) (pkf (mg_ui g 60 i v) u) := ⟨fun j _ => by unfold pkf; rw [mi_cell (by decide)], fun c h2 h9 j _ => mi_cell (by omega)⟩
def upS (sv : Nat → Bool) (i : Nat) : Nat → Bool := fun j => if j = i then true else sv j
theorem upS_at {sv : Nat → Bool} {i : Nat} : upS sv i i = true := if_pos rfl
theorem upS_no {sv : Nat → Bool} {i j : Nat} (h : j ≠ i) : upS sv i j = sv j := if_neg h
theorem cnI_up {sv : Nat → Bool} {i : Nat} (hi : i < 3) : cnI (upS sv i) = cnI sv + (if sv i = true then 0 else 1) := by
  unfold cnI
  rcases (show i = 0 ∨ i = 1 ∨ i = 2 by omega) with e | e | e <;> rw [e]
  · rw [upS_at, upS_no (by decide), upS_no (by decide)]
    cases sv 0 <;> simp [bN] <;> omega
  · rw [upS_at, upS_no (by decide), upS_no (by decide)]
    cases sv 1 <;> simp [bN] <;> omega
  · rw [upS_at, upS_no (by decide), upS_no (by decide)]
    cases sv 2 <;> simp [bN] <;> omega
/-- what lives, but for the row of images -/
def PIm (sv : Nat → Bool) (b : Nat → Nat) (d : Nat) : Prop := PV0 d ∨ d = 41 ∨ (∃ j, j < 3 ∧ sv j = true ∧ DT (200 + 100 * j) 8 d) ∨ (∃ j, j < 2 ∧ 0 < b j ∧ BNs (500 + 100 * j) d)
theorem pv_lt {d : Nat} (h : PV0 d) : d < 150 ∧ d ≠ 40 ∧ d ≠ 41 := by
  rcases h with e | e | e | e | e | e | e
  · omega
  · omega
  · omega
  · omega
  · omega
  · unfold PRd at e; omega
  · have := dt_ge e; omega
set_option maxHeartbeats 2000000 in
theorem lw_29 {X : lg_X} {a : Nat} {R : Int32 → Nat → Nat → xg_Y → xg_H → mg_H → Prop} {y3 : Int32} {k n : Nat} {Y : xg_Y} {h : xg_H} {g : mg_H} {nm b : Nat → Nat} {sv : Nat → Bool} (V : IVx a k n Y h g nm b sv) (hv : vps X y3) (ih : ∀ k n Y h g, INV a k n Y h g → R (y3 + 6) k n Y h g) : wp_law_29 X a R y3 k n Y h g := by
  obtain ⟨w1, w2, w3, w4, w5⟩ := hv
  have C := V.2.1
  have hn := C.1
  have rm := IV_room V
  obtain ⟨v0, _, vV, vI, vF, vb, vk, vn⟩ := V
  have V := And.intro v0 (And.intro C (And.intro vV (And.intro vI (And.intro vF (And.intro vb (And.intro vk vn))))))
  unfold wp_law_29
  refine ⟨w1, IV_is V, ?_⟩
  generalize lg_xs X (y3 + 1).toNatClampNeg = x1
  rw [← v0]
  have room : ∃ mc ms : Nat, (∀ i, i < 3 → x1 = nI i → sv i = false → 36 ≤ mc ∧ 890 ≤ ms) ∧ (∀ i, i < 3 → x1 = nI i → k + mc ≤ rmC b (upS sv i) ∧ n + ms ≤ rmS b (upS sv i)) ∧ ((∀ i, i < 3 → ¬ x1 = nI i) → mc = 0 ∧ ms = 0) ∧ (k + mc ≤ 600000 ∧ n + ms ≤ 7302250) := by
    by_cases hex : ∃ i, i < 3 ∧ x1 = nI i ∧ sv i = false
    · obtain ⟨i, hi, ei, si⟩ := hex
      have key : ∀ i', i' < 3 → x1 = nI i' → k + 36 ≤ rmC b (upS sv i') ∧ n + 890 ≤ rmS b (upS sv i') := fun i' hi' ei' => by
        have ii : i' = i := (nI_eq (by omega) (by omega)).mp (ei'.symm.trans ei)
        have hc := cnI_up (sv := sv) hi
        rw [si] at hc
        simp at hc
        rw [ii]
        unfold rmC rmS at *
        rw [hc]
        omega
      refine ⟨36, 890, fun _ _ _ _ => ⟨Nat.le_refl _, Nat.le_refl _⟩, key, fun c => absurd ei (c i hi), ?_⟩
      have := key i hi ei
      have := rm_le (sv := upS sv i) vb
      omega
    · refine ⟨0, 0, fun i hi ei si => absurd ⟨i, hi, ei, si⟩ hex, fun i hi ei => ?_, fun _ => ⟨rfl, rfl⟩, rm⟩
      have hc := cnI_up (sv := sv) hi
      unfold rmC rmS at *
      rw [hc]
      omega
  obtain ⟨mc, ms, hM, hR, h0, hX⟩ := room
  refine ⟨mc, ms, hX, ?_⟩
  have lI : liv (fun d => PIm sv b d ∨ d = 40) nm Y := by
    rintro d ((hd | hd | ⟨j, hj, sj, hd⟩ | ⟨j, hj, bj, hd⟩) | hd)
    · exact CW_liv0 C d hd
    · rw [hd]; exact C.2.1.2.2.2.2.2.2.2.2.2.1.1
    · rcases C.2.2.2.2.2.1 j hj with ⟨e, _⟩ | ⟨_, _, T, _⟩
      · rw [e] at sj; cases sj
      · exact TLd_liv T hd
    · rcases C.2.2.2.2.2.2 j hj with ⟨e, _⟩ | ⟨g', _, _, L⟩
      · omega
      · exact LB_liv L.2.1 hd
    · rw [hd]; exact C.2.1.2.2.1.2.1.1
  have hP1 : ∀ d, DT 100 8 d → PIm sv b d := fun d hd => Or.inl (Or.inr (Or.inr (Or.inr (Or.inr (Or.inr (Or.inr hd))))))
  have hP4 : ¬ PIm sv b 40 := by
    rintro (hd | hd | ⟨j, hj, sj, hd⟩ | ⟨j, hj, bj, hd⟩)
    · exact (pv_lt hd).2.1 rfl
    · omega
    · have := dt_ge hd; omega
    · unfold BNs at hd; omega
  refine sp_X11_image (P := PIm sv b) (sv := sv) hn lI C.2.1.1 C.2.1.2.1 C.2.1.2.2.1.1 C.2.1.2.2.1.2 (fun i hi => ?_) C.2.2.1.1 (Or.inl (Or.inl rfl)) hP1 hP4 hM (fun i nm' Y' h2 h' hi ei i' G e40 x40 o40 T2 T1 e D => ⟨w1, hX, ?_⟩) (fun hno => ⟨w1, hX, ?_⟩)
  · rcases C.2.2.2.2.2.1 i hi with ⟨s, o⟩ | ⟨s, o, T, _⟩
    · refine ⟨fun c => absurd (s.symm.trans c) (by decide), fun _ => ⟨o, fun d hd c => ?_⟩⟩
      have d1 := dt_ge hd
      rcases c with hd | hd | ⟨j, hj, sj, hd⟩ | ⟨j, hj, bj, hd⟩
      · have := pv_lt hd; omega
      · omega
      · have d2 := dt_ge hd
        have : j = i := by omega
        rw [this, s] at sj
        cases sj
      · unfold BNs at hd; omega
    · exact ⟨fun _ => ⟨o, T⟩, fun c => absurd (s.symm.trans c) (by decide)⟩
  · -- the image is taken
    have gx : gro (fun d => PIm sv b d ∧ ¬ (200 + 100 * i ≤ d ∧ d < 200 + 100 * i + 50)) nm' Y' h2 nm' Y' h' := fun d hd => by
      refine ⟨rfl, gro_liv G d hd.1, fun _ x => x, rfl, fun j => ⟨(e.1 d hd.2 j).1, (e.1 d hd.2 j).2, e.2 d j⟩⟩
    have g' : gro (fun d => PIm sv b d ∧ ¬ (200 + 100 * i ≤ d ∧ d < 200 + 100 * i + 50)) nm Y h nm' Y' h' := (G.sub (fun d hd => hd.1)).tr gx
    have pv : ∀ d, PV0 d → PIm sv b d ∧ ¬ (200 + 100 * i ≤ d ∧ d < 200 + 100 * i + 50) := fun d hd => ⟨Or.inl hd, by have := pv_lt hd; omega⟩
    have p41 : PIm sv b 41 ∧ ¬ (200 + 100 * i ≤ 41 ∧ 41 < 200 + 100 * i + 50) := ⟨Or.inr (Or.inl rfl), by omega⟩
    have vi : ∀ d, (PIm sv b d ∧ ¬ (200 + 100 * i ≤ d ∧ d < 200 + 100 * i + 50)) → ∀ j, xg_i h' (nm' d) j = xg_i h (nm d) j ∧ xg_l h' (nm' d) j = xg_l h (nm d) j := fun d hd j => by
      rw [(g' d hd).1]; exact ⟨((g' d hd).2.2.2.2 j).1, ((g' d hd).2.2.2.2 j).2.1⟩
    have R2 : REL h2 nm' 100 (mg_i g) := REL_v (fun d hd j => by rw [(G d (hP1 d hd)).1]; exact ((G d (hP1 d hd)).2.2.2.2 j).1) C.2.2.1.2
    have CN : CW Y' h' nm' (mg_i g) (fun j => if j = i then mg_i g else pkf g j) (upS sv i) b := by
      refine CW_a C i' g' pv ⟨e40, x40⟩ ⟨(g' 41 p41).1, gro_xk g' p41 C.2.1.2.2.2.2.2.2.2.2.2⟩ (fun j hj => ?_) (fun j hj => ?_)
      · by_cases ej : j = i
        · rw [ej]
          show IM Y' h' nm' i (upS sv i i) (if i = i then mg_i g else pkf g i)
          rw [if_pos rfl]
          refine Or.inr ⟨upS_at, (e.2 40 i).trans ((o40 i).trans (if_pos rfl)), TLd_s (by omega) (grs_n (Y := Y') (fun c j _ => e.2 c j)) (fun _ _ => trivial) T2, D.rel R2⟩
        · show IM Y' h' nm' j (upS sv i j) (if j = i then mg_i g else pkf g j)
          rw [if_neg ej, upS_no ej]
          refine IM_s (grs_g g') e40 ?_ (fun s d hd => ⟨Or.inr (Or.inr (Or.inl ⟨j, hj, s, hd⟩)), by have := dt_ge hd; omega⟩) (fun s d hd q => (vi d ⟨Or.inr (Or.inr (Or.inl ⟨j, hj, s, hd⟩)), by have := dt_ge hd; omega⟩ q).1) (C.2.2.2.2.2.1 j hj)
          rw [← e40, e.2, o40, if_neg ej, e40]
      · exact BK_s (grs_g g') (g' 41 p41).1 ((g' 41 p41).2.2.2.2 j).2.2 (fun bj d hd => ⟨Or.inr (Or.inr (Or.inr ⟨j, hj, bj, hd⟩)), by unfold BNs at hd; omega⟩) (pv 30 (Or.inr (Or.inr (Or.inr (Or.inl (by decide)))))) (fun bj d hd q => vi d ⟨Or.inr (Or.inr (Or.inr ⟨j, hj, bj, hd⟩)), by unfold BNs at hd; omega⟩ q) (C.2.2.2.2.2.2 j hj)
    refine sp_image (fun i2 hi2 ei2 => lfin rfl (ih _ _ _ _ _ ?_)) (fun c => ?_)
    · have ii : i2 = i := (nI_eq (by omega) (by omega)).mp (ei2.symm.trans ei)
      rw [ii]
      have u0 : agB (mg_i g) (mg_i (mp_cpa (mg_ui g 0 0 0) 0 (i + 1))) := by
        have := cpa_u (g := mg_ui g 0 0 0) (f := 0) (t := i + 1) (u := 0) (by omega) (by omega)
        rw [fr_0, fr_0] at this
        exact (agB_s rz_s).tr this
      have ui : agB (mg_i g) (pkf (mp_cpa (mg_ui g 0 0 0) 0 (i + 1)) i) := by
        have := cpa_t (g := mg_ui g 0 0 0) (f := 0) (t := i + 1) (by omega)
        rw [fr_0] at this
        exact (agB_s rz_s).tr this
      have uj : ∀ j, j ≠ i → agB (pkf g j) (pkf (mp_cpa (mg_ui g 0 0 0) 0 (i + 1)) j) := fun j hj => (agB_k rz_s).tr (cpa_u (g := mg_ui g 0 0 0) (f := 0) (t := i + 1) (u := j + 1) (by omega) (by omega))
      refine ⟨nm', b, upS sv i, ((g' 0 (pv 0 (Or.inl rfl))).1).trans v0, CW_p CN (u0.tr ag60) (fun j hj _ => ?_), VAL_b (u0.tr ag60) vV, fun j hj sj => ?_, fun j hj => ?_, vb, hR i hi ei⟩
      · show agB (if j = i then mg_i g else pkf g j) _
        by_cases ej : j = i
        · rw [if_pos ej, ej]; exact ui.tr ag60k
        · rw [if_neg ej]; exact (uj j ej).tr ag60k
      · by_cases ej : j = i
        · rw [ej]; exact VAL_b (ui.tr ag60k) vV
        · rw [upS_no ej] at sj
          exact VAL_b ((uj j ej).tr ag60k) (vI j hj sj)
      · by_cases ej : j = i
        · rw [ej, mi_same, if_pos upS_at]
        · rw [mi_place ej, upS_no ej, cpa_60 (by omega), mi_cell (by decide)]
          exact vF j hj
    · rw [ei] at c
      exact absurd c (fun c => c.elim (nI_pos (by omega)) (nI_nlt (a := 2) (by omega) (by decide)))
  · refine sp_image (fun i2 hi2 ei2 => absurd ei2 (hno i2 hi2)) (fun _ => lfin rfl (ih _ _ _ _ _ ?_))
    obtain ⟨m1, m2⟩ := h0 hno
    rw [m1, m2]
    exact IV_q1 V rz_s
