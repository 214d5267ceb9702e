/-! the class: Reader: lines -/
def MD (nm : Nat → Nat) (h s : xg_H) : Prop := xd nm [50, 53] h s ∧ xg_i s (nm 50) 6 = xg_i h (nm 50) 6 ∧ xg_i s (nm 50) 8 = xg_i h (nm 50) 8 ∧ xg_i s (nm 50) 10 = xg_i h (nm 50) 10
theorem MD.st {nm : Nat → Nat} {h s s2 : xg_H} {M : List Nat} (a : MD nm h s) (e : xd nm M s s2) (hM : ∀ c ∈ M, c ∈ [50, 53]) (k6 : xg_i s2 (nm 50) 6 = xg_i s (nm 50) 6) (k8 : xg_i s2 (nm 50) 8 = xg_i s (nm 50) 8) (k10 : xg_i s2 (nm 50) 10 = xg_i s (nm 50) 10) : MD nm h s2 := ⟨a.1.tr (e.mono hM), k6.trans a.2.1, k8.trans a.2.2.1, k10.trans a.2.2.2⟩
theorem MD.T {Y : xg_Y} {nm : Nat → Nat} {h s : xg_H} {L : Nat} {f : Nat → Nat} (a : MD nm h s) (T : XT Y h nm L f) : XT Y s nm L f := T.mv a.1 (by decide) a.2.1
theorem MD.D {nm : Nat → Nat} {h s : xg_H} {t n : Nat} {D : dS} (a : MD nm h s) (d : RD h nm t n D) : RD s nm t n D := ⟨a.2.2.2.trans d.1, d.2.1, fun g hg => (a.1.i 52 (by decide) g).trans (d.2.2.1 g hg), fun q hq => ⟨(a.1.i (70 + t) (by simp <;> omega) q).trans (d.2.2.2 q hq).1, (a.1.i (80 + t) (by simp <;> omega) q).trans (d.2.2.2 q hq).2⟩⟩
set_option maxHeartbeats 1000000 in
theorem sp_X6_readLine {Y : xg_Y} {Q : xg_H → Prop} {h : xg_H} {nm : Nat → Nat} {L p s n : Nat} {f : Nat → Nat} {u : fS} {D : dS} (hn : inj nm) (R : XR Y h nm) (T : XT Y h nm L f) (hp : xg_i h (nm 50) 7 = nI p) (hpL : p ≤ L) (hs : s < 4) (h8 : xg_i h (nm 50) 8 = nI s) (h9 : xg_i h (nm 50) 9 = nI n) (hn9 : n < 1000) (F : FT h nm u) (d : u.1 = 0 → RD h nm s n D)
    (qb : ∀ h' b m, lBr f L s p = some b → b ≤ L → xd nm (lR s) h h' → xg_i h' (nm 50) 6 = xg_i h (nm 50) 6 → xg_i h' (nm 50) 8 = xg_i h (nm 50) 8 → xg_i h' (nm 50) 7 = nI b → m ≤ n + 1 → xg_i h' (nm 50) 9 = nI m → FT h' nm (1, b) → Q h')
    (qk : ∀ h', lBr f L s p = none → xd nm (lR s) h h' → xg_i h' (nm 50) 6 = xg_i h (nm 50) 6 → xg_i h' (nm 50) 8 = xg_i h (nm 50) 8 → xg_i h' (nm 50) 7 = nI (lP3 f L (lW f L s p) p + 1) → xg_i h' (nm 50) 9 = nI (lnN (lW f L s p) n) → FT h' nm (lUw f L s (lW f L s p) p n u) → ((lUw f L s (lW f L s p) p n u).1 = 0 → RD h' nm s (lnN (lW f L s p) n) (tkD s (lW f L s p) n (lV0 f L p) (lV1 f L p) D)) → Q h') : wp_X6_readLine Y Q (nm 50) h := by
  have tL := T.2.2.2.1
  have k6 := R.1
  have lm := lR_m (s := s)
  have sub : ∀ c ∈ [50, 53], c ∈ lR s := fun c hc => by
    rcases List.mem_cons.mp hc with e | e
    · rw [e]; exact lm.1
    · rw [List.mem_singleton.mp e]; exact lm.2.2.1
  unfold wp_X6_readLine
  refine ⟨k6, fun R54 R68 R126 c54 c68 c126 => ?_⟩
  have brk : ∀ s1 b m, MD nm h s1 → xg_i s1 (nm 50) 7 = nI b → b ≤ L → m ≤ n + 1 → xg_i s1 (nm 50) 9 = nI m → lBr f L s p = some b → wp_X6_breakOff Y (fun h5 => Q h5) (nm 50) s1 := by
    intro s1 b m M a hb hm e9 e
    refine sp_X6_breakOff hn k6 a (fun h' e2 s2 F2 => ?_)
    exact qb h' b m e hb ((M.1.mono sub).tr (e2.mono (fun c hc => by rw [List.mem_singleton.mp hc]; exact lm.1))) ((s2 6 (by decide) (by decide)).trans M.2.1) ((s2 8 (by decide) (by decide)).trans M.2.2.1) ((s2 7 (by decide) (by decide)).trans a) hm ((s2 9 (by decide) (by decide)).trans e9) F2
  have M0 : MD nm h h := ⟨xd.rf, rfl, rfl, rfl⟩
  refine sp_X6_wordHere k6 T hp hpL hs h8 (fun hw => ?_) (fun hw => bq_nf rfl (brk h p n M0 hp hpL (by omega) h9 (lBr_w hw)))
  have hw10 : lW f L s p ≠ 10 := by omega
  have hsw : kwS (lW f L s p) = s := (wf_yes hw).1
  obtain ⟨P0, P1, P2, P3, P3L, P2L, P1L, P0L⟩ := lP_b (f := f) (w := lW f L s p) hpL
  -- behind the numbers
  have fEnd : nok f L (lP0 f L p) = true → (kwN (lW f L s p) = 2 → nok f L (lP1 f L p) = true) → ∀ s3, MD nm h s3 → xg_i s3 (nm 50) 7 = nI (lP2 f L (lW f L s p) p) → xg_i s3 (nm 50) 9 = nI (lnN (lW f L s p) n) → FT s3 nm (lUw f L s (lW f L s p) p n u) → xg_i s3 (nm 53) 0 = nI (lV0 f L p) → (kwN (lW f L s p) = 2 → xg_i s3 (nm 53) 1 = nI (lV1 f L p)) → R68 (nI (lW f L s p)) (nI (kwN (lW f L s p))) s3 := by
    intro ok0 ok1 s3 M a e9 F3 v0 v1
    have hlN : lnN (lW f L s p) n ≤ n + 1 := by unfold lnN; split <;> omega
    refine c68 _ _ _ ?_
    rw [nI_clamp (n := lW f L s p) (by omega), kwN_I _ hw]
    refine ⟨vp_in_nI (show lW f L s p < 10 from hw) (by decide), bq_t (nI_le (Nat.le_refl _) (by have := kwN_b _ hw; omega)) ?_⟩
    refine sp_X6_skip hn k6 (M.T T) a P2L (fun s4 e4 k4 a4 => ?_)
    have a4 : xg_i s4 (nm 50) 7 = nI (lP3 f L (lW f L s p) p) := a4
    have M4 : MD nm h s4 := M.st e4 (by simp) (k4 6 (by decide)) (k4 8 (by decide)) (k4 10 (by decide))
    have e94 : xg_i s4 (nm 50) 9 = nI (lnN (lW f L s p) n) := (k4 9 (by decide)).trans e9
    have T4 := M4.T T
    have f126 : ¬ (lP3 f L (lW f L s p) p < L ∧ f (lP3 f L (lW f L s p) p) = 59) → R126 s4 := fun hc => c126 _ (brk s4 _ _ M4 a4 P3L hlN e94 (lBr_e hw10 ok0 ok1 hc))
    rw [T4.2.2.1, a4]
    by_cases g1 : L ≤ lP3 f L (lW f L s p) p
    · exact bq_t (nI_le g1 (by omega)) (f126 (fun c => by omega))
    · refine bq_f (nI_ge (by omega) (by omega)) ⟨nm 101, T4.1, T4.2.1.1, ?_⟩
      rw [T4.2.1.2, nI_clamp (by omega), (T4.2.2.2.2 _ (by omega)).1]
      have hf := (T4.2.2.2.2 (lP3 f L (lW f L s p) p) (by omega)).2
      refine ⟨vp_in_nI (by omega) (by decide), ?_⟩
      by_cases g2 : f (lP3 f L (lW f L s p) p) = 59
      · refine bq_t (by rw [g2]; rfl) ?_
        rintro _ rfl
        rw [nI_1]
        have M5 : MD nm h (xg_ui s4 (nm 50) 7 (nI (lP3 f L (lW f L s p) p + 1))) := M4.st (xd.ui hn xd.rf (List.mem_singleton_self 50)) (by simp) (xu_p hn (by decide)) (xu_p hn (by decide)) (xu_p hn (by decide))
        generalize e5 : xg_ui s4 (nm 50) 7 (nI (lP3 f L (lW f L s p) p + 1)) = s5 at M5
        have F5 : FT s5 nm (lUw f L s (lW f L s p) p n u) := by
          rw [← e5]
          exact ⟨by rw [xu_p hn (by decide), k4 0 (by decide)]; exact F3.1, F3.2.1, by rw [xu_p hn (by decide), k4 1 (by decide)]; exact F3.2.2⟩
        have a5 : xg_i s5 (nm 50) 7 = nI (lP3 f L (lW f L s p) p + 1) := by rw [← e5, xi_same]
        have e95 : xg_i s5 (nm 50) 9 = nI (lnN (lW f L s p) n) := by rw [← e5, xu_p hn (by decide)]; exact e94
        have v05 : xg_i s5 (nm 53) 0 = nI (lV0 f L p) := by rw [← e5, xu_c hn (by decide), e4.i 53 (by decide)]; exact v0
        have v15 : kwN (lW f L s p) = 2 → xg_i s5 (nm 53) 1 = nI (lV1 f L p) := fun c => by rw [← e5, xu_c hn (by decide), e4.i 53 (by decide)]; exact v1 c
        have nn := lBr_n hw10 ok0 ok1 ⟨by omega, g2⟩
        rw [F5.1]
        by_cases u0 : (lUw f L s (lW f L s p) p n u).1 = 0
        · obtain ⟨z1, z2, z3, z4⟩ := lUw_0 u0
          refine bq_nf (by rw [u0]; rfl) (sp_X6_take (v1 := lV1 f L p) hn (R.mv M5.1) hs (M5.2.2.1.trans h8) hw hsw e95 (fun c => by have := z2 c; omega) v05 (nV_b ok0) v15 (M5.D (d z1)) (fun s6 e6 k6' d6 => ?_))
          exact qk s6 nn ((M5.1.mono sub).tr e6) ((k6' 6 (by decide)).trans M5.2.1) ((k6' 8 (by decide)).trans M5.2.2.1) ((k6' 7 (by decide)).trans a5) ((k6' 9 (by decide)).trans e95) ⟨(k6' 0 (by decide)).trans F5.1, F5.2.1, (k6' 1 (by decide)).trans F5.2.2⟩ (fun _ => d6)
        · exact bq_nt (fun c => u0 ((nI_eq (b := 0) (by have := F5.2.1; omega) (by decide)).mp c)) (qk s5 nn (M5.1.mono sub) M5.2.1 M5.2.2.1 a5 e95 F5 (fun c => absurd c u0))
      · exact bq_f (fun c => g2 ((nI_eq (b := 59) (by omega) (by decide)).mp c)) (f126 (fun c => g2 c.2))
  -- one number
  have fNum : ∀ k s1 P U, k < 2 → k < kwN (lW f L s p) → MD nm h s1 → xg_i s1 (nm 50) 7 = nI P → P ≤ L → xg_i s1 (nm 50) 9 = nI (lnN (lW f L s p) n) → FT s1 nm U → (k = 1 → xg_i s1 (nm 53) 0 = nI (lV0 f L p) ∧ lV0 f L p ≤ 99) → (nok f L P = false → lBr f L s p = some (nb f L P)) →
      (∀ s2, MD nm h s2 → xg_i s2 (nm 50) 7 = nI (nE f L P) → xg_i s2 (nm 50) 9 = nI (lnN (lW f L s p) n) → nok f L P = true → FT s2 nm (if bad (lW f L s p) k (nV f L P) = true ∨ (lW f L s p = 0 ∧ k = 1 ∧ lV0 f L p < nV f L P) then nte 2 (nb f L P) U else U) → xg_i s2 (nm 53) k = nI (nV f L P) → (∀ j, j ≠ k → xg_i s2 (nm 53) j = xg_i s1 (nm 53) j) → R68 (nI (lW f L s p)) (nI (k + 1)) s2) → R68 (nI (lW f L s p)) (nI k) s1 := by
    intro k s1 P U hk hkN M a hP e9 F1 v0 hbr go
    have hlN : lnN (lW f L s p) n ≤ n + 1 := by unfold lnN; split <;> omega
    have hNb := kwN_b _ hw
    refine c68 _ _ _ ?_
    rw [nI_clamp (n := lW f L s p) (by omega), kwN_I _ hw]
    refine ⟨vp_in_nI (show lW f L s p < 10 from hw) (by decide), bq_f (nI_ge hkN (by omega)) ?_⟩
    refine sp_X6_readNumber (v0 := lV0 f L p) hn (R.mv M.1) (M.T T) a hP hw hk F1 v0 (fun s2 e2 k2 a2 nk => bq_nf rfl ?_) (fun s2 e2 k2 nk a2 F2 g2 g3 => bq_nt (by decide) ?_)
    · exact brk s2 _ _ (M.st e2 (by simp) (k2 6 (by decide)) (k2 8 (by decide)) (k2 10 (by decide))) a2 (nb_b hP).2 hlN ((k2 9 (by decide)).trans e9) (hbr nk)
    · rintro _ rfl
      rw [nI_1]
      exact go s2 (M.st e2 (fun c hc => hc) (k2 6 (by decide) (by decide) (by decide)) (k2 8 (by decide) (by decide) (by decide)) (k2 10 (by decide) (by decide) (by decide))) a2 ((k2 9 (by decide) (by decide) (by decide)).trans e9) nk F2 g2 g3
  -- behind the word
  have f54 : ∀ s1, MD nm h s1 → xg_i s1 (nm 50) 7 = nI p → xg_i s1 (nm 50) 9 = nI (lnN (lW f L s p) n) → FT s1 nm (lU1 s (lW f L s p) p n u) → R54 (nI (lW f L s p)) s1 := by
    intro s1 M a e9 F1
    refine c54 _ _ (sp_X6_rowEnd (a := 97) (b := 122) k6 (M.T T) a hpL (by decide) (by decide) ?_)
    rintro _ rfl
    have M2 : MD nm h (xg_ui s1 (nm 50) 7 (nI (lP0 f L p))) := M.st (xd.ui hn xd.rf (List.mem_singleton_self 50)) (by simp) (xu_p hn (by decide)) (xu_p hn (by decide)) (xu_p hn (by decide))
    have F2 : FT (xg_ui s1 (nm 50) 7 (nI (lP0 f L p))) nm (lU1 s (lW f L s p) p n u) := ⟨by rw [xu_p hn (by decide)]; exact F1.1, F1.2.1, by rw [xu_p hn (by decide)]; exact F1.2.2⟩
    refine fNum 0 _ (lP0 f L p) _ (by decide) (by have := kwN_b _ hw; omega) M2 xi_same P0L (by rw [xu_p hn (by decide)]; exact e9) F2 (fun c => absurd c (by decide)) (fun nk => lBr_0 hw10 nk) (fun s2 M3 a3 e93 ok0 F3 v03 _ => ?_)
    have F3' : FT s2 nm (lU2 (lW f L s p) (nb f L (lP0 f L p)) (lV0 f L p) (lU1 s (lW f L s p) p n u)) := by
      unfold lU2
      have e : (bad (lW f L s p) 0 (nV f L (lP0 f L p)) = true ∨ (lW f L s p = 0 ∧ 0 = 1 ∧ lV0 f L p < nV f L (lP0 f L p))) ↔ bad (lW f L s p) 0 (lV0 f L p) = true := ⟨fun c => c.elim id (fun c => absurd c.2.1 (by decide)), Or.inl⟩
      by_cases hc : bad (lW f L s p) 0 (lV0 f L p) = true
      · rw [if_pos hc]; rw [if_pos (e.mpr hc)] at F3; exact F3
      · rw [if_neg hc]; rw [if_neg (fun c => hc (e.mp c))] at F3; exact F3
    rcases kwN_b _ hw with hN | hN
    · have h2 : ¬ kwN (lW f L s p) = 2 := by omega
      have z := fEnd ok0 (fun c => absurd c h2) s2 M3 (by unfold lP2; rw [if_neg h2]; exact a3) e93 (by unfold lUw; rw [if_neg h2]; exact F3') v03 (fun c => absurd c h2)
      rw [hN] at z
      exact z
    · refine fNum 1 s2 (lP1 f L p) _ (by decide) (by omega) M3 a3 P1L e93 F3' (fun _ => ⟨v03, nV_b ok0⟩) (fun nk => lBr_1 hw10 ok0 hN nk) (fun s3 M4 a4 e94 ok1 F4 v14 v04 => ?_)
      have z := fEnd ok0 (fun _ => ok1) s3 M4 (by unfold lP2; rw [if_pos hN]; exact a4) e94 (by
        unfold lUw; rw [if_pos hN]; unfold lU3
        have e : (bad (lW f L s p) 1 (nV f L (lP1 f L p)) = true ∨ (lW f L s p = 0 ∧ 1 = 1 ∧ lV0 f L p < nV f L (lP1 f L p))) ↔ (bad (lW f L s p) 1 (lV1 f L p) = true ∨ (lW f L s p = 0 ∧ lV0 f L p < lV1 f L p)) := ⟨fun c => c.elim Or.inl (fun c => Or.inr ⟨c.1, c.2.2⟩), fun c => c.elim Or.inl (fun c => Or.inr ⟨c.1, rfl, c.2⟩)⟩
        by_cases hc : bad (lW f L s p) 1 (lV1 f L p) = true ∨ (lW f L s p = 0 ∧ lV0 f L p < lV1 f L p)
        · rw [if_pos hc]; rw [if_pos (e.mpr hc)] at F4; exact F4
        · rw [if_neg hc]; rw [if_neg (fun c => hc (e.mp c))] at F4; exact F4) ((v04 0 (by decide)).trans v03) (fun _ => v14)
      rw [hN] at z
      exact z
  refine bq_nt (by rw [nl_m1, nI_eqM (by omega)]; exact id) ?_
  by_cases w1 : lW f L s p = 1
  · refine bq_t (by rw [w1]; rfl) (f54 h M0 hp (by unfold lnN; rw [if_pos w1]; exact h9) ?_)
    unfold lU1; rw [if_neg (fun c => c.1 w1)]; exact F
  · refine bq_f (fun c => w1 ((nI_eq (b := 1) (by omega) (by decide)).mp c)) ?_
    rintro _ rfl
    rw [h9, nI_1]
    have M1 : MD nm h (xg_ui h (nm 50) 9 (nI (n + 1))) := M0.st (xd.ui hn xd.rf (List.mem_singleton_self 50)) (by simp) (xu_p hn (by decide)) (xu_p hn (by decide)) (xu_p hn (by decide))
    generalize e1 : xg_ui h (nm 50) 9 (nI (n + 1)) = s1 at M1
    have a1 : xg_i s1 (nm 50) 7 = nI p := by rw [← e1, xu_p hn (by decide)]; exact hp
    have e91 : xg_i s1 (nm 50) 9 = nI (n + 1) := by rw [← e1, xi_same]
    have F1 : FT s1 nm u := by rw [← e1]; exact ⟨by rw [xu_p hn (by decide)]; exact F.1, F.2.1, by rw [xu_p hn (by decide)]; exact F.2.2⟩
    have e92 : nI (n + 1) = nI (lnN (lW f L s p) n) := by unfold lnN; rw [if_neg w1]
    have hrm := rm_b s hs
    rw [M1.2.2.1, h8, nI_clamp (by omega), rm_I s hs, e91, a1]
    refine ⟨vp_in_nI (show s < 4 from hs) (by decide), ?_⟩
    by_cases g : n + 1 ≤ xt_room s
    · refine bq_t (nI_le g (by omega)) (f54 s1 M1 a1 (e91.trans e92) ?_)
      unfold lU1; rw [if_neg (fun c => by omega)]; exact F1
    · refine bq_f (nI_ge (by omega) (by omega)) (sp_X6_note (c := 3) hn k6 F1 (by decide) (by decide) (fun s2 e2 k2 F2 => f54 s2 (M1.st e2 (by simp) (k2 6 (by decide) (by decide)) (k2 8 (by decide) (by decide)) (k2 10 (by decide) (by decide))) ((k2 7 (by decide) (by decide)).trans a1) ((k2 9 (by decide) (by decide)).trans (e91.trans e92)) ?_))
      unfold lU1; rw [if_pos ⟨w1, by omega⟩]; exact F2
