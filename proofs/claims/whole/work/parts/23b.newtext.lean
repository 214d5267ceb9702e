/-! a new text -/
theorem sv_0 : ∀ s, s < 4 → xg_sv 0 s = nI (xt_room s) := by
  intro s hs
  rcases (show s = 0 ∨ s = 1 ∨ s = 2 ∨ s = 3 by omega) with e | e | e | e <;> subst e <;> rfl
set_option maxHeartbeats 1000000 in
theorem sp_X8_init {P : Nat → Prop} {MC MS : Nat} {Y : xg_Y} {Q : xg_Y → xg_H → Prop} {h : xg_H} {nm : Nat → Nat} {t s : Nat} (hn : inj nm) (l : liv P nm Y) (k8 : xg_is Y (nm t) 8) (hs : s < 4) (p0 : ¬ P t) (p1 : ¬ P (t + 10)) (p2 : ¬ P (t + 20)) (p3 : ¬ P (t + 30)) (hMC : 3 ≤ MC) (hMS : 2 * xt_room s + (if s = 0 then 4 else 0) ≤ MS)
    (q : ∀ nm' Y' h', inj nm' → gro P nm Y h nm' Y' h' → nm' t = nm t → TXn Y' h' nm' t (xt_room s) (if s = 0 then 4 else 0) → (∀ j, xg_i h' (nm' t) j = xg_i h (nm t) j) → (∀ j, xg_i h' (nm' (t + 10)) j = 0 ∧ xg_i h' (nm' (t + 20)) j = 0 ∧ xg_i h' (nm' (t + 30)) j = 0) → Q Y' h') : wp_X8_init MC MS Y Q (nm t) (nI s) h := by
  have hr := room_b s
  have cl : (nI (xt_room s)).toNatClampNeg = xt_room s := nI_clamp (by omega)
  obtain ⟨m3', em⟩ : ∃ m, m = (if s = 0 then 4 else 0) := ⟨_, rfl⟩
  have hm4 : m3' ≤ 4 := by rw [em]; split <;> omega
  rw [← em] at q hMS
  unfold wp_X8_init
  refine ⟨k8, fun R36 c36 => ?_⟩
  rw [nl_3, m3, show s % 4 = s by omega, nI_clamp (by omega), sv_0 s hs]
  refine ⟨vp_in_nI hs (by decide), ?_⟩
  rintro _ rfl
  rw [cl]
  refine ⟨nI_pos (by omega), by omega, by omega, by omega, ?_⟩
  intro q2 ca3 f2 Y4 eY4 h5 eh5
  have a2 : nm t ≠ q2 := fun e => f2 (by rw [← e]; exact k8.1)
  have k84 : xg_is Y4 (nm t) 8 := by rw [eY4]; exact is_old f2 k8
  refine ⟨k84, fun h7 eh7 => ⟨nI_pos (by omega), by omega, by omega, by omega, ?_⟩⟩
  have n2t : nm1 nm (t + 10) q2 t = nm t := nm1_old (by omega) a2
  have n2a : nm1 nm (t + 10) q2 (t + 10) = q2 := nm1_at
  have i2 := nm1_inj hn (t + 10) q2
  have g2 : gro P nm Y h (nm1 nm (t + 10) q2) Y4 h7 := by
    have : gro P nm Y h (nm1 nm (t + 10) q2) Y4 h5 := by rw [eY4, eh5]; exact gro_new l p1 f2
    rw [eh7, ← n2t]
    exact gro_uo i2 this p0
  generalize nm1 nm (t + 10) q2 = nm2 at n2t n2a i2 g2
  intro q8 ca9 f8 Y10 eY10 h11 eh11
  have a8 : nm t ≠ q8 := fun e => f8 (by rw [← e]; exact k84.1)
  have m2 : q2 ∈ Y4.1 := by rw [eY4]; exact is_new.1
  have q28 : q2 ≠ q8 := fun e => f8 (by rw [← e]; exact m2)
  have k810 : xg_is Y10 (nm t) 8 := by rw [eY10]; exact is_old f8 k84
  refine ⟨k810, fun h13 eh13 => ?_⟩
  have n3t : nm1 nm2 (t + 20) q8 t = nm t := (nm1_old (by omega) (by rw [n2t]; exact a8)).trans n2t
  have n3a : nm1 nm2 (t + 20) q8 (t + 10) = q2 := (nm1_old (by omega) (by rw [n2a]; exact q28)).trans n2a
  have n3b : nm1 nm2 (t + 20) q8 (t + 20) = q8 := nm1_at
  have i3 := nm1_inj i2 (t + 20) q8
  have g3 : gro P nm Y h (nm1 nm2 (t + 20) q8) Y10 h13 := by
    have : gro P nm2 Y4 h7 (nm1 nm2 (t + 20) q8) Y10 h11 := by rw [eY10, eh11]; exact gro_new (gro_liv g2) p2 f8
    rw [eh13, ← n3t]
    exact gro_uo i3 (g2.tr this) p0
  generalize nm1 nm2 (t + 20) q8 = nm3 at n3t n3a n3b i3 g3
  have m210 : q2 ∈ Y10.1 := by rw [eY10]; exact mem_old m2
  have m810 : q8 ∈ Y10.1 := by rw [eY10]; exact is_new.1
  have key : ∀ s0, s0 = nI m3' → R36 s0 2 (0 + xt_room s + xt_room s) Y10 h13 := by
    intro s0 e0
    refine c36 _ _ _ _ _ ?_
    rw [e0, nI_clamp (by omega)]
    refine ⟨nI_pos (by omega), by omega, by omega, by omega, ?_⟩
    intro q14 ca15 f14 Y16 eY16 h17 eh17
    have a14 : nm t ≠ q14 := fun e => f14 (by rw [← e]; exact k810.1)
    have q214 : q2 ≠ q14 := fun e => f14 (by rw [← e]; exact m210)
    have q814 : q8 ≠ q14 := fun e => f14 (by rw [← e]; exact m810)
    have k816 : xg_is Y16 (nm t) 8 := by rw [eY16]; exact is_old f14 k810
    refine ⟨k816, fun h19 eh19 => ⟨⟨by omega, by omega⟩, ?_⟩⟩
    have n4t : nm1 nm3 (t + 30) q14 t = nm t := (nm1_old (by omega) (by rw [n3t]; exact a14)).trans n3t
    have n4a : nm1 nm3 (t + 30) q14 (t + 10) = q2 := (nm1_old (by omega) (by rw [n3a]; exact q214)).trans n3a
    have n4b : nm1 nm3 (t + 30) q14 (t + 20) = q8 := (nm1_old (by omega) (by rw [n3b]; exact q814)).trans n3b
    have n4c : nm1 nm3 (t + 30) q14 (t + 30) = q14 := nm1_at
    have i4 := nm1_inj i3 (t + 30) q14
    have g4 : gro P nm Y h (nm1 nm3 (t + 30) q14) Y16 h19 := by
      have : gro P nm3 Y10 h13 (nm1 nm3 (t + 30) q14) Y16 h17 := by rw [eY16, eh17]; exact gro_new (gro_liv g3) p3 f14
      rw [eh19, ← n4t]
      exact gro_uo i4 (g3.tr this) p0
    generalize nm1 nm3 (t + 30) q14 = nm4 at n4t n4a n4b n4c i4 g4
    have o1 : xg_o h19 (nm t) 1 = some q2 := by rw [eh19, xo_uo, if_neg (fun c => absurd c.2 (by decide)), eh17, (ih_old a14).2.2, eh13, xo_uo, if_neg (fun c => absurd c.2 (by decide)), eh11, (ih_old a8).2.2, eh7, xo_uo, if_pos ⟨rfl, rfl⟩]
    have o2 : xg_o h19 (nm t) 2 = some q8 := by rw [eh19, xo_uo, if_neg (fun c => absurd c.2 (by decide)), eh17, (ih_old a14).2.2, eh13, xo_uo, if_pos ⟨rfl, rfl⟩]
    have o3 : xg_o h19 (nm t) 3 = some q14 := by rw [eh19, xo_uo, if_pos ⟨rfl, rfl⟩]
    have k2 : xg_is Y16 q2 22 ∧ xg_n Y16 q2 = xt_room s := by
      rw [eY16, eY10, eY4]
      refine ⟨is_old (by rw [← eY4, ← eY10]; exact f14) (is_old (by rw [← eY4]; exact f8) is_new), ?_⟩
      rw [n_old q214, n_old q28, n_new]
    have k8' : xg_is Y16 q8 22 ∧ xg_n Y16 q8 = xt_room s := by
      rw [eY16, eY10]
      refine ⟨is_old (by rw [← eY10]; exact f14) is_new, ?_⟩
      rw [n_old q814, n_new]
    have k14 : xg_is Y16 q14 22 ∧ xg_n Y16 q14 = m3' := by
      rw [eY16]
      exact ⟨is_new, n_new⟩
    have zt : ∀ j, xg_i h19 (nm t) j = xg_i h (nm t) j := fun j => by rw [eh19, xi_uo, eh17, (ih_old a14).1, eh13, xi_uo, eh11, (ih_old a8).1, eh7, xi_uo, eh5, (ih_old a2).1]
    have z2 : ∀ j, xg_i h19 q2 j = 0 := fun j => by rw [eh19, xi_uo, eh17, (ih_old q214).1, eh13, xi_uo, eh11, (ih_old q28).1, eh7, xi_uo, eh5, ih_new.1]
    have z8 : ∀ j, xg_i h19 q8 j = 0 := fun j => by rw [eh19, xi_uo, eh17, (ih_old q814).1, eh13, xi_uo, eh11, ih_new.1]
    have z14 : ∀ j, xg_i h19 q14 j = 0 := fun j => by rw [eh19, xi_uo, eh17, ih_new.1]
    refine q nm4 Y16 h19 i4 g4 n4t ?_ (fun j => ?_) (fun j => ?_)
    · unfold TXn xk
      rw [n4t, n4a, n4b, n4c]
      exact ⟨k816, ⟨o1, k2⟩, ⟨o2, k8'⟩, ⟨o3, k14⟩⟩
    · rw [n4t]; exact zt j
    · rw [n4a, n4b, n4c]
      exact ⟨z2 j, z8 j, z14 j⟩
  by_cases s0 : s = 0
  · refine bq_nf (by rw [s0]; rfl) (key _ ?_)
    rw [em, if_pos s0, s0]; rfl
  · refine bq_nt (fun c => s0 ((nI_eq (b := 0) (by omega) (by decide)).mp c)) (key _ ?_)
    rw [em, if_neg s0]; rfl
