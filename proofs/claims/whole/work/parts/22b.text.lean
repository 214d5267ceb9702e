/-! the class: text() -/
/-- a frame in which the reader may point at another tape -/
def xw (nm : Nat → Nat) (L : List Nat) (h h2 : xg_H) : Prop := (∀ c, c ∉ L → ∀ j, xg_i h2 (nm c) j = xg_i h (nm c) j ∧ xg_l h2 (nm c) j = xg_l h (nm c) j) ∧ ∀ c j, ¬ (c = 50 ∧ j = 5) → xg_o h2 (nm c) j = xg_o h (nm c) j
theorem xw.of {nm : Nat → Nat} {L : List Nat} {h h2 : xg_H} (e : xd nm L h h2) : xw nm L h h2 := ⟨e.1, fun c j _ => e.2 c j⟩
theorem xw.tr {nm : Nat → Nat} {L : List Nat} {h h2 h3 : xg_H} (a : xw nm L h h2) (b : xw nm L h2 h3) : xw nm L h h3 := ⟨fun c hc j => ⟨(b.1 c hc j).1.trans (a.1 c hc j).1, (b.1 c hc j).2.trans (a.1 c hc j).2⟩, fun c j hc => (b.2 c j hc).trans (a.2 c j hc)⟩
theorem xw.mono {nm : Nat → Nat} {L L' : List Nat} {h h2 : xg_H} (a : xw nm L h h2) (hL : ∀ c ∈ L, c ∈ L') : xw nm L' h h2 := ⟨fun c hc j => a.1 c (fun q => hc (hL c q)) j, a.2⟩
theorem xw.uo {nm : Nat → Nat} (hn : inj nm) {L : List Nat} {h : xg_H} {v : Option Nat} : xw nm L h (xg_uo h (nm 50) 5 v) := ⟨fun c _ j => ⟨rfl, rfl⟩, fun c j hc => by rw [xo_uo, if_neg (fun e => hc ⟨hn _ _ e.1, e.2⟩)]⟩
theorem XR.w {Y : xg_Y} {h h2 : xg_H} {nm : Nat → Nat} {L : List Nat} (R : XR Y h nm) (e : xw nm L h h2) : XR Y h2 nm := by
  obtain ⟨r0, ⟨a1, a2⟩, ⟨b1, b2⟩, ⟨c1, c2⟩, rs⟩ := R
  refine ⟨r0, ⟨(e.2 50 2 (by omega)).trans a1, a2⟩, ⟨(e.2 50 3 (by omega)).trans b1, b2⟩, ⟨(e.2 50 4 (by omega)).trans c1, c2⟩, fun s hs => ?_⟩
  obtain ⟨s0, s1, ⟨s2, s3⟩, ⟨s4, s5⟩, ⟨s6, s7⟩⟩ := rs s hs
  exact ⟨(e.2 51 s (by omega)).trans s0, s1, ⟨(e.2 (60 + s) 1 (by omega)).trans s2, s3⟩, ⟨(e.2 (60 + s) 2 (by omega)).trans s4, s5⟩, ⟨(e.2 (60 + s) 3 (by omega)).trans s6, s7⟩⟩
theorem TLd.w {Y : xg_Y} {h h2 : xg_H} {nm : Nat → Nat} {b : Nat} {L : List Nat} (T : TLd Y h nm b) (hb : 100 ≤ b) (e : xw nm L h h2) : TLd Y h2 nm b := T.o hb (fun c j hc => e.2 c j (by omega))
/-- the tape is taken; fault u -/
def X1c (h : xg_H) (nm : Nat → Nat) (u : fS) : Prop := xg_i h (nm 100) 1 = nI 0 ∧ xg_i h (nm 100) 2 = nI u.1 ∧ xg_i h (nm 100) 3 = (if u.1 = 0 then nM else nI u.2)
def lTX (s j : Nat) : List Nat := [100, 102, 111 + j, 111 + j + 10, 111 + j + 20, 111 + j + 30, 50, 52, 53, 60 + s, 70 + s, 80 + s, 90 + s]
theorem lTX_R {s j c : Nat} (h : c ∈ lRR s) : c ∈ lTX s j := by unfold lRR at h; unfold lTX; simp at h ⊢ <;> omega
theorem lTX_K {s j c : Nat} (h : c ∈ lK 100 s j) : c ∈ lTX s j := by unfold lK at h; unfold lTX; simp at h ⊢ <;> omega
set_option maxHeartbeats 1000000 in
theorem sp_X11_text {Y : xg_Y} {Q : Int32 → xg_H → Prop} {h : xg_H} {nm : Nat → Nat} {x1 x2 : Int32} {L : Nat} {f : Nat → Nat} (hn : inj nm) (k0 : xg_is Y (nm 0) 11) (o0 : xg_o h (nm 0) 0 = some (nm 100)) (o2 : xg_o h (nm 0) 2 = some (nm 50)) (T : TLd Y h nm 100) (R : XR Y h nm) (h1 : xg_i h (nm 100) 1 = nI L) (hL : L ≤ 600) (hf : ∀ i, i < 600 → xg_i h (nm 101) i = nI (f i) ∧ f i < 256) (cn : ∀ s, s < 4 → ∃ m, m ≤ 2 ∧ xg_i h (nm 102) s = nI m)
    (q0 : (∀ s m, s < 4 → x1 = nI s → xg_i h (nm 102) s = nI m → m ≤ 2 → ∀ k, ¬ tNo m x2 k) → ∀ h', xw nm [100] h h' → X1c h' nm (0, 0) → Q (-2) h')
    (q1 : ∀ s m k, s < 4 → m ≤ 2 → x1 = nI s → xg_i h (nm 102) s = nI m → tNo m x2 k → ¬ (PRF f L s).1 = 0 → ∀ h', xw nm (100 :: lRR s) h h' → X1c h' nm (PRF f L s) → Q (-1) h')
    (q2 : ∀ s m k, s < 4 → m ≤ 2 → x1 = nI s → xg_i h (nm 102) s = nI m → tNo m x2 k → (PRF f L s).1 = 0 → ∀ h', xw nm (lTX s (2 * s + k)) h h' → X1c h' nm (PRF f L s) → (∀ j, xg_i h' (nm 102) j = if j = s then nI (if k = m then m + 1 else m) else xg_i h (nm 102) j) → (PRS f L s).2.2.1 ≤ xt_room s → xg_i h' (nm (111 + (2 * s + k))) 0 = nI (PRS f L s).2.2.1 → (∀ q, q < (PRS f L s).2.2.1 → xg_i h' (nm (111 + (2 * s + k) + 10)) q = (PRS f L s).2.2.2.2.1 q ∧ xg_i h' (nm (111 + (2 * s + k) + 20)) q = (PRS f L s).2.2.2.2.2.1 q) → (s = 0 → ∀ g, g < 4 → xg_i h' (nm (111 + (2 * s + k) + 30)) g = nI ((PRS f L s).2.2.2.2.2.2.1 g)) → Q (nI k) h') : wp_X11_text Y Q (nm 0) x1 x2 h := by
  have k9 := T.1
  unfold wp_X11_text
  refine ⟨k0, nm 100, o0, k9, ?_⟩
  rintro _ rfl
  rw [h1]
  intro a3 e3
  refine ⟨nm 100, by rw [e3]; exact o0, k9, fun a5 e5 => ⟨nm 100, by rw [e5, e3]; exact o0, k9, fun g e7 => ?_⟩⟩
  have E : xd nm [100] h g := by
    rw [e7, e5, e3]
    exact xd.ui hn (xd.ui hn (xd.ui hn xd.rf (by simp)) (by simp)) (by simp)
  have g1 : xg_i g (nm 100) 1 = nI 0 := by rw [e7, e5, e3, xu_p hn (by decide), xu_p hn (by decide), xi_same]; rfl
  have g2 : xg_i g (nm 100) 2 = nI 0 := by rw [e7, e5, xu_p hn (by decide), xi_same]; rfl
  have g3 : xg_i g (nm 100) 3 = nM := by rw [e7, xi_same]; rfl
  clear e3 e5 e7
  have Ew := xw.of E
  have Tg := T.w (by decide) Ew
  have Rg := R.w Ew
  have c102 : ∀ s, xg_i g (nm 102) s = xg_i h (nm 102) s := fun s => E.i 102 (by decide) s
  refine ⟨nm 100, (E.2 0 0).trans o0, k9, ?_⟩
  refine sp_X9_numberFor Tg (fun s hs => by obtain ⟨m, hm, em⟩ := cn s hs; exact ⟨m, hm, (c102 s).trans em⟩) (fun s m k hs hm ex em hno => ?_) (fun no => bq_nf rfl (q0 (fun s m hs ex em hm k => no s m hs ex ((c102 s).trans em) hm k) g Ew ⟨g1, g2, by rw [if_pos rfl]; exact g3⟩))
  have em := (c102 s).symm.trans em
  subst ex
  have hk2 : k < 2 := by rcases hno with ⟨_, c⟩ | ⟨_, c, c'⟩ <;> omega
  have hkm : k ≤ m := by rcases hno with ⟨_, c⟩ | ⟨_, c, c'⟩ <;> omega
  have q1 := q1 s m k hs hm rfl em hno
  have q2 := q2 s m k hs hm rfl em hno
  refine bq_nt (by rw [nl_m1, nI_eqM (by omega)]; exact id) ⟨nm 100, (E.2 0 0).trans o0, k9, nm 50, (E.2 0 2).trans o2, R.1, ?_⟩
  rw [show xg_o g (nm 100) 0 = some (nm 101) from Tg.2.1.1]
  refine sp_X6_read hn Rg ⟨T.2.1.2.1, T.2.1.2.2⟩ (fun i hi => by rw [E.i 101 (by decide)]; exact hf i hi) hs hL (fun g4 e4 rd => ?_)
  unfold RDN at rd
  obtain ⟨U_, eU⟩ : ∃ U, PRF f L s = U := ⟨_, rfl⟩
  obtain ⟨X_, eX⟩ : ∃ X, PRS f L s = X := ⟨_, rfl⟩
  rw [eU, eX] at rd
  rw [eU] at q1
  rw [eU, eX] at q2
  clear q0 eU eX
  obtain ⟨ft, rd⟩ := rd
  have E4 : xw nm (100 :: lRR s) h g4 := (Ew.mono (by simp)).tr ((xw.uo hn).tr ((xw.of e4).mono (fun c hc => List.mem_cons_of_mem _ hc)))
  have R4 := R.w E4
  have n100 : (100 : Nat) ∉ lRR s := fun c => by unfold lRR at c; simp at c; omega
  have n102 : (102 : Nat) ∉ 100 :: lRR s := fun c => by unfold lRR at c; simp at c; omega
  have t1 : xg_i g4 (nm 100) 1 = nI 0 := ((e4.i 100 n100 1).trans (xi_uo _ _ _ _ _ _)).trans g1
  refine ⟨nm 50, (E4.2 0 2 (by omega)).trans o2, R.1, nm 100, (E4.2 0 0 (by omega)).trans o0, k9, fun a6 e6 => ⟨nm 50, by rw [e6]; exact (E4.2 0 2 (by omega)).trans o2, R.1, nm 100, by rw [e6]; exact (E4.2 0 0 (by omega)).trans o0, k9, fun g5 e5 => ?_⟩⟩
  have a50 : xg_i a6 (nm 50) 1 = xg_i g4 (nm 50) 1 := by rw [e6, xu_c hn (by decide)]
  rw [a50] at e5
  rw [ft.1] at e6
  rw [ft.2.2] at e5
  have E5 : xd nm [100] g4 g5 := by
    rw [e5, e6]
    exact xd.ui hn (xd.ui hn xd.rf (by simp)) (by simp)
  have t5 : X1c g5 nm U_ := ⟨by rw [e5, e6, xu_p hn (by decide), xu_p hn (by decide)]; exact t1, by rw [e5, e6, xu_p hn (by decide), xi_same], by rw [e5, xi_same]⟩
  clear e5 e6 a50
  have W5 : xw nm (100 :: lRR s) h g5 := E4.tr ((xw.of E5).mono (by simp))
  have f50 : xg_i g5 (nm 50) 0 = nI U_.1 := (E5.i 50 (by decide) 0).trans ft.1
  have R5 := R.w W5
  have T5 := T.w (by decide) W5
  refine ⟨nm 50, (W5.2 0 2 (by omega)).trans o2, R.1, ?_⟩
  rw [f50]
  have u5 := ft.2.1
  by_cases u0 : U_.1 = 0
  · refine bq_t (by rw [u0]; rfl) ?_
    obtain ⟨rd1, rd2, rd3, rd4⟩ := rd u0
    unfold wp_X6_draft
    refine ⟨R.1, nm 51, R5.2.1.1, R5.2.1.2.1, ?_⟩
    rw [nl_3, m3, show s % 4 = s by omega, R5.2.1.2.2, nI_clamp (by omega), (R5.2.2.2.2 s hs).1]
    refine ⟨vp_in_nI hs (by decide), nm 100, (W5.2 0 0 (by omega)).trans o0, k9, ?_⟩
    have D5 := (R5.2.2.2.2 s hs).2
    have DX : TXn Y g5 nm (60 + s) (xt_room s) (if s = 0 then 4 else 0) := by
      obtain ⟨d1, ⟨d2, d3⟩, ⟨d4, d5⟩, ⟨d6, d7⟩⟩ := D5
      rw [show 70 + s = 60 + s + 10 by omega] at d2 d3
      rw [show 80 + s = 60 + s + 20 by omega] at d4 d5
      rw [show 90 + s = 60 + s + 30 by omega] at d6 d7
      exact ⟨d1, ⟨d2, d3⟩, ⟨d4, d5⟩, ⟨d6, d7⟩⟩
    refine sp_X9_keep (b := 100) (t := 60 + s) hn T5 hs hk2 hm ((W5.1 102 n102 s).1.trans em) hkm DX (by omega) (fun g7 e7 c7 l7 r7 p7 => ?_)
    have nK : (100 : Nat) ∉ lK 100 s (2 * s + k) := fun c => by unfold lK at c; simp at c <;> omega
    refine q2 u0 g7 ((W5.mono (fun c hc => ?_)).tr ((xw.of e7).mono (fun c hc => lTX_K hc))) ⟨(e7.i 100 nK 1).trans t5.1, (e7.i 100 nK 2).trans t5.2.1, (e7.i 100 nK 3).trans t5.2.2⟩ (fun j => ?_) rd1 ?_ (fun q9 hq => ?_) (fun s0 g9 hg => ?_)
    · rcases List.mem_cons.mp hc with c1 | c1
      · rw [c1]; unfold lTX; simp
      · exact lTX_R c1
    · have := c7 j
      rw [(W5.1 102 n102 j).1] at this
      exact this
    · exact l7.trans ((E5.i (60 + s) (by simp <;> omega) 0).trans rd2)
    · have := r7 q9 (by omega)
      have v := rd3 q9 hq
      rw [show 60 + s + 10 = 70 + s by omega, show 60 + s + 20 = 80 + s by omega, E5.i (70 + s) (by simp <;> omega), E5.i (80 + s) (by simp <;> omega)] at this
      exact ⟨this.1.trans v.1, this.2.trans v.2⟩
    · have := p7 s0 g9 hg
      rw [show 60 + s + 30 = 90 + s by omega, E5.i (90 + s) (by simp <;> omega)] at this
      have v := rd4 s0 g9 hg
      rw [show (90 : Nat) = 90 + s by omega] at v
      exact this.trans v
  · exact bq_f (fun c => u0 ((nI_eq (b := 0) (by omega) (by decide)).mp c)) (q1 u0 g5 W5 t5)
