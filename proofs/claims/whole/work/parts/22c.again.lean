/-! the class: Told becomes another Told; again() -/
def xq (nm : Nat → Nat) (b : Nat) (h h2 : xg_H) : Prop := (∀ c, ¬ (b ≤ c ∧ c < b + 50) → ∀ j, xg_i h2 (nm c) j = xg_i h (nm c) j ∧ xg_l h2 (nm c) j = xg_l h (nm c) j) ∧ ∀ c j, xg_o h2 (nm c) j = xg_o h (nm c) j
theorem xq.rf {nm : Nat → Nat} {b : Nat} {h : xg_H} : xq nm b h h := ⟨fun _ _ _ => ⟨rfl, rfl⟩, fun _ _ => rfl⟩
theorem xq.tr {nm : Nat → Nat} {b : Nat} {h h2 h3 : xg_H} (a : xq nm b h h2) (a2 : xq nm b h2 h3) : xq nm b h h3 := ⟨fun c hc j => ⟨(a2.1 c hc j).1.trans (a.1 c hc j).1, (a2.1 c hc j).2.trans (a.1 c hc j).2⟩, fun c j => (a2.2 c j).trans (a.2 c j)⟩
theorem xq.of {nm : Nat → Nat} {b : Nat} {L : List Nat} {h h2 : xg_H} (e : xd nm L h h2) (hL : ∀ c, c ∈ L → b ≤ c ∧ c < b + 50) : xq nm b h h2 := ⟨fun c hc j => e.1 c (fun q => hc (hL c q)) j, e.2⟩
theorem TLd.q {Y : xg_Y} {h h2 : xg_H} {nm : Nat → Nat} {b c : Nat} (T : TLd Y h nm c) (hc : 100 ≤ c) (e : xq nm b h h2) : TLd Y h2 nm c := T.o hc (fun c j _ => e.2 c j)
/-- text j of the Told at b in h2 is that of the Told at c in h -/
def TXe (h2 : xg_H) (b : Nat) (h : xg_H) (c : Nat) (nm : Nat → Nat) (j : Nat) : Prop := xg_i h2 (nm (b + 11 + j)) 0 = xg_i h (nm (c + 11 + j)) 0 ∧ (∀ q, q < xt_room (j / 2) → xg_i h2 (nm (b + 11 + j + 10)) q = xg_i h (nm (c + 11 + j + 10)) q ∧ xg_i h2 (nm (b + 11 + j + 20)) q = xg_i h (nm (c + 11 + j + 20)) q) ∧ ∀ q, q < (if j < 2 then 4 else 0) → xg_i h2 (nm (b + 11 + j + 30)) q = xg_i h (nm (c + 11 + j + 30)) q
def TDe (h2 : xg_H) (b : Nat) (h : xg_H) (c : Nat) (nm : Nat → Nat) : Prop := (xg_i h2 (nm b) 1 = xg_i h (nm c) 1 ∧ xg_i h2 (nm b) 2 = xg_i h (nm c) 2 ∧ xg_i h2 (nm b) 3 = xg_i h (nm c) 3) ∧ (∀ j, j < 600 → xg_i h2 (nm (b + 1)) j = xg_i h (nm (c + 1)) j) ∧ (∀ j, j < 4 → xg_i h2 (nm (b + 2)) j = xg_i h (nm (c + 2)) j) ∧ ∀ j, j < 8 → TXe h2 b h c nm j
set_option maxHeartbeats 1000000 in
theorem sp_X9_become {Y : xg_Y} {Q : xg_H → Prop} {h : xg_H} {nm : Nat → Nat} {b c : Nat} (hn : inj nm) (hb : 100 ≤ b) (hc : 100 ≤ c) (hbc : b + 50 ≤ c ∨ c + 50 ≤ b) (T : TLd Y h nm b) (S : TLd Y h nm c) (q : ∀ h', xq nm b h h' → TDe h' b h c nm → Q h') : wp_X9_become Y Q (nm b) (some (nm c)) h := by
  have T0 := T
  have S0 := S
  obtain ⟨t9, ⟨ta, tak, tan⟩, ⟨tc, tck, tcn⟩, ⟨tt, ttk, ttn⟩, _⟩ := T
  obtain ⟨s9, ⟨sa, sak, san⟩, ⟨sc, sck, scn⟩, ⟨st, stk, stn⟩, _⟩ := S
  have ta : xg_o h (nm b) 0 = some (nm (b + 1)) := ta
  have tc : xg_o h (nm b) 4 = some (nm (b + 2)) := tc
  have tt : xg_o h (nm b) 5 = some (nm (b + 3)) := tt
  have sa : xg_o h (nm c) 0 = some (nm (c + 1)) := sa
  have sc : xg_o h (nm c) 4 = some (nm (c + 2)) := sc
  have st : xg_o h (nm c) 5 = some (nm (c + 3)) := st
  have ttk : xg_is Y (nm (b + 3)) 27 := ttk
  have ttn : xg_n Y (nm (b + 3)) = 8 := ttn
  have stk : xg_is Y (nm (c + 3)) 27 := stk
  have stn : xg_n Y (nm (c + 3)) = 8 := stn
  have tan : xg_n Y (nm (b + 1)) = 600 := tan
  have san : xg_n Y (nm (c + 1)) = 600 := san
  have tcn : xg_n Y (nm (b + 2)) = 4 := tcn
  have scn : xg_n Y (nm (c + 2)) = 4 := scn
  unfold wp_X9_become
  refine ⟨t9, fun R56 c56 => ?_⟩
  refine ⟨nm c, rfl, s9, nm (c + 1), sa, sak, nm (b + 1), ta, tak, by decide, by decide, by decide, ?_, ?_, ?_⟩
  · rw [san]; decide
  · rw [tan]; decide
  have z0 : (0 : Int32).toNatClampNeg = 0 := rfl
  have z6 : (600 : Int32).toNatClampNeg = 600 := rfl
  have z4 : (4 : Int32).toNatClampNeg = 4 := rfl
  rw [z0, z6, z4]
  intro h4 e4 h5 e5 h6 e6 h7 e7
  have D7 : xd nm [b, b + 1, b + 2] h h7 := by
    rw [e7, e6, e5, e4]
    exact xd.ui hn (xd.ui hn (xd.ui hn (xd.cp hn xd.rf (by simp)) (by simp)) (by simp)) (by simp)
  have f1 : xg_i h7 (nm b) 1 = xg_i h (nm c) 1 := by rw [e7, xu_p hn (by decide), e6, xu_p hn (by decide), e5, xi_same, e4, cp_no hn (by omega)]
  have f2 : xg_i h7 (nm b) 2 = xg_i h (nm c) 2 := by rw [e7, xu_p hn (by decide), e6, xi_same, e5, xu_c hn (by omega), e4, cp_no hn (by omega)]
  have f3 : xg_i h7 (nm b) 3 = xg_i h (nm c) 3 := by rw [e7, xi_same, e6, xu_c hn (by omega), e5, xu_c hn (by omega), e4, cp_no hn (by omega)]
  have ft : ∀ j, j < 600 → xg_i h7 (nm (b + 1)) j = xg_i h (nm (c + 1)) j := fun j hj => by rw [e7, xu_c hn (by omega), e6, xu_c hn (by omega), e5, xu_c hn (by omega), e4, cp_to hj]
  clear e4 e5 e6 e7
  refine ⟨nm (c + 2), (D7.2 c 4).trans sc, sck, nm (b + 2), (D7.2 b 4).trans tc, tck, by decide, by decide, by decide, ?_, ?_, ?_⟩
  · rw [scn]; decide
  · rw [tcn]; decide
  intro h10 e10
  have D10 : xd nm [b, b + 1, b + 2] h h10 := by rw [e10]; exact xd.cp hn D7 (by simp)
  have Q10 : xq nm b h h10 := xq.of D10 (fun c hc => by simp at hc <;> omega)
  have g1 : xg_i h10 (nm b) 1 = xg_i h (nm c) 1 := by rw [e10, cp_no hn (by omega)]; exact f1
  have g2 : xg_i h10 (nm b) 2 = xg_i h (nm c) 2 := by rw [e10, cp_no hn (by omega)]; exact f2
  have g3 : xg_i h10 (nm b) 3 = xg_i h (nm c) 3 := by rw [e10, cp_no hn (by omega)]; exact f3
  have gt : ∀ j, j < 600 → xg_i h10 (nm (b + 1)) j = xg_i h (nm (c + 1)) j := fun j hj => by rw [e10, cp_no hn (by omega)]; exact ft j hj
  have gc : ∀ j, j < 4 → xg_i h10 (nm (b + 2)) j = xg_i h (nm (c + 2)) j := fun j hj => by
    rw [e10, cp_to hj]
    exact D7.i (c + 2) (by simp <;> omega) j
  clear e10
  refine lp (σ := xg_H) (R := fun k s => R56 (nI k) s) (fun k s => xq nm b h s ∧ (∀ j, xg_i s (nm b) j = xg_i h10 (nm b) j) ∧ (∀ j, xg_i s (nm (b + 1)) j = xg_i h10 (nm (b + 1)) j) ∧ (∀ j, xg_i s (nm (b + 2)) j = xg_i h10 (nm (b + 2)) j) ∧ ∀ j, j < k → TXe s b h c nm j) 0 8 (by decide) ?_ ?_ h10 ⟨Q10, fun _ => rfl, fun _ => rfl, fun _ => rfl, fun j hj => absurd hj (Nat.not_lt_zero j)⟩
  · rintro s ⟨e, sb, s1, s2, stx⟩
    refine c56 _ _ ⟨nm (b + 3), (e.2 b 5).trans tt, ttk, ?_⟩
    rw [ttn]
    exact bq_t (by decide) (q s e ⟨⟨(sb 1).trans g1, (sb 2).trans g2, (sb 3).trans g3⟩, fun j hj => (s1 j).trans (gt j hj), fun j hj => (s2 j).trans (gc j hj), stx⟩)
  · rintro k s _ hk ⟨e, sb, s1, s2, stx⟩ ih
    have Ts := T0.q hb e
    have Ss := S0.q hc e
    obtain ⟨tx0, tx⟩ := Ts.tx hk
    obtain ⟨sx0, sx⟩ := Ss.tx hk
    have hr := room_b (k / 2)
    have h34 : (if k < 2 then 4 else 0) < 1000 := by split <;> omega
    refine c56 _ _ ⟨nm (b + 3), (e.2 b 5).trans tt, ttk, ?_⟩
    rw [ttn]
    refine bq_f (nI_ge (b := 8) hk (by decide)) ⟨vp_in_nI hk (by decide), nm c, rfl, s9, nm (c + 3), (e.2 c 5).trans st, stk, ?_⟩
    rw [stn, nI_clamp (by omega), sx0]
    refine ⟨vp_in_nI hk (by decide), nm (b + 11 + k), tx0, tx.1, ?_⟩
    refine sp_become hn tx sx (by omega) (by omega) h34 (fun s2' e2 l2 r2 p2 => ?_)
    rintro _ rfl
    rw [nI_1]
    have src : ∀ i, c ≤ i → i < c + 50 → ∀ j, xg_i s (nm i) j = xg_i h (nm i) j := fun i h1 h2 j => (e.1 i (by omega) j).1
    refine ih s2' ⟨e.tr (xq.of e2 (fun c hc => by simp at hc <;> omega)), fun j => (e2.i b (by simp <;> omega) j).trans (sb j), fun j => (e2.i (b + 1) (by simp <;> omega) j).trans (s1 j), fun j => (e2.i (b + 2) (by simp <;> omega) j).trans (s2 j), fun j hj => ?_⟩
    by_cases ej : j = k
    · rw [ej]
      refine ⟨l2.trans (src _ (by omega) (by omega) 0), fun q9 hq => ⟨(r2 q9 hq).1.trans (src _ (by omega) (by omega) q9), (r2 q9 hq).2.trans (src _ (by omega) (by omega) q9)⟩, fun q9 hq => (p2 q9 hq).trans (src _ (by omega) (by omega) q9)⟩
    · obtain ⟨w1, w2, w3⟩ := stx j (by omega)
      refine ⟨(e2.i (b + 11 + j) (by simp <;> omega) 0).trans w1, fun q9 hq => ⟨(e2.i (b + 11 + j + 10) (by simp <;> omega) q9).trans (w2 q9 hq).1, (e2.i (b + 11 + j + 20) (by simp <;> omega) q9).trans (w2 q9 hq).2⟩, fun q9 hq => (e2.i (b + 11 + j + 30) (by simp <;> omega) q9).trans (w3 q9 hq)⟩
/-- it stands for the same rows -/
theorem TDe.rel {h2 h : xg_H} {b c : Nat} {nm : Nat → Nat} {p : Nat → Nat → Int32} (e : TDe h2 b h c nm) (R : xt_rel h (nm c) (fun i => nm (c + 1 + i)) p) : xt_rel h2 (nm b) (fun i => nm (b + 1 + i)) p := by
  obtain ⟨⟨e1, e2, e3⟩, et, ec, ex⟩ := e
  obtain ⟨⟨r1, r2, r3⟩, rt, rc, rx⟩ := R
  have x0 : ∀ j, j < 8 → xg_i h2 (nm (b + 1 + (10 + j))) 0 = xg_i h (nm (c + 1 + (10 + j))) 0 := fun j hj => by
    rw [show b + 1 + (10 + j) = b + 11 + j by omega, show c + 1 + (10 + j) = c + 11 + j by omega]
    exact (ex j hj).1
  have x1 : ∀ j, j < 8 → ∀ q, q < xt_room (j / 2) → xg_i h2 (nm (b + 1 + (20 + j))) q = xg_i h (nm (c + 1 + (20 + j))) q := fun j hj q hq => by
    rw [show b + 1 + (20 + j) = b + 11 + j + 10 by omega, show c + 1 + (20 + j) = c + 11 + j + 10 by omega]
    exact ((ex j hj).2.1 q hq).1
  have x2 : ∀ j, j < 8 → ∀ q, q < xt_room (j / 2) → xg_i h2 (nm (b + 1 + (30 + j))) q = xg_i h (nm (c + 1 + (30 + j))) q := fun j hj q hq => by
    rw [show b + 1 + (30 + j) = b + 11 + j + 20 by omega, show c + 1 + (30 + j) = c + 11 + j + 20 by omega]
    exact ((ex j hj).2.1 q hq).2
  have x3 : ∀ j, j < 2 → ∀ q, q < 4 → xg_i h2 (nm (b + 1 + (40 + j))) q = xg_i h (nm (c + 1 + (40 + j))) q := fun j hj q hq => by
    rw [show b + 1 + (40 + j) = b + 11 + j + 30 by omega, show c + 1 + (40 + j) = c + 11 + j + 30 by omega]
    exact (ex j (by omega)).2.2 q (by rw [if_pos hj]; exact hq)
  have tx : ∀ j n f1 f2, j < 8 → n ≤ xt_room (j / 2) → xt_text h (fun i => nm (c + 1 + i)) j n f1 f2 → xt_text h2 (fun i => nm (b + 1 + i)) j n f1 f2 := fun j n f1 f2 hj hn9 t => ⟨(x0 j hj).trans t.1, fun q hq => ⟨(x1 j hj q (by omega)).trans (t.2 q hq).1, (x2 j hj q (by omega)).trans (t.2 q hq).2⟩⟩
  refine ⟨⟨e1.trans r1, e2.trans r2, e3.trans r3⟩, fun j hj => (et j hj).trans (rt j hj), fun s hs => (ec s hs).trans (rc s hs), fun k hk => ?_⟩
  obtain ⟨⟨n0, a0, b0, c0, d0⟩, ⟨n1, a1, b1, c1⟩, ⟨n2, a2, b2, c2⟩, ⟨n3, a3, b3, c3, d3⟩⟩ := rx k hk
  refine ⟨⟨n0, a0, b0, tx _ _ _ _ (by omega) ?_ c0, fun q hq => (x3 (0 + k) (by omega) q (by omega)).trans (d0 q hq)⟩, ⟨n1, a1, b1, tx _ _ _ _ (by omega) ?_ c1⟩, ⟨n2, a2, b2, tx _ _ _ _ (by omega) ?_ c2⟩, ⟨n3, a3, b3, (x0 (6 + k) (by omega)).trans c3, fun q hq => (x1 (6 + k) (by omega) q ?_).trans (d3 q hq)⟩⟩
  · rw [show (0 + k) / 2 = 0 by omega]; exact a0
  · rw [show (2 + k) / 2 = 1 by omega]; exact a1
  · rw [show (4 + k) / 2 = 2 by omega]; exact a2
  · rw [show (6 + k) / 2 = 3 by omega]; show q < 6; omega
theorem sp_X11_again {Y : xg_Y} {Q : Int32 → xg_H → Prop} {h : xg_H} {nm : Nat → Nat} {x : Int32} {sv : Nat → Bool} (hn : inj nm) (k0 : xg_is Y (nm 0) 11) (o0 : xg_o h (nm 0) 0 = some (nm 100)) (o1 : xg_o h (nm 0) 1 = some (nm 40)) (k40 : xk Y nm 40 28 3) (im : ∀ k, k < 3 → (sv k = true → xg_o h (nm 40) k = some (nm (200 + 100 * k)) ∧ TLd Y h nm (200 + 100 * k)) ∧ (sv k = false → xg_o h (nm 40) k = none)) (T : TLd Y h nm 100)
    (q1 : ∀ k, k < 3 → x = nI k → sv k = true → ∀ h', xq nm 100 h h' → TDe h' 100 h (200 + 100 * k) nm → Q 1 h') (q0 : (∀ k, k < 3 → x = nI k → sv k = false) → Q 0 h) : wp_X11_again Y Q (nm 0) x h := by
  unfold wp_X11_again
  refine ⟨k0, ?_⟩
  by_cases c0 : x < 0
  · exact bq_t c0 (q0 (fun k hk e => by rw [e] at c0; exact absurd c0 (nI_pos (by omega))))
  refine bq_f c0 ?_
  obtain ⟨k, hk, ek⟩ := nI_of c0
  rw [ek]
  by_cases c3 : 3 ≤ k
  · exact bq_t (nI_le (a := 3) c3 hk) (q0 (fun k' hk' e => by have := (nI_eq hk (by omega)).mp (ek.symm.trans e); omega))
  refine bq_f (nI_ge (b := 3) (by omega) (by decide)) ⟨nm 40, o1, k40.1, ?_⟩
  rw [k40.2, nI_clamp (by omega)]
  refine ⟨vp_in_nI (by omega) (by decide), ?_⟩
  cases hs : sv k with
  | false =>
    rw [(im k (by omega)).2 hs]
    exact ⟨fun _ => q0 (fun k' hk' e => by have := (nI_eq hk (by omega)).mp (ek.symm.trans e); rw [← this]; exact hs), fun a c => (by cases c)⟩
  | true =>
    obtain ⟨i1, i2⟩ := (im k (by omega)).1 hs
    rw [i1]
    refine ⟨fun c => (by cases c), fun a _ => ⟨vp_in_nI (by omega) (by decide), nm 100, o0, T.1, ?_⟩⟩
    exact sp_X9_become hn (by decide) (by omega) (by omega) T i2 (fun h' e d => q1 k (by omega) ek hs h' e d)
