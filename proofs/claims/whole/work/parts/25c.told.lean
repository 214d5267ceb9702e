/-! the calls that change what is told: end, feed, again, image -/
theorem bt_A (y : Int32) : y.toInt8.toInt32 &&& 255 = y &&& 255 := by
  apply Int32.toBitVec_inj.1
  apply BitVec.eq_of_getLsbD_eq
  intro i hi
  show ((y.toBitVec.signExtend 8).signExtend 32 &&& (255 : Int32).toBitVec).getLsbD i = (y.toBitVec &&& (255 : Int32).toBitVec).getLsbD i
  rw [BitVec.getLsbD_and, BitVec.getLsbD_and]
  by_cases h8 : i < 8
  · rw [BitVec.getLsbD_signExtend, if_pos h8, BitVec.getLsbD_signExtend, if_pos hi]
    simp [h8, hi]
  · have h2 : (255 : Int32).toBitVec.getLsbD i = false := by
      have : ∀ j : Fin 32, ¬ j.val < 8 → (255 : Int32).toBitVec.getLsbD j.val = false := by decide +kernel
      exact this ⟨i, hi⟩ h8
    rw [h2, Bool.and_false, Bool.and_false]
theorem bt_B (x : Int32) (s : Nat) (hs : s ≤ 24) (n : UInt32) (m : Int32) (hn : n.toBitVec.toNat % 32 = s) (hm : (m.toBitVec.smod 32).toNat = s) : (x.toUInt32 >>> n).toInt32 &&& 255 = (x >>> m) &&& 255 := by
  apply Int32.toBitVec_inj.1
  apply BitVec.eq_of_getLsbD_eq
  intro i hi
  show ((x.toUInt32 >>> n).toBitVec &&& (255 : Int32).toBitVec).getLsbD i = ((x >>> m).toBitVec &&& (255 : Int32).toBitVec).getLsbD i
  rw [BitVec.getLsbD_and, BitVec.getLsbD_and]
  by_cases h8 : i < 8
  · have e1 : (x.toUInt32 >>> n).toBitVec.getLsbD i = x.toBitVec.getLsbD (s + i) := by
      rw [UInt32.toBitVec_shiftRight]
      show (x.toBitVec >>> (n.toBitVec % 32)).getLsbD i = _
      rw [BitVec.ushiftRight_eq', BitVec.getLsbD_ushiftRight, BitVec.toNat_umod]
      show x.toBitVec.getLsbD (n.toBitVec.toNat % 32 + i) = _
      rw [hn]
    have e2 : (x >>> m).toBitVec.getLsbD i = x.toBitVec.getLsbD (s + i) := by
      rw [Int32.toBitVec_shiftRight]
      show (x.toBitVec.sshiftRight' (m.toBitVec.smod 32)).getLsbD i = _
      rw [BitVec.sshiftRight', hm, BitVec.getLsbD_sshiftRight]
      have : s + i < 32 := by omega
      simp [hi, this]
    rw [e1, e2]
  · have h2 : (255 : Int32).toBitVec.getLsbD i = false := by
      have : ∀ j : Fin 32, ¬ j.val < 8 → (255 : Int32).toBitVec.getLsbD j.val = false := by decide +kernel
      exact this ⟨i, hi⟩ h8
    rw [h2, Bool.and_false, Bool.and_false]
theorem bt_24 (x : Int32) : xt_b x 24 = mp_byte x 24 &&& 255 := by
  unfold xt_b mp_byte
  rw [bt_A]
  exact bt_B x 24 (by decide) _ _ (by decide +kernel) (by decide +kernel)
theorem bt_16 (x : Int32) : xt_b x 16 = mp_byte x 16 &&& 255 := by
  unfold xt_b mp_byte
  rw [bt_A]
  exact bt_B x 16 (by decide) _ _ (by decide +kernel) (by decide +kernel)
theorem bt_8 (x : Int32) : xt_b x 8 = mp_byte x 8 &&& 255 := by
  unfold xt_b mp_byte
  rw [bt_A]
  exact bt_B x 8 (by decide) _ _ (by decide +kernel) (by decide +kernel)
theorem bt_0 (x : Int32) : xt_b x 0 = mp_byte x 0 &&& 255 := by
  unfold xt_b mp_byte
  rw [bt_A]
  exact bt_B x 0 (by decide) _ _ (by decide +kernel) (by decide +kernel)
theorem bt_nar (v : Int32) : vp_nar .byte v &&& 255 = v &&& 255 := bt_A v
/-- the tape as it is fed, on both sides -/
def FDr (nm : Nat → Nat) (h0 : xg_H) (g0 : mg_H) (h : xg_H) (g : mg_H) : Prop := xg_i h (nm 100) 1 = mg_i g 2 0 ∧ (∀ j, j < 600 → xg_i h (nm 101) j = mg_i g 1 j &&& 255) ∧ (∀ c j, c ≠ 101 → ¬ (c = 100 ∧ j = 1) → xg_i h (nm c) j = xg_i h0 (nm c) j) ∧ (∀ c j, xg_l h (nm c) j = xg_l h0 (nm c) j ∧ xg_o h (nm c) j = xg_o h0 (nm c) j) ∧ ∀ c j, ¬ (c = 2 ∧ j = 0) → ¬ (c = 1 ∧ j < 600) → mg_i g c j = mg_i g0 c j
theorem FD_put {nm : Nat → Nat} {h0 h : xg_H} {g0 g : mg_H} {i : Nat} {v v' : Int32} (hn : inj nm) (F : FDr nm h0 g0 h g) (hi : i < 600) (e : v = v' &&& 255) : FDr nm h0 g0 (xt_put h (nm 100) (nm 101) i v) (mp_put g i v') := by
  obtain ⟨f1, f2, f3, f4, f5⟩ := F
  unfold xt_put mp_put
  refine ⟨?_, fun j hj => ?_, fun c j hc hd => ?_, fun c j => ⟨(f4 c j).1, (f4 c j).2⟩, fun c j hc hd => ?_⟩
  · rw [xu hn, if_pos ⟨rfl, rfl⟩, mi_same]
  · rw [xu_c hn (by decide), xu hn, mi_cell (by decide), mi_ui]
    by_cases ej : j = i
    · rw [if_pos ⟨rfl, ej⟩, if_pos ⟨rfl, ej⟩]; exact e
    · rw [if_neg (fun c => ej c.2), if_neg (fun c => ej c.2)]; exact f2 j hj
  · rw [xu hn, if_neg (fun q => hd q), xu_c hn hc]; exact f3 c j hc hd
  · rw [mi_ui, if_neg hc, mi_ui, if_neg (fun q => hd ⟨q.1, by rw [q.2]; exact hi⟩)]; exact f5 c j hc hd
theorem FD_four {nm : Nat → Nat} {h0 h : xg_H} {g0 g : mg_H} {i : Nat} {x : Int32} (hn : inj nm) (F : FDr nm h0 g0 h g) (hi : i + 4 ≤ 600) : FDr nm h0 g0 (xt_four h (nm 100) (nm 101) i x) (mp_four g i x) := FD_put hn (FD_put hn (FD_put hn (FD_put hn F (by omega) (bt_24 x)) (by omega) (bt_16 x)) (by omega) (bt_8 x)) (by omega) (bt_0 x)
theorem FD_feed {nm : Nat → Nat} {h0 h : xg_H} {g0 g : mg_H} {i : Nat} {x1 x2 x3 x4 x5 : Int32} (hn : inj nm) (F : FDr nm h0 g0 h g) (hi : i + 20 ≤ 600) : FDr nm h0 g0 (xt_feed h (nm 100) (nm 101) i x1 x2 x3 x4 x5) (mp_feed g i x1 x2 x3 x4 x5) := FD_four hn (FD_four hn (FD_four hn (FD_four hn (FD_four hn F (by omega)) (by omega)) (by omega)) (by omega)) (by omega)
theorem feed_len {g : mg_H} {n : Nat} {a b c d e : Int32} : mg_i (mp_feed g n a b c d e) 2 0 = nI (n + 20) := mi_same
/-- Told changed: tape, length, fault; the texts stand -/
theorem REL_w {nm : Nat → Nat} {h h2 : xg_H} {b : Nat} {p p' : Nat → Nat → Int32} (R : REL h nm b p) (a1 : xg_i h2 (nm b) 1 = p' 2 0) (a2 : xg_i h2 (nm b) 2 = p' 3 0) (a3 : xg_i h2 (nm b) 3 = p' 4 0) (a4 : ∀ j, j < 600 → xg_i h2 (nm (b + 1)) j = p' 1 j &&& 255) (v : ∀ d, DT b 8 d → d ≠ b → d ≠ b + 1 → ∀ j, xg_i h2 (nm d) j = xg_i h (nm d) j) (e : ∀ c, 5 ≤ c → c ≤ 9 → ∀ j, j < rsz c → p' c j = p c j) : REL h2 nm b p' := by
  have q5 : ∀ j, j < 4 → p' 5 j = p 5 j := e 5 (by decide) (by decide)
  have q6 : ∀ j, j < 26 → p' 6 j = p 6 j := e 6 (by decide) (by decide)
  have q7 : ∀ j, j < 162 → p' 7 j = p 7 j := e 7 (by decide) (by decide)
  have q8 : ∀ j, j < 34 → p' 8 j = p 8 j := e 8 (by decide) (by decide)
  have q9 : ∀ j, j < 14 → p' 9 j = p 9 j := e 9 (by decide) (by decide)
  have e2 := v (b + 2) (Or.inr (Or.inr (Or.inl rfl))) (by omega) (by omega)
  have x1 : ∀ j, j < 8 → ∀ q, xg_i h2 (nm (b + 1 + (10 + j))) q = xg_i h (nm (b + 1 + (10 + j))) q := fun j hj q => v _ (Or.inr (Or.inr (Or.inr (Or.inr ⟨j, hj, Or.inl (by omega)⟩)))) (by omega) (by omega) q
  have x2 : ∀ j, j < 8 → ∀ q, xg_i h2 (nm (b + 1 + (20 + j))) q = xg_i h (nm (b + 1 + (20 + j))) q := fun j hj q => v _ (Or.inr (Or.inr (Or.inr (Or.inr ⟨j, hj, Or.inr (Or.inl (by omega))⟩)))) (by omega) (by omega) q
  have x3 : ∀ j, j < 8 → ∀ q, xg_i h2 (nm (b + 1 + (30 + j))) q = xg_i h (nm (b + 1 + (30 + j))) q := fun j hj q => v _ (Or.inr (Or.inr (Or.inr (Or.inr ⟨j, hj, Or.inr (Or.inr (Or.inl (by omega)))⟩)))) (by omega) (by omega) q
  have x4 : ∀ j, j < 8 → ∀ q, xg_i h2 (nm (b + 1 + (40 + j))) q = xg_i h (nm (b + 1 + (40 + j))) q := fun j hj q => v _ (Or.inr (Or.inr (Or.inr (Or.inr ⟨j, hj, Or.inr (Or.inr (Or.inr (by omega)))⟩)))) (by omega) (by omega) q
  obtain ⟨_, _, r5, r6⟩ := R
  refine ⟨⟨a1, a2, a3⟩, a4, fun s hs => (e2 s).trans ((r5 s hs).trans (q5 s hs).symm), fun k hk => ?_⟩
  obtain ⟨⟨n, a1, a2, ⟨a3, a4⟩, a5⟩, ⟨n', b1, b2, b3, b4⟩, ⟨n2, c1, c2, c3, c4⟩, ⟨n3, d1, d2, d3, d4⟩⟩ := r6 k hk
  refine ⟨⟨n, a1, (q6 _ (by omega)).trans a2, ⟨(x1 _ (by omega) _).trans a3, fun q hq => ⟨(x2 _ (by omega) _).trans ((a4 q hq).1.trans (q6 _ (by omega)).symm), (x3 _ (by omega) _).trans ((a4 q hq).2.trans (q6 _ (by omega)).symm)⟩⟩, fun q hq => (x4 _ (by omega) _).trans ((a5 q hq).trans (q6 _ (by omega)).symm)⟩, ⟨n', b1, (q7 _ (by omega)).trans b2, (x1 _ (by omega) _).trans b3, fun q hq => ⟨(x2 _ (by omega) _).trans ((b4 q hq).1.trans (q7 _ (by omega)).symm), (x3 _ (by omega) _).trans ((b4 q hq).2.trans (q7 _ (by omega)).symm)⟩⟩, ⟨n2, c1, (q8 _ (by omega)).trans c2, (x1 _ (by omega) _).trans c3, fun q hq => ⟨(x2 _ (by omega) _).trans ((c4 q hq).1.trans (q8 _ (by omega)).symm), (x3 _ (by omega) _).trans ((c4 q hq).2.trans (q8 _ (by omega)).symm)⟩⟩, ⟨n3, d1, (q9 _ (by omega)).trans d2, (x1 _ (by omega) _).trans d3, fun q hq => (x2 _ (by omega) _).trans ((d4 q hq).trans (q9 _ (by omega)).symm)⟩⟩
/-- only Told and scratch cells were written -/
theorem CW_told {Y : xg_Y} {h h2 : xg_H} {nm : Nat → Nat} {p p2 : Nat → Nat → Int32} {pk : Nat → Nat → Nat → Int32} {sv : Nat → Bool} {b : Nat → Nat} (C : CW Y h nm p pk sv b) (so : ∀ c j, ¬ exS c j → xg_o h2 (nm c) j = xg_o h (nm c) j) (v : ∀ c, (c = 31 ∨ c = 32 ∨ 150 ≤ c) → ∀ j, xg_i h2 (nm c) j = xg_i h (nm c) j ∧ xg_l h2 (nm c) j = xg_l h (nm c) j) (R : REL h2 nm 100 p2) : CW Y h2 nm p2 pk sv b := by
  have S := C.2.2.2.2.1
  refine CW_n C so R ⟨fun c hc => ?_, fun c hc => ?_⟩ (fun k hk d hd j => (v d (by have := (dt_ge hd).1; omega) j).1) (fun i hi => ?_)
  · rw [(v 32 (by omega) c).1]; exact S.2.1 c hc
  · rw [(v 31 (by omega) c).1]; exact S.2.2 c hc
  · exact BK_s (grs_n (Y := Y) so) rfl (so 41 i (exS_n (by decide) (by decide))) (fun _ _ _ => trivial) trivial (fun _ d hd j => v d (by unfold BNs at hd; omega) j) (C.2.2.2.2.2.2 i hi)
theorem VAL_w {p p' : Nat → Nat → Int32} {L : Nat} (hL : L ≤ 600) (eL : p' 2 0 = nI L) (e : ∀ c, 5 ≤ c → c ≤ 9 → ∀ j, j < rsz c → p' c j = p c j) (V : VAL p) : VAL p' := by
  obtain ⟨v1, _, v3, v4, v5, v6⟩ := V
  have q5 : ∀ j, j < 4 → p' 5 j = p 5 j := e 5 (by decide) (by decide)
  refine ⟨fun s hs => ?_, ⟨L, hL, eL⟩, fun k x hx => ?_, fun k x hx => ?_, fun k x hx => ?_, fun k x hx => ?_⟩
  · obtain ⟨m, hm, em⟩ := v1 s hs
    exact ⟨m, hm, (q5 s hs).trans em⟩
  · obtain ⟨n, z, t, pr, S⟩ := v3 k x (okN_b (q5 0 (by decide)) hx)
    exact ⟨n, z, t, pr, SR_b (e 6 (by decide) (by decide)) hx.2.1 S⟩
  · obtain ⟨m, kd, yy, S⟩ := v4 k x (okN_b (q5 1 (by decide)) hx)
    exact ⟨m, kd, yy, DY_b (e 7 (by decide) (by decide)) hx.2.1 S⟩
  · obtain ⟨m, kd, yy, S⟩ := v5 k x (okN_b (q5 2 (by decide)) hx)
    exact ⟨m, kd, yy, LG_b (e 8 (by decide) (by decide)) hx.2.1 S⟩
  · obtain ⟨n, sp, S⟩ := v6 k x (okN_b (q5 3 (by decide)) hx)
    exact ⟨n, sp, OR_b (e 9 (by decide) (by decide)) hx.2.1 S⟩
/-- behind a call that changes Told -/
theorem IV_t {a k n : Nat} {Y : xg_Y} {h h' : xg_H} {g g2 : mg_H} {nm b : Nat → Nat} {sv : Nat → Bool} (V : IVx a k n Y h g nm b sv) (C : CW Y h' nm (mg_i g2) (pkf g) sv b) (W : VAL (mg_i g2)) (ek : ∀ i, i < 3 → agB (pkf g i) (pkf g2 i)) (e60 : ∀ i, i < 3 → mg_i g2 60 i = mg_i g 60 i) : INV a k n Y h' g2 := by
  obtain ⟨v0, _, _, v3, v4, v5⟩ := V
  exact ⟨nm, b, sv, v0, CW_p C agB.rf (fun k hk _ => ek k hk), W, fun i hi s => VAL_b (ek i hi) (v3 i hi s), fun i hi => (e60 i hi).trans (v4 i hi), v5⟩
/-- rows from frame 1 on stand -/
theorem ag_k {g g2 : mg_H} {i : Nat} (e1 : ∀ j, 600 ≤ j → mg_i g2 1 j = mg_i g 1 j) (e : ∀ c, 2 ≤ c → c ≤ 9 → ∀ j, rsz c ≤ j → mg_i g2 c j = mg_i g c j) : agB (pkf g i) (pkf g2 i) := by
  refine ⟨fun j _ => ?_, fun c h2 h9 j _ => ?_⟩
  · show mg_i g2 1 (600 * (i + 1) + j) &&& 255 = mg_i g 1 (600 * (i + 1) + j) &&& 255
    rw [e1 _ (by omega)]
  · show mg_i g2 c (rsz c * (i + 1) + j) = mg_i g c (rsz c * (i + 1) + j)
    refine e c h2 h9 _ ?_
    rw [Nat.mul_add, Nat.mul_one]
    omega
theorem rsz_p : ∀ c, c ≤ 9 → 1 ≤ rsz c := by decide
theorem lw_1 {X : lg_X} {a : Nat} {R : Int32 → Nat → Nat → xg_Y → xg_H → mg_H → Prop} {y3 : Int32} {k n : Nat} {Y : xg_Y} {h : xg_H} {g : mg_H} {nm b : Nat → Nat} {sv : Nat → Bool} (V : IVx a k n Y h g nm b sv) (hv : vps X y3) (ih : ∀ k n Y h g, INV a k n Y h g → R (y3 + 6) k n Y h g) : wp_law_1 X a R y3 k n Y h g := by
  obtain ⟨w1, w2, w3, w4, w5⟩ := hv
  have C := V.2.1
  have hn := C.1
  have rm := IV_room V
  obtain ⟨L, hL, eL⟩ := V.2.2.1.2.1
  unfold wp_law_1
  refine ⟨w1, IV_is V, rm, ?_⟩
  generalize lg_xs X (y3 + 1).toNatClampNeg = x1
  rw [← V.1]
  refine sp_X11_end ⟨C.2.1.1, C.2.1.2.1⟩ C.2.2.1.1 C.2.2.1.2 (fun a1 a2 => ⟨w1, rm, sp_end (fun _ _ => lfin rfl (ih _ _ _ _ _ ?_)) (fun c => absurd ⟨a1, a2⟩ (mp_not c))⟩) (fun c => ⟨w1, rm, sp_end (fun a1 a2 => absurd ⟨a1, a2⟩ (mp_not c)) (fun _ => lfin rfl (ih _ _ _ _ _ (IV_q0 V C rz_s)))⟩)
  have hxr : nI 0 ≤ x1 ∧ x1 ≤ nI L := ⟨a1, by rw [← eL]; exact a2⟩
  obtain ⟨T, eT, _, hT⟩ := rgN (lo := 0) hxr (by omega)
  have m2 : mg_i (mg_ui (mg_ui g 0 0 0) 2 0 x1) 2 0 = x1 := mi_same
  have mo : ∀ c j, c ≠ 0 → ¬ (c = 2 ∧ j = 0) → mg_i (mg_ui (mg_ui g 0 0 0) 2 0 x1) c j = mg_i g c j := fun c j hc hd => by
    rw [mi_ui, if_neg hd, mi_cell hc]
  have R0 := C.2.2.1.2
  refine IV_t V (CW_told C (fun c j _ => rfl) (fun c hc j => ⟨xu_c hn (by omega), rfl⟩) (REL_w R0 ?_ ?_ ?_ (fun j hj => ?_) (fun d _ d1 _ j => xu_c hn d1) (fun c h5 h9 j _ => mo c j (by omega) (by omega)))) (VAL_w (L := T) (by omega) (m2.trans eT) (fun c h5 h9 j _ => mo c j (by omega) (by omega)) V.2.2.1) (fun i _ => ag_k (fun j hj => mo 1 j (by decide) (by omega)) (fun c h2 h9 j hj => mo c j (by omega) (by have := rsz_p c h9; omega))) (fun i _ => mo 60 i (by decide) (by omega))
  · rw [xu hn, if_pos ⟨rfl, rfl⟩, m2]
  · rw [xu_p hn (by decide), mo 3 0 (by decide) (by decide)]; exact R0.1.2.1
  · rw [xu_p hn (by decide), mo 4 0 (by decide) (by decide)]; exact R0.1.2.2
  · rw [xu_c hn (by decide), mo 1 j (by decide) (by omega)]; exact R0.2.1 j hj
theorem lw_0 {X : lg_X} {a : Nat} {R : Int32 → Nat → Nat → xg_Y → xg_H → mg_H → Prop} {y3 : Int32} {k n : Nat} {Y : xg_Y} {h : xg_H} {g : mg_H} {nm b : Nat → Nat} {sv : Nat → Bool} (V : IVx a k n Y h g nm b sv) (hv : vps X y3) (ih : ∀ k n Y h g, INV a k n Y h g → R (y3 + 6) k n Y h g) : wp_law_0 X a R y3 k n Y h g := by
  obtain ⟨w1, w2, w3, w4, w5⟩ := hv
  have C := V.2.1
  have hn := C.1
  have rm := IV_room V
  obtain ⟨L, hL, eL⟩ := V.2.2.1.2.1
  unfold wp_law_0
  refine ⟨w1, w2, w3, w4, w5, IV_is V, rm, ?_⟩
  generalize lg_xs X (y3 + 1).toNatClampNeg = x1
  generalize lg_xs X (y3 + 2).toNatClampNeg = x2
  generalize lg_xs X (y3 + 3).toNatClampNeg = x3
  generalize lg_xs X (y3 + 4).toNatClampNeg = x4
  generalize lg_xs X (y3 + 5).toNatClampNeg = x5
  rw [← V.1]
  have R0 := C.2.2.1.2
  refine sp_X11_feed (n := L) ⟨C.2.1.1, C.2.1.2.1⟩ C.2.2.1.1 (R0.1.1.trans eL) hL (fun h20 => ⟨w1, w2, w3, w4, w5, rm, sp_feed hL eL (fun _ => lfin rfl (ih _ _ _ _ _ ?_)) (fun c => absurd h20 (by omega))⟩) (fun h20 => ⟨w1, w2, w3, w4, w5, rm, sp_feed hL eL (fun c => absurd h20 (by omega)) (fun _ => lfin rfl (ih _ _ _ _ _ (IV_q0 V C rz_s)))⟩)
  have F0 : FDr nm h (mg_ui g 0 0 0) h (mg_ui g 0 0 0) := ⟨R0.1.1, R0.2.1, fun _ _ _ _ => rfl, fun _ _ => ⟨rfl, rfl⟩, fun _ _ _ _ => rfl⟩
  have F := FD_feed (x1 := x1) (x2 := x2) (x3 := x3) (x4 := x4) (x5 := x5) hn F0 h20
  have fl := feed_len (g := mg_ui g 0 0 0) (n := L) (a := x1) (b := x2) (c := x3) (d := x4) (e := x5)
  show INV a k n Y (xt_feed h (nm 100) (nm 101) L x1 x2 x3 x4 x5) (mp_feed (mg_ui g 0 0 0) L x1 x2 x3 x4 x5)
  generalize xt_feed h (nm 100) (nm 101) L x1 x2 x3 x4 x5 = h2 at F ⊢
  generalize mp_feed (mg_ui g 0 0 0) L x1 x2 x3 x4 x5 = g2 at F fl ⊢
  obtain ⟨f1, f2, f3, f4, f5⟩ := F
  have mo : ∀ c j, c ≠ 0 → ¬ (c = 2 ∧ j = 0) → ¬ (c = 1 ∧ j < 600) → mg_i g2 c j = mg_i g c j := fun c j hc h1 h2 => (f5 c j h1 h2).trans (mi_cell hc)
  refine IV_t V (CW_told C (fun c j _ => (f4 c j).2) (fun c hc j => ⟨f3 c j (by omega) (by omega), (f4 c j).1⟩) (REL_w R0 f1 ?_ ?_ f2 (fun d _ d1 d2 j => f3 d j (by omega) (by omega)) (fun c h5 h9 j _ => mo c j (by omega) (by omega) (by omega)))) (VAL_w (L := L + 20) (by omega) fl (fun c h5 h9 j _ => mo c j (by omega) (by omega) (by omega)) V.2.2.1) (fun i _ => ag_k (fun j hj => mo 1 j (by decide) (by omega) (by omega)) (fun c h2 h9 j hj => mo c j (by omega) (by have := rsz_p c h9; omega) (by omega))) (fun i _ => mo 60 i (by decide) (by omega) (by omega))
  · rw [f3 100 2 (by decide) (by decide), mo 3 0 (by decide) (by decide) (by decide)]; exact R0.1.2.1
  · rw [f3 100 3 (by decide) (by decide), mo 4 0 (by decide) (by decide) (by decide)]; exact R0.1.2.2
