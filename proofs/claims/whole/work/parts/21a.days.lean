/-! the drawn day, the state, what was after -/
def dU (s : Int32) : Int32 := ((s.toUInt32 >>> ((16 : Int32).toUInt32 &&& Int32.toUInt32 31)).toInt32)
def dN (s : Int32) : Nat := s.toUInt32.toNat / 65536
theorem dN_lt (s : Int32) : dN s < 65536 := by
  have := s.toUInt32.toNat_lt
  unfold dN
  omega
theorem dU_eq (s : Int32) : dU s = nI (dN s) := by
  have h : (s.toUInt32 >>> ((16 : Int32).toUInt32 &&& Int32.toUInt32 31)).toNat = dN s := by
    rw [UInt32.toNat_shiftRight]
    rw [show ((16 : Int32).toUInt32 &&& Int32.toUInt32 31).toNat % 32 = 16 by decide, Nat.shiftRight_eq_div_pow]
    rfl
  unfold dU
  rw [← h]
  show _ = (UInt32.ofNat _).toInt32
  rw [UInt32.ofNat_toNat]
def sn (s : Int32) : Int32 := s * 1103515245 + 12345
def dR (s : Int32) (m : Nat) : Nat := dN (sn s) % m
theorem dR_lt {s : Int32} {m : Nat} (hm : 0 < m) : dR s m < m := Nat.mod_lt _ hm
def dkd (r : Nat) : Nat := if r < 3 then 0 else if r < 6 then 1 else if r = 6 then 2 else if r < 9 then 3 else 4
theorem dkd_le (r : Nat) : dkd r ≤ 4 := by
  unfold dkd
  split
  · omega
  · split
    · omega
    · split
      · omega
      · split <;> omega
/-- one deed drawn -/
def dE (n : Nat) (w : wS) (r a b : Nat) (s1 s2 : Int32) : wS × Int32 := if r < 3 then ((wD n 0 (1 + a) w).2, s2) else if n = 0 then (w, s1) else ((wD n (dkd r) b w).2, s2)
def dD (n : Nat) (w : wS) (s : Int32) : wS × Int32 := dE n w (dR s 10) (dR (sn s) 9) (dR (sn s) n) (sn s) (sn (sn s))
theorem dD_of {n r a b : Nat} {w : wS} {s s1 s2 : Int32} (er : r = dR s 10) (e1 : s1 = sn s) (ea : a = dR s1 9) (eb : b = dR s1 n) (e2 : s2 = sn s1) : dD n w s = dE n w r a b s1 s2 := by
  unfold dD
  rw [e2, ea, eb, e1, er]
def dT (n : Nat) (w : wS) (s : Int32) : Nat → wS × Int32
  | 0 => (w, s)
  | j + 1 => dD n (dT n w s j).1 (dT n w s j).2
theorem dE_K {n d r a b : Nat} {w : wS} {s1 s2 : Int32} (K : wK n d w) : wK n (d + 1) (dE n w r a b s1 s2).1 := by
  unfold dE
  by_cases h1 : r < 3
  · rw [if_pos h1]; exact wD_K K
  · rw [if_neg h1]
    by_cases h2 : n = 0
    · rw [if_pos h2]; exact K.mono (by omega)
    · rw [if_neg h2]; exact wD_K K
theorem dD_K {n d : Nat} {w : wS} {s : Int32} (K : wK n d w) : wK n (d + 1) (dD n w s).1 := by
  rw [dD_of rfl rfl rfl rfl rfl]
  exact dE_K K
theorem dT_K {n d : Nat} {w : wS} {s : Int32} (K : wK n d w) : ∀ j, wK n (d + j) (dT n w s j).1
  | 0 => K
  | j + 1 => dD_K (dT_K K j)
theorem dr_I {s : Int32} {m : Nat} (hm : 0 < m) (hm2 : m < 1000) : dU (sn s) - dU (sn s) / nI m * nI m = nI (dR s m) := by
  have := dN_lt (sn s)
  rw [dU_eq, pk_rem (by omega) hm (by omega)]
  rfl
-- the reference
theorem DR.d59 {g : mg_H} {n : Nat} {w : wS} {v : Int32} (D : DR g n w) : DR (mg_ui g 0 59 v) n w := by
  obtain ⟨a1, a2, a3, a4, a5, a6, a7, a8, a9, a10⟩ := D
  refine ⟨?_, ?_, ?_, ?_, ?_, ?_, ?_, ?_, fun j hj => ⟨?_, ?_, ?_⟩, fun t ht => ?_⟩
  · rw [mi_place (by decide)]; exact a1
  · rw [mi_place (by decide)]; exact a2
  · rw [mi_place (by decide)]; exact a3
  · rw [mi_place (by decide)]; exact a4
  · rw [mi_place (by decide)]; exact a5
  · rw [mi_place (by decide)]; exact a6
  · rw [mi_place (by decide)]; exact a7
  · rw [mi_place (by decide)]; exact a8
  · exact (a9 j hj).1
  · exact (a9 j hj).2.1
  · exact (a9 j hj).2.2
  · exact a10 t ht
theorem sp_draw {Q : Int32 → mg_H → Prop} {h : mg_H} {s : Int32} {m : Nat} (h59 : mg_i h 0 59 = s) (hm : 0 < m) (hm2 : m < 1000) (q : ∀ r s1, r = dR s m → s1 = sn s → r < m → Q (nI r) (mg_ui h 0 59 s1)) : wp_draw Q (nI m) h := by
  unfold wp_draw
  rw [h59]
  rintro _ rfl
  rw [mi_same]
  have e := dr_I (s := s) hm hm2
  have q := q _ _ rfl rfl (dR_lt hm)
  unfold dU at e
  refine ⟨fun c => ?_, ?_⟩
  · have := (nI_eq (a := m) (b := 0) (by omega) (by decide)).mp c
    omega
  · rw [← e] at q
    unfold sn at q
    exact q
def lE : List Nat := [30, 31, 32, 33, 34, 35, 36, 59]
theorem md_lE {g g2 : mg_H} (e : md [27, 28, 37, 38] lD g g2) : md [27, 28, 37, 38] lE g g2 := ⟨e.1, fun j hj => e.2 j (fun c => hj (by unfold lD at c; unfold lE; simp at c ⊢; omega))⟩
theorem md_59 {g : mg_H} {v : Int32} : md [27, 28, 37, 38] lE g (mg_ui g 0 59 v) := ⟨fun c h0 _ j => by rw [mi_ui, if_neg (fun q => h0 q.1)], fun j hj => mi_place (fun c => hj (by rw [c]; unfold lE; simp))⟩
theorem sp_drawDeed {Q : mg_H → Prop} {h : mg_H} {n d : Nat} {w : wS} {s : Int32} (D : DR h n w) (K : wK n d w) (hd : d < 1000) (h59 : mg_i h 0 59 = s) (q : ∀ h', md [27, 28, 37, 38] lE h h' → DR h' n (dD n w s).1 → mg_i h' 0 59 = (dD n w s).2 → Q h') : wp_drawDeed Q h := by
  have hn4 := K.1
  unfold wp_drawDeed
  intro R68 c68
  refine sp_draw (m := 10) h59 (by decide) (by decide) (fun r s1 er es1 hr => ?_)
  have D1 : DR (mg_ui h 0 59 s1) n w := D.d59
  have f1 : mg_i (mg_ui h 0 59 s1) 0 59 = s1 := mi_same
  have e1 : md [27, 28, 37, 38] lE h (mg_ui h 0 59 s1) := md_59
  revert D1 f1 e1
  generalize mg_ui h 0 59 s1 = g1
  intro D1 f1 e1
  by_cases h3 : r < 3
  · refine bq_f (nI_ge (b := 3) h3 (by decide)) ?_
    refine sp_draw (m := 9) f1 (by decide) (by decide) (fun a s2 ea es2 ha => ?_)
    have D2 : DR (mg_ui g1 0 59 s2) n w := D1.d59
    have f2 : mg_i (mg_ui g1 0 59 s2) 0 59 = s2 := mi_same
    have e2 : md [27, 28, 37, 38] lE g1 (mg_ui g1 0 59 s2) := md_59
    revert D2 f2 e2
    generalize mg_ui g1 0 59 s2 = g2
    intro D2 f2 e2
    rw [dD_of er es1 ea rfl es2] at q
    unfold dE at q
    rw [if_pos h3] at q
    rw [nl_1, nI_add]
    exact sp_doesW (kd := 0) D2 K hd (by decide) (by omega) (fun g3 e3 D3 => q g3 ((e1.tr e2).tr (md_lE e3)) D3 ((e3.2 59 (by decide)).trans f2))
  · refine bq_t (nI_le (a := 3) (by omega) (by omega)) ?_
    rw [D1.1]
    by_cases h0 : n = 0
    · rw [dD_of er es1 rfl rfl rfl] at q
      unfold dE at q
      rw [if_neg h3, if_pos h0] at q
      exact bq_t (by rw [h0]; decide) (q g1 e1 D1 f1)
    refine bq_f (nI_ge (a := 0) (by omega) (by omega)) ?_
    have key : R68 (nI (dkd r)) g1 := by
      refine c68 _ _ ?_
      rw [D1.1]
      refine sp_draw (m := n) f1 (by omega) (by omega) (fun b s2 eb es2 hb => ?_)
      have D2 : DR (mg_ui g1 0 59 s2) n w := D1.d59
      have f2 : mg_i (mg_ui g1 0 59 s2) 0 59 = s2 := mi_same
      have e2 : md [27, 28, 37, 38] lE g1 (mg_ui g1 0 59 s2) := md_59
      revert D2 f2 e2
      generalize mg_ui g1 0 59 s2 = g2
      intro D2 f2 e2
      rw [dD_of er es1 rfl eb es2] at q
      unfold dE at q
      rw [if_neg h3, if_neg h0] at q
      exact sp_doesW D2 K hd (dkd_le _) (by omega) (fun g3 e3 D3 => q g3 ((e1.tr e2).tr (md_lE e3)) D3 ((e3.2 59 (by decide)).trans f2))
    clear q er
    unfold dkd at key
    rw [if_neg h3] at key
    by_cases h6 : r < 6
    · rw [if_pos h6] at key
      exact bq_f (nI_ge (b := 6) h6 (by decide)) key
    rw [if_neg h6] at key
    refine bq_t (nI_le (a := 6) (by omega) (by omega)) ?_
    by_cases h7 : r = 6
    · rw [if_pos h7] at key
      exact bq_nf (by rw [h7]; rfl) key
    rw [if_neg h7] at key
    refine bq_nt (fun c => h7 ((nI_eq (b := 6) (by omega) (by decide)).mp c)) ?_
    by_cases h8 : r < 9
    · rw [if_pos h8] at key
      exact bq_f (nI_ge (b := 9) h8 (by decide)) key
    rw [if_neg h8] at key
    exact bq_t (nI_le (a := 9) (by omega) (by omega)) key
theorem lE_same {g g2 : mg_H} (h : md [27, 28, 37, 38] lE g g2) : mp_same g g2 := h.same (by decide)
/-- drawn: shelf k, seed x2, m deeds -/
theorem sp_drawnV {Q : Int32 → mg_H → Prop} {h : mg_H} {x1 x2 x4 : Int32} {k n m : Nat} {z t pr : Nat → Nat} (oks : mp_shs h) (hx : okN (mg_i h) 0 x1 k) (hm : m ≤ 60) (S : SR (mg_i h) k n z t pr) (q : ∀ v h', mp_same h h' → SV n (dT n (w0 z t) x2 m).1 x4 v → Q v h') : wp_drawn Q x1 x2 (nI m) x4 h := by
  obtain ⟨ex, hk2, hv⟩ := hx
  rw [ex]
  unfold wp_drawn
  intro R37 c37
  rintro _ rfl
  refine sp_in (fun _ _ => bq_f (by decide) ?_) (fun c => absurd ⟨nI_le (a := 0) (Nat.zero_le m) (by omega), nI_le (b := 60) hm (by decide)⟩ (mp_not c))
  refine sp_handS (shs_u0 oks) hv hk2 S (fun h2 e2 H2 f23 f24 f28 => bq_nt (by decide) ?_)
  refine sp_beginDayW S.1 f24 H2.1 f28 (fun h3 e3 D3 => ?_)
  rintro _ rfl
  have e0 : mp_same h (mg_ui h3 0 59 x2) := (((mp_ui mp_same.rf (by decide)).tr (e2.same (by decide))).tr (e3.same (by decide))).tr (mp_ui mp_same.rf (by decide))
  have K0 := w0_K S.sh
  refine lp (σ := mg_H) (R := fun j g => R37 (nI j) g) (fun j g => mp_same h g ∧ DR g n (dT n (w0 z t) x2 j).1 ∧ mg_i g 0 59 = (dT n (w0 z t) x2 j).2) 0 m (Nat.zero_le m) ?_ ?_ _ ⟨e0, D3.d59, mi_same⟩
  · rintro g ⟨e, Dg, f⟩
    exact c37 _ _ (bq_t (nI_le (Nat.le_refl m) (by omega)) (sp_ofStateW Dg (dT_K K0 m) (fun v hv => q v g e hv)))
  · rintro j g _ hj ⟨e, Dg, f⟩ ih
    refine c37 _ _ (bq_f (nI_ge hj (by omega)) ?_)
    refine sp_drawDeed (d := 0 + j) Dg (dT_K K0 j) (by omega) f (fun g2 e2 D2 f2 => ?_)
    rintro _ rfl
    rw [nI_1]
    exact ih g2 ⟨e.tr (lE_same e2), D2, f2⟩
theorem sp_drawn0 {Q : Int32 → mg_H → Prop} {h : mg_H} {x1 x2 x3 x4 : Int32} (oks : mp_shs h) (hx : noN (mg_i h) 0 x1 ∨ ¬ (0 ≤ x3 ∧ x3 ≤ 60)) (q : ∀ h', mp_same h h' → Q nM h') : wp_drawn Q x1 x2 x3 x4 h := by
  unfold wp_drawn
  intro R37 c37
  rintro _ rfl
  refine sp_in (fun a b => bq_f (by decide) ?_) (fun c => bq_t rfl (q _ (mp_ui mp_same.rf (by decide))))
  rcases hx with c | c
  · exact sp_hand1 (shs_u0 oks) c (bq_nf rfl (q _ (mp_ui mp_same.rf (by decide))))
  · exact absurd ⟨a, b⟩ c
/-- the state after the first N deeds -/
def STv (n : Nat) (z t kd yy : Nat → Nat) (N : Nat) (x v : Int32) : Prop := ∃ j, wE n kd yy (w0 z t) N j ∧ (j = N ∧ SV n (wT n kd yy (w0 z t) N) x v ∨ j ≠ N ∧ v = nM)
theorem STv_one {n N : Nat} {z t kd yy : Nat → Nat} {x v v' : Int32} (a : STv n z t kd yy N x v) (b : STv n z t kd yy N x v') : v = v' := by
  obtain ⟨j, e, a⟩ := a
  obtain ⟨j', e', b⟩ := b
  have := wE_one e e'
  rcases a with ⟨a1, a2⟩ | ⟨a1, a2⟩
  · rcases b with ⟨b1, b2⟩ | ⟨b1, b2⟩
    · exact SV_one a2 b2
    · omega
  · rcases b with ⟨b1, b2⟩ | ⟨b1, b2⟩
    · omega
    · rw [a2, b2]
theorem sp_stateV {Q : Int32 → mg_H → Prop} {h : mg_H} {x y x4 : Int32} {k d n m N : Nat} {z t pr kd yy : Nat → Nat} (okd : mp_days h) (oks : mp_shs h) (hx : okN (mg_i h) 0 x k) (hy : okN (mg_i h) 1 y d) (hN : N ≤ m) (S : SR (mg_i h) k n z t pr) (D : DY (mg_i h) d m kd yy) (q : ∀ v h', mp_same h h' → STv n z t kd yy N x4 v → Q v h') : wp_state Q x y (nI N) x4 h := by
  have hm40 := D.1
  unfold wp_state
  rintro _ rfl
  refine sp_layAllV (h := mg_ui h 0 0 0) okd oks hx hy S (fun h1 e1 D1 f29 => bq_f (by decide) ?_)
  have e0 : mp_same h h1 := (mp_ui mp_same.rf (by decide)).tr e1
  have DY1 := DYx D e0
  refine sp_deeds (d := d) (by have := hy.2.1; omega) f29 ?_
  rw [DY1.2.1]
  refine sp_in (fun _ _ => bq_f (by decide) ?_) (fun c => absurd ⟨nI_le (a := 0) (Nat.zero_le N) (by omega), nI_le hN (by omega)⟩ (mp_not c))
  refine sp_playW D1 (w0_K S.sh) f29 hy.2.1 DY1 hN (fun j h2 e2 E D2 => ?_)
  have e3 : mp_same h h2 := e0.tr (lD_same e2)
  have hj := E.1
  by_cases c : j = N
  · refine bq_nf (by rw [c]) ?_
    rw [c] at D2
    exact sp_ofStateW D2 (wT_K (w0_K S.sh) N) (fun v hv => q v h2 e3 ⟨j, E, Or.inl ⟨c, hv⟩⟩)
  · exact bq_nt (fun c2 => c ((nI_eq (by omega) (by omega)).mp c2)) (q _ h2 e3 ⟨j, E, Or.inr ⟨c, rfl⟩⟩)
theorem sp_state0 {Q : Int32 → mg_H → Prop} {h : mg_H} {x y x3 x4 : Int32} (okd : mp_days h) (oks : mp_shs h) (hxy : noN (mg_i h) 0 x ∨ noN (mg_i h) 1 y) (hS : ∀ k, okN (mg_i h) 0 x k → ∃ n z t pr, SR (mg_i h) k n z t pr) (q : ∀ h', mp_same h h' → Q nM h') : wp_state Q x y x3 x4 h := by
  unfold wp_state
  rintro _ rfl
  exact sp_layAll0 (h := mg_ui h 0 0 0) okd oks hxy hS (fun h1 e1 => bq_t rfl (q h1 ((mp_ui mp_same.rf (by decide)).tr e1)))
theorem sp_state1 {Q : Int32 → mg_H → Prop} {h : mg_H} {x y x3 x4 : Int32} {k d n m : Nat} {z t pr kd yy : Nat → Nat} (okd : mp_days h) (oks : mp_shs h) (hx : okN (mg_i h) 0 x k) (hy : okN (mg_i h) 1 y d) (hN : ¬ (0 ≤ x3 ∧ x3 ≤ nI m)) (S : SR (mg_i h) k n z t pr) (D : DY (mg_i h) d m kd yy) (q : ∀ h', mp_same h h' → Q nM h') : wp_state Q x y x3 x4 h := by
  unfold wp_state
  rintro _ rfl
  refine sp_layAllV (h := mg_ui h 0 0 0) okd oks hx hy S (fun h1 e1 D1 f29 => bq_f (by decide) ?_)
  have e0 : mp_same h h1 := (mp_ui mp_same.rf (by decide)).tr e1
  have DY1 := DYx D e0
  refine sp_deeds (d := d) (by have := hy.2.1; omega) f29 ?_
  rw [DY1.2.1]
  exact sp_in (fun a b => absurd ⟨a, b⟩ hN) (fun c => bq_t rfl (q h1 e0))
/-- what was after the day: ran, the first, the most, idle, turns, the keenest -/
def AFv (n : Nat) (w : wS) (x v : Int32) : Prop := (x = 0 → v = nI w.2.2.1) ∧ (x = 1 → v = frI w.2.2.2.2.1) ∧ (x = 2 → v = nI w.2.2.2.2.2.1) ∧ (x = 3 → v = nI w.2.2.2.2.2.2.1) ∧ (x = 4 → v = nI w.2.2.2.1) ∧ (x = 5 → v = kn1 (KNv (fun g => (w.1 g).2.2.2) n).1)
theorem x05 {x : Int32} (a : 0 ≤ x) (b : x ≤ 5) : x = 0 ∨ x = 1 ∨ x = 2 ∨ x = 3 ∨ x = 4 ∨ x = 5 := by
  obtain ⟨k, hk, e⟩ := mp_rng (m := 6) (by decide) a (show x ≤ nI 6 - 1 from (show nI 6 - 1 = 5 from by decide) ▸ b)
  rcases (show k = 0 ∨ k = 1 ∨ k = 2 ∨ k = 3 ∨ k = 4 ∨ k = 5 by omega) with rfl | rfl | rfl | rfl | rfl | rfl
  · exact Or.inl e
  · exact Or.inr (Or.inl e)
  · exact Or.inr (Or.inr (Or.inl e))
  · exact Or.inr (Or.inr (Or.inr (Or.inl e)))
  · exact Or.inr (Or.inr (Or.inr (Or.inr (Or.inl e))))
  · exact Or.inr (Or.inr (Or.inr (Or.inr (Or.inr e))))
theorem AFv_one {n : Nat} {w : wS} {x v v' : Int32} (a : 0 ≤ x) (b : x ≤ 5) (h : AFv n w x v) (h' : AFv n w x v') : v = v' := by
  obtain ⟨a0, a1, a2, a3, a4, a5⟩ := h
  obtain ⟨b0, b1, b2, b3, b4, b5⟩ := h'
  rcases x05 a b with c | c | c | c | c | c
  · rw [a0 c, b0 c]
  · rw [a1 c, b1 c]
  · rw [a2 c, b2 c]
  · rw [a3 c, b3 c]
  · rw [a4 c, b4 c]
  · rw [a5 c, b5 c]
theorem sp_afterV {Q : Int32 → mg_H → Prop} {h : mg_H} {x y x3 : Int32} {k d n m : Nat} {z t pr kd yy : Nat → Nat} (okd : mp_days h) (oks : mp_shs h) (hx : okN (mg_i h) 0 x k) (hy : okN (mg_i h) 1 y d) (a3 : 0 ≤ x3) (b3 : x3 ≤ 5) (S : SR (mg_i h) k n z t pr) (D : DY (mg_i h) d m kd yy) (q : ∀ j v h', mp_same h h' → wE n kd yy (w0 z t) m j → AFv n (wT n kd yy (w0 z t) j) x3 v → Q v h') : wp_after Q x y x3 h := by
  have hn4 := S.1
  unfold wp_after
  intro R41 R74 R84 c41 c74 c84
  rintro _ rfl
  refine sp_layAllV (h := mg_ui h 0 0 0) okd oks hx hy S (fun h1 e1 D1 f29 => bq_f (by decide) ?_)
  have e0 : mp_same h h1 := (mp_ui mp_same.rf (by decide)).tr e1
  have DY1 := DYx D e0
  refine sp_in (fun _ _ => bq_nt (by decide) ?_) (fun c => absurd ⟨a3, b3⟩ (mp_not c))
  refine sp_deeds (d := d) (by have := hy.2.1; omega) f29 ?_
  rw [DY1.2.1]
  refine sp_playW D1 (w0_K S.sh) f29 hy.2.1 DY1 (Nat.le_refl m) (fun j h2 e2 E D2 => ?_)
  have e3 : mp_same h h2 := e0.tr (lD_same e2)
  have K2 := wT_K (kd := kd) (yy := yy) (w0_K S.sh) j
  have q := fun v => q j v h2 e3 E
  revert q D2 K2
  generalize wT n kd yy (w0 z t) j = w
  intro D2 K2 q
  obtain ⟨d24, d30, d32, d33, d34, d35, d36, d31, dg, d38⟩ := D2
  have rl : ∀ i, i < n → (w.1 i).2.2.2 ≤ 99 := fun i hi => Nat.le_trans (K2.2.1 i hi).2.2.2 K2.2.2.1
  refine lp (σ := mg_H) (R := fun i g => R41 (kn1 (KNv (fun g => (w.1 g).2.2.2) i).1) (nI i) g) (fun i g => g = h2) 0 n (Nat.zero_le n) ?_ ?_ h2 rfl
  · rintro g rfl
    refine c41 _ _ _ (bq_t (by rw [d24]; exact nI_le (Nat.le_refl n) (by omega)) ?_)
    rcases x05 a3 b3 with c | c | c | c | c | c
    · subst c
      rw [d32]
      exact ⟨fun _ => q _ ⟨fun _ => rfl, fun c => absurd c (by decide), fun c => absurd c (by decide), fun c => absurd c (by decide), fun c => absurd c (by decide), fun c => absurd c (by decide)⟩, fun c => absurd c (by decide), fun c => absurd c (by decide), fun c => absurd c (by decide), fun c => absurd c (by decide), fun c => absurd rfl c⟩
    · subst c
      rw [d34]
      exact ⟨fun c => absurd c (by decide), fun _ => q _ ⟨fun c => absurd c (by decide), fun _ => rfl, fun c => absurd c (by decide), fun c => absurd c (by decide), fun c => absurd c (by decide), fun c => absurd c (by decide)⟩, fun c => absurd c (by decide), fun c => absurd c (by decide), fun c => absurd c (by decide), fun _ c => absurd rfl c⟩
    · subst c
      rw [d35]
      exact ⟨fun c => absurd c (by decide), fun c => absurd c (by decide), fun _ => q _ ⟨fun c => absurd c (by decide), fun c => absurd c (by decide), fun _ => rfl, fun c => absurd c (by decide), fun c => absurd c (by decide), fun c => absurd c (by decide)⟩, fun c => absurd c (by decide), fun c => absurd c (by decide), fun _ _ c => absurd rfl c⟩
    · subst c
      rw [d36]
      exact ⟨fun c => absurd c (by decide), fun c => absurd c (by decide), fun c => absurd c (by decide), fun _ => q _ ⟨fun c => absurd c (by decide), fun c => absurd c (by decide), fun c => absurd c (by decide), fun _ => rfl, fun c => absurd c (by decide), fun c => absurd c (by decide)⟩, fun c => absurd c (by decide), fun _ _ _ c => absurd rfl c⟩
    · subst c
      rw [d33]
      exact ⟨fun c => absurd c (by decide), fun c => absurd c (by decide), fun c => absurd c (by decide), fun c => absurd c (by decide), fun _ => q _ ⟨fun c => absurd c (by decide), fun c => absurd c (by decide), fun c => absurd c (by decide), fun c => absurd c (by decide), fun _ => rfl, fun c => absurd c (by decide)⟩, fun _ _ _ _ c => absurd rfl c⟩
    · subst c
      exact ⟨fun c => absurd c (by decide), fun c => absurd c (by decide), fun c => absurd c (by decide), fun c => absurd c (by decide), fun c => absurd c (by decide), fun _ _ _ _ _ => q _ ⟨fun c => absurd c (by decide), fun c => absurd c (by decide), fun c => absurd c (by decide), fun c => absurd c (by decide), fun c => absurd c (by decide), fun _ => rfl⟩⟩
  · rintro i g _ hi rfl ih
    refine c41 _ _ _ (bq_f (by rw [d24]; exact nI_ge hi (by omega)) ⟨vp_in_nI (show i < 4 by omega) (by decide), ?_⟩)
    obtain ⟨v1, v2⟩ := KNv_val (f := fun g => (w.1 g).2.2.2) i
    obtain ⟨l1, l2⟩ := KNv_le (f := fun g => (w.1 g).2.2.2) (M := 99) i (fun a ha => rl a (by omega))
    have hfi := rl i hi
    have nx : KNv (fun g => (w.1 g).2.2.2) (i + 1) = if (KNv (fun g => (w.1 g).2.2.2) i).2 < (w.1 i).2.2.2 then (i + 1, (w.1 i).2.2.2) else KNv (fun g => (w.1 g).2.2.2) i := rfl
    rw [nx] at ih
    revert ih v1 v2 l1 l2
    generalize KNv (fun g => (w.1 g).2.2.2) i = p
    intro ih v1 v2 l1 l2
    have go : R74 (kn1 p.1) (nI i) (nI p.2) (nI (w.1 i).2.2.2) g := by
      refine c74 _ _ _ _ _ ?_
      by_cases hb : p.2 < (w.1 i).2.2.2
      · rw [if_pos hb] at ih
        refine bq_f (nI_ge hb (by omega)) (c84 _ _ _ ?_)
        rintro _ rfl
        rw [nI_1]
        have := ih g rfl
        rw [show kn1 ((i + 1, (w.1 i).2.2.2).1) = nI i from by unfold kn1; rw [if_neg (by simp)]; rfl] at this
        exact this
      · rw [if_neg hb] at ih
        refine bq_t (nI_le (by omega) (by omega)) (c84 _ _ _ ?_)
        rintro _ rfl
        rw [nI_1]
        exact ih g rfl
    rw [nI_clamp (by omega), (dg i hi).2.2]
    by_cases h0 : p.1 = 0
    · refine bq_nf (by unfold kn1; rw [if_pos h0]; rfl) ?_
      rw [v1 h0] at go
      exact go
    · have hv := (v2 (by omega)).2
      refine bq_nt (by unfold kn1; rw [if_neg h0, nl_m1, nI_eqM (by omega)]; exact id) ?_
      rw [hv] at go
      have ek : kn1 p.1 = nI (p.1 - 1) := by unfold kn1; rw [if_neg h0]
      rw [ek] at go ⊢
      refine ⟨vp_in_nI (show p.1 - 1 < 4 by omega) (by decide), ?_⟩
      rw [nI_clamp (by omega), (dg (p.1 - 1) (by omega)).2.2]
      exact go
theorem sp_after0 {Q : Int32 → mg_H → Prop} {h : mg_H} {x y x3 : Int32} (okd : mp_days h) (oks : mp_shs h) (hxy : noN (mg_i h) 0 x ∨ noN (mg_i h) 1 y) (hS : ∀ k, okN (mg_i h) 0 x k → ∃ n z t pr, SR (mg_i h) k n z t pr) (q : ∀ h', mp_same h h' → Q (-2) h') : wp_after Q x y x3 h := by
  unfold wp_after
  intro R41 R74 R84 c41 c74 c84
  rintro _ rfl
  exact sp_layAll0 (h := mg_ui h 0 0 0) okd oks hxy hS (fun h1 e1 => bq_t rfl (q h1 ((mp_ui mp_same.rf (by decide)).tr e1)))
theorem sp_after1 {Q : Int32 → mg_H → Prop} {h : mg_H} {x y x3 : Int32} {k d n : Nat} {z t pr : Nat → Nat} (okd : mp_days h) (oks : mp_shs h) (hx : okN (mg_i h) 0 x k) (hy : okN (mg_i h) 1 y d) (h3 : ¬ (0 ≤ x3 ∧ x3 ≤ 5)) (S : SR (mg_i h) k n z t pr) (q : ∀ h', mp_same h h' → Q (-2) h') : wp_after Q x y x3 h := by
  unfold wp_after
  intro R41 R74 R84 c41 c74 c84
  rintro _ rfl
  refine sp_layAllV (h := mg_ui h 0 0 0) okd oks hx hy S (fun h1 e1 D1 f29 => bq_f (by decide) ?_)
  exact sp_in (fun a b => absurd ⟨a, b⟩ h3) (fun c => bq_nf rfl (q h1 ((mp_ui mp_same.rf (by decide)).tr e1)))
-- the class
theorem BR.d8 {h : xg_H} {nm : Nat → Nat} {n : Nat} {w : wS} {v : Int32} (hn : inj nm) (R : BR h nm n w) (hn4 : n ≤ 4) : BR (xg_ui h (nm 10) 8 v) nm n w := by
  obtain ⟨r6, r7, r0, r4, r1, r2, r3, rg⟩ := R
  refine ⟨?_, ?_, ?_, ?_, ?_, ?_, ?_, fun g hg => ?_⟩
  · rw [xu_p hn (by decide)]; exact r6
  · rw [xu_p hn (by decide)]; exact r7
  · rw [xu_p hn (by decide)]; exact r0
  · rw [xu_p hn (by decide)]; exact r4
  · rw [xu_p hn (by decide)]; exact r1
  · rw [xu_p hn (by decide)]; exact r2
  · rw [xu_p hn (by decide)]; exact r3
  · have h1 := rg g hg
    exact ⟨by rw [xu_c hn (by omega)]; exact h1.1, by rw [xu_c hn (by omega)]; exact h1.2.1, by rw [xu_c hn (by omega)]; exact h1.2.2.1, by rw [xu_c hn (by omega)]; exact h1.2.2.2⟩
theorem sp_X0_draw {Y : xg_Y} {Q : Int32 → xg_H → Prop} {h : xg_H} {nm : Nat → Nat} {s : Int32} {m : Nat} (k0 : xg_is Y (nm 10) 0) (h8 : xg_i h (nm 10) 8 = s) (hm : 0 < m) (hm2 : m < 1000) (q : ∀ r s1, r = dR s m → s1 = sn s → r < m → Q (nI r) (xg_ui h (nm 10) 8 s1)) : wp_X0_draw Y Q (nm 10) (nI m) h := by
  unfold wp_X0_draw
  rw [h8]
  refine ⟨k0, ?_⟩
  rintro _ rfl _ rfl
  have ez : (if 1 < nI m then nI m else 1) = nI m := by
    by_cases h1 : 1 < m
    · exact if_pos (nI_lt (a := 1) h1 (by omega))
    · rw [show m = 1 by omega]; rfl
  rw [ez, xi_same]
  have e := dr_I (s := s) hm hm2
  have q := q _ _ rfl rfl (dR_lt hm)
  unfold dU at e
  refine ⟨fun c => ?_, ?_⟩
  · have := (nI_eq (a := m) (b := 0) (by omega) (by decide)).mp c
    omega
  · rw [← e] at q
    unfold sn at q
    exact q
theorem sp_X0_drawnKind {Y : xg_Y} {Q : Int32 → xg_H → Prop} {h : xg_H} {r : Nat} (hr : r < 10) (q : Q (nI (dkd r)) h) : wp_X0_drawnKind Y Q (nI r) h := by
  unfold wp_X0_drawnKind
  unfold dkd at q
  by_cases h3 : r < 3
  · rw [if_pos h3] at q
    exact bq_f (nI_nlt (a := 2) (by omega) (by omega)) q
  rw [if_neg h3] at q
  refine bq_t (nI_lt (a := 2) (by omega) (by omega)) ?_
  by_cases h6 : r < 6
  · rw [if_pos h6] at q
    exact bq_f (nI_nlt (a := 5) (by omega) (by omega)) q
  rw [if_neg h6] at q
  refine bq_t (nI_lt (a := 5) (by omega) (by omega)) ?_
  by_cases h7 : r = 6
  · rw [if_pos h7] at q
    exact bq_nf (by rw [h7]; rfl) q
  rw [if_neg h7] at q
  refine bq_nt (fun c => h7 ((nI_eq (b := 6) (by omega) (by decide)).mp c)) ?_
  by_cases h8 : r < 9
  · rw [if_pos h8] at q
    exact bq_f (nI_nlt (a := 8) (by omega) (by omega)) q
  rw [if_neg h8] at q
  exact bq_t (nI_lt (a := 8) (by omega) (by omega)) q
theorem sp_X0_playDrawn {Y : xg_Y} {Q : xg_H → Prop} {h : xg_H} {nm : Nat → Nat} {n m : Nat} {w : wS} {x1 : Int32} (hn : inj nm) (B : XB Y h nm) (R : BR h nm n w) (K : wK n 0 w) (hm : m ≤ 60) (q : ∀ h', xd nm lB h h' → BR h' nm n (dT n w x1 m).1 → Q h') : wp_X0_playDrawn Y Q (nm 10) x1 (nI m) h := by
  have hn4 := K.1
  unfold wp_X0_playDrawn
  refine ⟨B.1, fun R7 R73 c7 c73 => ?_⟩
  rintro _ rfl
  refine lp (σ := xg_H) (R := fun j g => R7 (nI j) g) (fun j g => xd nm lB h g ∧ BR g nm n (dT n w x1 j).1 ∧ xg_i g (nm 10) 8 = (dT n w x1 j).2) 0 m (Nat.zero_le m) ?_ ?_ _ ⟨xd.ui hn xd.rf lB_10, R.d8 hn hn4, xi_same⟩
  · rintro g ⟨e, Rg, f⟩
    exact c7 _ _ (bq_t (nI_le (Nat.le_refl m) (by omega)) (q g e Rg))
  · rintro j g _ hj ⟨e, Rg, f⟩ ih
    refine c7 _ _ (bq_f (nI_ge hj (by omega)) (bq_f (nI_ge (a := j) (b := 60) (by omega) (by decide)) ?_))
    have Kj := dT_K (s := x1) K j
    have nx : dT n w x1 (j + 1) = dD n (dT n w x1 j).1 (dT n w x1 j).2 := rfl
    rw [nx] at ih
    revert Rg f ih Kj
    generalize (dT n w x1 j).1 = u
    generalize (dT n w x1 j).2 = s
    intro Rg f ih Kj
    have fin : ∀ g2, xd nm lB h g2 → BR g2 nm n (dD n u s).1 → xg_i g2 (nm 10) 8 = (dD n u s).2 → R73 (nI j) g2 := fun g2 e2 b1 b2 => c73 _ _ (by
      rintro _ rfl
      rw [nI_1]
      exact ih g2 ⟨e2, b1, b2⟩)
    refine sp_X0_draw (m := 10) B.1 f (by decide) (by decide) (fun r s1 er es1 hr => ?_)
    have R1 : BR (xg_ui g (nm 10) 8 s1) nm n u := Rg.d8 hn hn4
    have f1 : xg_i (xg_ui g (nm 10) 8 s1) (nm 10) 8 = s1 := xi_same
    have e1 : xd nm lB h (xg_ui g (nm 10) 8 s1) := xd.ui hn e lB_10
    revert R1 f1 e1
    generalize xg_ui g (nm 10) 8 s1 = g1
    intro R1 f1 e1
    refine sp_X0_drawnKind hr ?_
    by_cases h3 : r < 3
    · refine bq_nf (by unfold dkd; rw [if_pos h3]; rfl) ?_
      refine sp_X0_draw (m := 9) B.1 f1 (by decide) (by decide) (fun a s2 ea es2 ha => ?_)
      have R2 : BR (xg_ui g1 (nm 10) 8 s2) nm n u := R1.d8 hn hn4
      have f2 : xg_i (xg_ui g1 (nm 10) 8 s2) (nm 10) 8 = s2 := xi_same
      have e2 : xd nm lB h (xg_ui g1 (nm 10) 8 s2) := xd.ui hn e1 lB_10
      revert R2 f2 e2
      generalize xg_ui g1 (nm 10) 8 s2 = g2
      intro R2 f2 e2
      rw [dD_of er es1 ea rfl es2] at fin
      unfold dE at fin
      rw [if_pos h3] at fin
      rw [nl_1, nI_add]
      exact sp_X0_tried (kd := 0) hn (B.mv e2) R2 Kj (by omega) (by decide) (by omega) (fun g3 e3 R3 => fin g3 (e2.tr e3.1) R3 (e3.2.trans f2))
    · have hk : ¬ nI (dkd r) = 0 := fun c => by
        have hl := dkd_le r
        have := (nI_eq (b := 0) (by omega) (by decide)).mp c
        unfold dkd at this
        rw [if_neg h3] at this
        split at this
        · omega
        · split at this
          · omega
          · split at this <;> omega
      refine bq_nt hk ?_
      rw [R1.1]
      by_cases h0 : n = 0
      · rw [dD_of er es1 rfl rfl rfl] at fin
        unfold dE at fin
        rw [if_neg h3, if_pos h0] at fin
        exact bq_t (by rw [h0]; decide) (fin g1 e1 R1 f1)
      refine bq_f (nI_ge (a := 0) (by omega) (by omega)) ?_
      refine sp_X0_draw (m := n) B.1 f1 (by omega) (by omega) (fun b s2 eb es2 hb => ?_)
      have R2 : BR (xg_ui g1 (nm 10) 8 s2) nm n u := R1.d8 hn hn4
      have f2 : xg_i (xg_ui g1 (nm 10) 8 s2) (nm 10) 8 = s2 := xi_same
      have e2 : xd nm lB h (xg_ui g1 (nm 10) 8 s2) := xd.ui hn e1 lB_10
      revert R2 f2 e2
      generalize xg_ui g1 (nm 10) 8 s2 = g2
      intro R2 f2 e2
      rw [dD_of er es1 rfl eb es2] at fin
      unfold dE at fin
      rw [if_neg h3, if_neg h0] at fin
      exact sp_X0_tried hn (B.mv e2) R2 Kj (by omega) (dkd_le _) (by omega) (fun g3 e3 R3 => fin g3 (e2.tr e3.1) R3 (e3.2.trans f2))
