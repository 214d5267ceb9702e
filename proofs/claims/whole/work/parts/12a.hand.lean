/-! the reference: a shelf at hand; what its searches tell -/
/-- the row of shelf k: n glasses, sizes z, tops t, prices pr -/
def SR (p : Nat → Nat → Int32) (k n : Nat) (z t pr : Nat → Nat) : Prop := n ≤ 4 ∧ p 6 (13 * k) = nI n ∧ (∀ j, j < n → p 6 (13 * k + (1 + j)) = nI (z j) ∧ p 6 (13 * k + (5 + j)) = nI (t j) ∧ p 6 (13 * k + (9 + j)) = nI (pr j) ∧ 1 ≤ z j ∧ z j ≤ 7 ∧ t j ≤ z j ∧ pr j ≤ 9) ∧ ∀ j, n ≤ j → z j = 0 ∧ t j = 0 ∧ pr j = 0
theorem SR.z7 {p : Nat → Nat → Int32} {k n : Nat} {z t pr : Nat → Nat} (S : SR p k n z t pr) (j : Nat) : z j ≤ 7 ∧ t j ≤ z j ∧ pr j ≤ 9 := by
  rcases Nat.lt_or_ge j n with h | h
  · have := S.2.2.1 j h; omega
  · have := S.2.2.2 j h; omega
theorem SR.zok {p : Nat → Nat → Int32} {k n : Nat} {z t pr : Nat → Nat} (S : SR p k n z t pr) : zok z := fun j _ => (S.z7 j).1
theorem SR.ok {p : Nat → Nat → Int32} {k n : Nat} {z t pr : Nat → Nat} (S : SR p k n z t pr) : okc z (c4 t) := c4_ok S.zok (fun j _ => (S.z7 j).2.1)
theorem all_I {n : Nat} (hn : n ≤ 4) : ((1 : Int32) <<< (nI n &&& 31)) - 1 = nI (2 ^ n - 1) := by
  have := Nat.two_pow_pos n
  rw [bit_I (by omega), nl_1, pk_sub (by omega)]
theorem al_spec {g : mg_H} {set s : Nat} {z t : Nat → Nat} (hset : set < 16) (hr : ∀ j, j < 4 → set.testBit j = true → mg_i g 6 (13 * s + (1 + j)) = nI (z j) ∧ mg_i g 6 (13 * s + (5 + j)) = nI (t j) ∧ t j ≤ 7) : ∀ k, k ≤ 4 → (∀ j, j < k → mg_i (mp_al g (nI set) s k) 27 j = nI (zr set z j) ∧ mg_i (mp_al g (nI set) s k) 28 j = nI (zr set t j)) ∧ mg_i (mp_al g (nI set) s k) 0 26 = nI (cp (zr set t) k) ∧ mg_i (mp_al g (nI set) s k) 0 25 = nI set ∧ ∀ j, j < k → zr set t j ≤ 7
  | 0, _ => ⟨fun j h => absurd h (Nat.not_lt_zero j), mi_same, (mi_place (by decide)).trans mi_same, fun j h => absurd h (Nat.not_lt_zero j)⟩
  | k + 1, hk => by
    obtain ⟨i1, i2, i3, i4⟩ := al_spec hset hr k (by omega)
    have hb : ∀ q : Int32, q = mg_i g 6 (13 * s + (5 + k)) → (if (nI set >>> (nI k &&& 31)) &&& 1 = 1 then q else 0) = nI (zr set t k) ∧ zr set t k ≤ 7 := by
      rintro q rfl
      unfold zr
      cases e : set.testBit k
      · rw [if_neg (fun c => by rw [(has_I (by omega) (by omega)).mp c] at e; cases e)]; exact ⟨rfl, Nat.zero_le _⟩
      · rw [if_pos ((has_I (by omega) (by omega)).mpr e), (hr k (by omega) e).2.1]; exact ⟨rfl, (hr k (by omega) e).2.2⟩
    have ha : (if (nI set >>> (nI k &&& 31)) &&& 1 = 1 then mg_i g 6 (13 * s + (1 + k)) else 0) = nI (zr set z k) := by
      unfold zr
      cases e : set.testBit k
      · rw [if_neg (fun c => by rw [(has_I (by omega) (by omega)).mp c] at e; cases e)]; rfl
      · rw [if_pos ((has_I (by omega) (by omega)).mpr e), (hr k (by omega) e).1]; rfl
    have e1 : mp_al g (nI set) s (k + 1) = mg_ui (mg_ui (mg_ui (mp_al g (nI set) s k) 27 k (nI (zr set z k))) 28 k (nI (zr set t k))) 0 26 (nI (cp (zr set t) (k + 1))) := by
      show mg_ui (mg_ui (mg_ui (mp_al g (nI set) s k) 27 k _) 28 k _) 0 26 _ = _
      rw [mp_al_6, mp_al_6, ha, (hb _ rfl).1, mi_cell (by decide), mi_cell (by decide), i2, or_I (cp_lt k (fun j hj => i4 j hj)) (hb _ rfl).2 (by omega)]; rfl
    rw [e1]
    refine ⟨fun j hj => ?_, mi_same, ?_, fun j hj => ?_⟩
    · refine ⟨?_, ?_⟩
      · rw [mi_cell (by decide), mi_cell (by decide), mi_ui]
        by_cases e : j = k
        · rw [if_pos ⟨rfl, e⟩, e]
        · rw [if_neg (fun q => e q.2)]
          exact (i1 j (by omega)).1
      · rw [mi_cell (by decide), mi_ui]
        by_cases e : j = k
        · rw [if_pos ⟨rfl, e⟩, e]
        · rw [if_neg (fun q => e q.2), mi_cell (by decide)]
          exact (i1 j (by omega)).2
    · rw [mi_place (by decide), mi_cell (by decide), mi_cell (by decide)]; exact i3
    · rcases Nat.lt_or_ge j k with h9 | h9
      · exact i4 j h9
      · rw [show j = k by omega]; exact (hb _ rfl).2
theorem al_md {g : mg_H} {set : Int32} {s : Nat} : ∀ k, md [27, 28] [25, 26] g (mp_al g set s k)
  | 0 => md.u0 (md.u0 md.rf (by decide)) (by decide)
  | k + 1 => md.u0 (md.ui (md.ui (al_md k) (by decide) (by decide)) (by decide) (by decide)) (by decide)
/-- some glasses of a shelf stand by -/
theorem al_HS {g : mg_H} {k n set : Nat} {z t pr : Nat → Nat} (S : SR (mg_i g) k n z t pr) (hset : sb set (2 ^ n - 1)) : HS (mp_al g (nI set) k 4) (zr set z) set (c4 (zr set t)) ∧ ∀ j, j < 4 → mg_i (mp_al g (nI set) k 4) 28 j = nI (zr set t j) := by
  have hp := pow_n S.1
  have hl := sb_le hset
  have h16 : set < 16 := by have := Nat.two_pow_pos n; omega
  obtain ⟨i1, i2, i3, _⟩ := al_spec (g := g) (s := k) (z := z) (t := t) h16 (fun j hj hb => by
    have := sb_bit hset hb
    rw [full_bit, decide_eq_true_eq] at this
    have hr := S.2.2.1 j this
    exact ⟨hr.1, hr.2.1, by omega⟩) 4 (by decide)
  exact ⟨⟨fun j hj => (i1 j hj).1, i3, by rw [i2, cp4]; rfl⟩, fun j hj => (i1 j hj).2⟩
theorem sp_handS {Q : Int32 → mg_H → Prop} {h : mg_H} {k n : Nat} {z t pr : Nat → Nat} (ok : mp_shs h) (hv : 0 ≤ nI k ∧ nI k ≤ mg_i h 5 0 - 1) (hk : k < 2) (S : SR (mg_i h) k n z t pr) (q : ∀ h', md [27, 28] [23, 24, 25, 26] h h' → HS h' z (2 ^ n - 1) (c4 t) → mg_i h' 0 23 = nI k → mg_i h' 0 24 = nI n → (∀ j, j < 4 → mg_i h' 28 j = nI (t j)) → Q 1 h') : wp_hand Q (nI k) h := by
  refine sp_hand ok (fun k' c hk' hc ex a b en => ?_) (fun hno => absurd hv hno)
  have e1 := (nI_eq (a := k) (b := k') (by omega) (by omega)).mp ex
  subst e1
  have e2 := (nI_eq (a := n) (b := c) (by have := S.1; omega) (by omega)).mp (S.2.1.symm.trans en)
  subst e2
  have e3 : md [27, 28] [23, 24, 25, 26] h (mg_ui (mg_ui h 0 23 (nI k)) 0 24 (nI n)) := md.u0 (md.u0 md.rf (by decide)) (by decide)
  have S2 : SR (mg_i (mg_ui (mg_ui h 0 23 (nI k)) 0 24 (nI n))) k n z t pr := S
  have al := al_HS (set := 2 ^ n - 1) S2 (by unfold sb; rw [Nat.and_self])
  rw [zr_full (fun j hj => (S.2.2.2 j hj).1), zr_full (fun j hj => (S.2.2.2 j hj).2.1)] at al
  have eh : mp_hand h k n = mp_al (mg_ui (mg_ui h 0 23 (nI k)) 0 24 (nI n)) (nI (2 ^ n - 1)) k 4 := by unfold mp_hand; rw [all_I hc]
  refine q _ ?_ ?_ mp_hand_23 mp_hand_24 ?_
  · rw [eh]; exact e3.tr ((al_md 4).mono (by decide) (by decide))
  · rw [eh]; exact al.1
  · rw [eh]; exact al.2
theorem PF_one {z : Nat → Nat} {m c0 : Nat} {wt : Nat → Nat} {t c w : Nat} : PF z m wt (fun a => a = c0) 0 t c w ↔ ∃ k, pt z m wt k c0 t c w := by
  constructor
  · rintro ⟨a, k, rfl, h⟩; exact ⟨k, h⟩
  · rintro ⟨k, h⟩; exact ⟨c0, k, rfl, h⟩
theorem TL_iff {z : Nat → Nat} {m c0 : Nat} {wt : Nat → Nat} {t w : Nat} (hz : zok z) (hc : okc z c0) : (∃ c, c < 4096 ∧ PF z m wt (fun a => a = c0) 0 t c w) ↔ TL z m c0 wt t w := by
  constructor
  · rintro ⟨c, _, h⟩
    obtain ⟨k, h⟩ := PF_one.mp h
    exact ⟨k, c, h⟩
  · rintro ⟨k, b, h⟩
    exact ⟨b, (pt_ok hz h hc).1, PF_one.mpr ⟨k, h⟩⟩
theorem CL_b {z : Nat → Nat} {m : Nat} {wt : Nat → Nat} {I : Nat → Prop} {F t c w : Nat} (hB : ∀ s, s ≤ m → wt s ≤ 40) (ht : t ≤ 30) (h : PF z m wt I F t c w) : w < 2 ^ 30 := by
  have g1 := PF_le hB h
  have g2 := Nat.mul_le_mul_right 40 (show t - F ≤ 30 by omega)
  omega
theorem sp_leastC {Q : Int32 → mg_H → Prop} {h : mg_H} {z : Nat → Nat} {m c0 t : Nat} {wt : Nat → Nat} (hz : zok z) (hc : okc z c0) (hB : ∀ s, s ≤ m → wt s ≤ 40) (ht : t ≤ 30) (C : CL z m wt (fun a => a = c0) 0 30 h) (q : ∀ v, lst (TL z m c0 wt t) v → Q v h) : wp_leastAt Q (nI t) h :=
  sp_leastAt ht (fun c hc9 => C t c (Nat.zero_le t) ht hc9) (fun c m p => CL_b hB ht p) (fun v hv => q v (lst_congr hv (fun w => TL_iff hz hc)))
theorem sp_bitsC {Q : Int32 → mg_H → Prop} {h : mg_H} {z : Nat → Nat} {m c0 U : Nat} {wt : Nat → Nat} (hz : zok z) (hc : okc z c0) (hB : ∀ s, s ≤ m → wt s ≤ 40) (hU : U < 2 ^ 30) (C : CL z m wt (fun a => a = c0) 0 30 h) (q : ∀ v, isB v (fun t => (1 ≤ t ∧ t ≤ 30) ∧ ∃ w, w ≤ U ∧ TL z m c0 wt t w) → Q v h) : wp_bitsOf Q (nI U) h :=
  sp_bitsOf hU (fun t c ht hc9 => C t c (Nat.zero_le t) ht hc9) (fun t c m ht p => CL_b hB ht p) (fun B hB2 => q _ ⟨B, rfl, bs_congr hB2 (fun t => ⟨fun ⟨a, w, c, h1, h2, h3⟩ => ⟨a, w, h1, (TL_iff hz hc).mp ⟨c, h2, h3⟩⟩, fun ⟨a, w, h1, h2⟩ => by
    obtain ⟨c, h3, h4⟩ := (TL_iff hz hc).mpr h2
    exact ⟨a, w, c, h1, h3, h4⟩⟩)⟩)
theorem sp_cost0 {Q : Int32 → mg_H → Prop} {s : Nat} {h : mg_H} (hs : s < 16) (q : Q (nI (on4 s)) h) : wp_costOf Q (nI s) 0 h :=
  sp_costV (v := fun _ => 1) hs (by decide) (fun _ _ => by decide) (fun g hg hb => Or.inl ⟨rfl, rfl⟩) q
theorem sp_timesOf {Q : Int32 → mg_H → Prop} {h : mg_H} {k n set : Nat} {z t pr : Nat → Nat} (h23 : mg_i h 0 23 = nI k) (hk : k < 2) (S : SR (mg_i h) k n z t pr) (hset : sb set (2 ^ n - 1)) (q : ∀ v h', md [27, 28, 40] [25, 26, 39] h h' → isB v (fun T => (1 ≤ T ∧ T ≤ 30) ∧ ∃ b, rc (zr set z) set (c4 (zr set t)) T b) → Q v h') : wp_timesOf Q (nI set) h := by
  unfold wp_timesOf
  have hp := pow_n S.1
  have h16 : set < 16 := by have := sb_le hset; have := Nat.two_pow_pos n; omega
  have hz := zr_zok (s := set) S.zok
  have hc := c4_ok hz (fun j _ => zr_le (s := set) (fun j => (S.z7 j).2.1) j)
  have hB : ∀ s, s ≤ set → on4 s ≤ 40 := fun s _ => Nat.le_trans (on4_le s) (by decide)
  refine sp_alone h23 (by omega) ?_
  obtain ⟨H, _⟩ := al_HS S hset
  have e1 : md [27, 28, 40] [25, 26, 39] h (mp_al h (nI set) k 4) := (al_md 4).mono (by decide) (by decide)
  refine sp_layOut (wt := on4) H hz h16 hc (fun h' _ s hs _ Q q => sp_cost0 hs q) hB (fun h' e2 C => ?_)
  refine sp_bitsC (U := 1000000) hz hc hB (by decide) C (fun v hv => q v h' (e1.tr (e2.mono (by decide) (by decide))) (hv.congr (fun T => ?_)))
  rw [← TL_rc (wt := on4)]
  refine ⟨fun ⟨a, w, _, b⟩ => ⟨a, w, b⟩, fun ⟨a, w, b⟩ => ⟨a, w, ?_, b⟩⟩
  obtain ⟨k', b', h1⟩ := b
  have g1 := pt_w hB h1
  have g2 := pt_k h1
  have g3 := Nat.mul_le_mul_right 40 (show k' ≤ 30 by omega)
  omega
