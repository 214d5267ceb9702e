/-! reference: early -/
theorem isB_dbl {v : Int32} {p : Nat → Prop} (h : isB v p) (hp : ∀ i, p i → i ≤ 29) : isB (v <<< (1 &&& 31)) (fun k => ∃ k', k = k' + 1 ∧ p k') := by
  obtain ⟨B, rfl, hB⟩ := h
  have hb : B < 2 ^ 30 := Nat.lt_pow_two_of_testBit B (fun i hi => by
    cases e : B.testBit i
    · rfl
    · have := hp i ((hB.2 i).mp e)
      omega)
  have e1 : ((1 : Int32) &&& 31) = nI 1 := by decide
  rw [e1, sl_I (by decide) (by omega)]
  refine ⟨B * 2 ^ 1, rfl, by omega, fun i => ?_⟩
  rw [← Nat.shiftLeft_eq, Nat.testBit_shiftLeft]
  constructor
  · intro h
    rw [Bool.and_eq_true, decide_eq_true_iff] at h
    exact ⟨i - 1, by omega, (hB.2 _).mp h.2⟩
  · rintro ⟨k', rfl, hk⟩
    rw [Bool.and_eq_true, decide_eq_true_iff]
    exact ⟨by omega, (hB.2 _).mpr hk⟩
/-- the events of place x that come from the places before i, and of place i from the sets before j -/
def EVT (z : Nat → Nat) (m c0 i j x k : Nat) : Prop := (k = 0 ∧ x = c0) ∨ ∃ i' s', (i' < i ∨ i' = i ∧ s' < j) ∧ s' ≤ m ∧ 0 < dl z (i' % 4096) s' ∧ x = 4096 * (i' / 4096 + dl z (i' % 4096) s') + nc z (i' % 4096) s' ∧ ∃ k', k = k' + 1 ∧ PK z m c0 k' (i' / 4096) (i' % 4096)
theorem EVT_PK {z : Nat → Nat} {n c0 i j x k : Nat} (hz : zok z) (hc : okc z c0) (hx : x / 4096 * 4096 ≤ i) : EVT z (2 ^ n - 1) c0 i j x k ↔ PK z (2 ^ n - 1) c0 k (x / 4096) (x % 4096) := by
  have hc0 := hc.1
  constructor
  · rintro (⟨rfl, rfl⟩ | ⟨i', s', _, hs, hd, e, k', rfl, hp⟩)
    · exact PK_0.mpr ⟨by omega, by omega⟩
    · have h1 := nc_lt (z := z) (c := i' % 4096) (s := s') hz
      exact PK_s.mpr ⟨s', _, _, hp, sb_full.mpr hs, hd, by omega, by omega⟩
  · intro hp
    cases k with
    | zero =>
      have := PK_0.mp hp
      exact Or.inl ⟨rfl, by omega⟩
    | succ k =>
      obtain ⟨s, t', b', g1, g2, g3, g4, g5⟩ := PK_s.mp hp
      have hb : b' < 4096 := by
        obtain ⟨w, hw⟩ := g1
        exact (pt_ok hz hw hc).1
      have e1 : (4096 * t' + b') % 4096 = b' := by omega
      have e2 : (4096 * t' + b') / 4096 = t' := by omega
      refine Or.inr ⟨4096 * t' + b', s, Or.inl (by omega), sb_full.mp g2, by rw [e1]; exact g3, ?_, k, rfl, by rw [e1, e2]; exact g1⟩
      rw [e1, e2, ← g4, ← g5]
      omega
theorem sp_early {Q : Int32 → mg_H → Prop} {h : mg_H} {k n K : Nat} {x3 : Int32} {z t pr : Nat → Nat} (ok : mp_shs h) (hv : 0 ≤ nI k ∧ nI k ≤ mg_i h 5 0 - 1) (hk : k < 2) (S : SR (mg_i h) k n z t pr) (hK : K ≤ 20) (q : ∀ v h', mp_same h h' → (x3 = 0 → lst (fun T => T ≤ 30 ∧ ∃ b, PK z (2 ^ n - 1) (c4 t) K T b) v) → (¬ x3 = 0 → gst (fun T => T ≤ 30 ∧ ∃ b, PK z (2 ^ n - 1) (c4 t) K T b) v) → Q v h') : wp_early Q (nI k) (nI K) x3 h := by
  have SHh := S.sh
  have hz := SHh.zok
  have hc0 := SHh.ok
  have hm := SHh.m
  unfold wp_early
  intro R28 R62 R178 R73 R218 R209 R166 R160 R220 c28 c62 c178 c73 c218 c209 c166 c160 c220
  rintro _ rfl
  refine sp_inT (lo := 0) (hi := 20) (Nat.zero_le K) hK (by decide) (bq_f (by decide) (sp_hand0 ok hv hk S (fun h2 es2 H2 f23 f24 _ S2 => bq_nt (by decide) ?_)))
  -- all places empty
  refine lp (σ := mg_H) (R := fun k s => R28 (nI k) s) (fun k s => md [44] [39] h2 s ∧ ∀ x, x < k → mg_i s 44 x = 0) 0 126976 (Nat.zero_le _) ?_ ?_ h2 ⟨md.rf, fun x hx => absurd hx (Nat.not_lt_zero x)⟩
  · rintro s ⟨e, hs⟩
    refine c28 _ _ (bq_t (by decide) ?_)
    rw [(e.2 26 (by decide)).trans H2.2.2, nI_clamp (by have := hc0.1; omega)]
    refine ⟨vp_in_nI (show c4 t < 126976 by have := hc0.1; omega) (by decide), ?_⟩
    rintro _ rfl
    have st : ∀ x, x < 126976 → isB (mg_i (mg_ui s 44 (c4 t) 1) 44 x) (EVT z (2 ^ n - 1) (c4 t) 0 0 x) := by
      intro x hx
      by_cases e9 : x = c4 t
      · subst e9
        have ev : mg_i (mg_ui s 44 (c4 t) 1) 44 (c4 t) = nI (2 ^ 0) := mi_same
        rw [ev]
        refine (isB_bit (k := 0) (by decide)).congr (fun i => ⟨fun hi => Or.inl ⟨hi, rfl⟩, fun hi => ?_⟩)
        rcases hi with hi | ⟨i', s', hh, _⟩
        · exact hi.1
        · omega
      · have ev : mg_i (mg_ui s 44 (c4 t) 1) 44 x = nI 0 := (mi_place e9).trans (hs x hx)
        rw [ev]
        refine isB_0 (fun i hi => ?_)
        rcases hi with hi | ⟨i', s', hh, _⟩
        · exact e9 hi.2
        · omega
    have e2 : md [44] [39] h2 (mg_ui s 44 (c4 t) 1) := e.ui (by decide) (by decide)
    revert e2 st
    generalize mg_ui s 44 (c4 t) 1 = s0
    intro st e2
    -- the events are passed on
    refine lp (σ := mg_H) (R := fun i s => R62 (nI i) s) (fun i s => md [44] [39] h2 s ∧ ∀ x, x < 126976 → isB (mg_i s 44 x) (EVT z (2 ^ n - 1) (c4 t) i 0 x)) 0 122880 (Nat.zero_le _) ?_ ?_ s0 ⟨e2, st⟩
    · rintro s1 ⟨e1, st1⟩
      refine c62 _ _ (bq_t (by decide) ?_)
      have es1 : mp_same h s1 := es2.tr (e1.same (by decide))
      have st2 : ∀ x, x < 126976 → isB (mg_i s1 44 x) (fun k => PK z (2 ^ n - 1) (c4 t) k (x / 4096) (x % 4096)) := fun x hx => (st1 x hx).congr (fun k => EVT_PK hz hc0 (by omega))
      -- the places are read
      have pin : ∀ T, (∃ i, i < 126976 ∧ T = i / 4096 ∧ PK z (2 ^ n - 1) (c4 t) K (i / 4096) (i % 4096)) ↔ (T ≤ 30 ∧ ∃ b, PK z (2 ^ n - 1) (c4 t) K T b) := by
        intro T
        constructor
        · rintro ⟨i, hi, rfl, hp⟩
          exact ⟨by omega, _, hp⟩
        · rintro ⟨hT, b, hp⟩
          have hb : b < 4096 := by
            obtain ⟨w, hw⟩ := hp
            exact (pt_ok hz hw hc0).1
          refine ⟨4096 * T + b, by omega, by omega, ?_⟩
          rw [show (4096 * T + b) / 4096 = T by omega, show (4096 * T + b) % 4096 = b by omega]; exact hp
      have pst : ∀ i T, (∃ i', i' < i + 1 ∧ T = i' / 4096 ∧ PK z (2 ^ n - 1) (c4 t) K (i' / 4096) (i' % 4096)) → (∃ i', i' < i ∧ T = i' / 4096 ∧ PK z (2 ^ n - 1) (c4 t) K (i' / 4096) (i' % 4096)) ∨ (T = i / 4096 ∧ PK z (2 ^ n - 1) (c4 t) K (i / 4096) (i % 4096)) := by
        rintro i T ⟨i', hi', e9, hp⟩
        rcases Nat.lt_or_ge i' i with h9 | h9
        · exact Or.inl ⟨i', h9, e9, hp⟩
        · have e8 : i' = i := by omega
          subst e8; exact Or.inr ⟨e9, hp⟩
      refine lp (σ := Int32) (R := fun i r => R178 r (nI i) s1) (fun i r => (x3 = 0 → lst (fun T => ∃ i', i' < i ∧ T = i' / 4096 ∧ PK z (2 ^ n - 1) (c4 t) K (i' / 4096) (i' % 4096)) r) ∧ (¬ x3 = 0 → gst (fun T => ∃ i', i' < i ∧ T = i' / 4096 ∧ PK z (2 ^ n - 1) (c4 t) K (i' / 4096) (i' % 4096)) r)) 0 126976 (Nat.zero_le _) ?_ ?_ nM ⟨fun _ => Or.inl ⟨rfl, fun m ⟨i', hi', _⟩ => absurd hi' (Nat.not_lt_zero i')⟩, fun _ => Or.inl ⟨rfl, fun m ⟨i', hi', _⟩ => absurd hi' (Nat.not_lt_zero i')⟩⟩
      · rintro r ⟨hl, hg⟩
        exact c178 _ _ _ (bq_t (by decide) (q r s1 es1 (fun c => lst_congr (hl c) pin) (fun c => gst_congr (hg c) pin)))
      · rintro i r _ hi ⟨hl, hg⟩ ih
        have keep : (x3 = 0 ∧ r ≠ nM ∨ ¬ PK z (2 ^ n - 1) (c4 t) K (i / 4096) (i % 4096)) → R218 r (nI i) s1 := by
          intro hh
          refine c218 _ _ _ (c220 _ _ _ ?_)
          rintro _ rfl
          rw [nI_1]
          refine ih r ⟨fun c => ?_, fun c => ?_⟩
          · rcases hl c with ⟨e9, no⟩ | ⟨m, e9, ⟨i', hi', em, hm'⟩, hle⟩
            · refine Or.inl ⟨e9, fun m hm => ?_⟩
              rcases pst i m hm with h9 | h9
              · exact no m h9
              · rcases hh with h8 | h8
                · exact h8.2 e9
                · exact h8 h9.2
            · refine Or.inr ⟨m, e9, ⟨i', by omega, em, hm'⟩, fun j hj => ?_⟩
              rcases pst i j hj with h9 | h9
              · exact hle j h9
              · have := h9.1
                omega
          · have h8 := hh.elim (fun h8 => absurd h8.1 c) id
            rcases hg c with ⟨e9, no⟩ | ⟨m, e9, ⟨i', hi', em, hm'⟩, hle⟩
            · refine Or.inl ⟨e9, fun m hm => ?_⟩
              rcases pst i m hm with h9 | h9
              · exact no m h9
              · exact h8 h9.2
            · refine Or.inr ⟨m, e9, ⟨i', by omega, em, hm'⟩, fun j hj => ?_⟩
              rcases pst i j hj with h9 | h9
              · exact hle j h9
              · exact absurd h9.2 h8
        have new : PK z (2 ^ n - 1) (c4 t) K (i / 4096) (i % 4096) → (x3 = 0 → r = nM) → R209 (nI i) s1 := by
          intro hp hr
          refine c209 _ _ (c220 _ _ _ ?_)
          rintro _ rfl
          rw [nI_1, nl_4096, pk_div (by omega) (by decide) (by decide)]
          refine ih _ ⟨fun c => ?_, fun c => ?_⟩
          · rcases hl c with ⟨e9, no⟩ | ⟨m, e9, ⟨i', hi', em, hm'⟩, hle⟩
            · refine Or.inr ⟨i / 4096, rfl, ⟨i, by omega, rfl, hp⟩, fun j hj => ?_⟩
              rcases pst i j hj with h9 | h9
              · exact absurd h9 (no j)
              · have := h9.1
                omega
            · have := hr c
              rw [this, nM_eqI (by omega)] at e9
              exact e9.elim
          · refine Or.inr ⟨i / 4096, rfl, ⟨i, by omega, rfl, hp⟩, fun j hj => ?_⟩
            obtain ⟨i', hi', ej, _⟩ := hj
            omega
        refine c178 _ _ _ (bq_f (nI_ge hi (by decide)) ?_)
        obtain ⟨B, eB, hB⟩ := st2 i hi
        rw [nI_clamp (by omega), eB]
        refine ⟨vp_in_nI (show i < 126976 from hi) (by decide), lb_has hB.1 (by omega) (fun hb => bq_f (by decide) ⟨fun c => new ((hB.2 K).mp hb) (fun c2 => absurd c2 c), fun c => ⟨fun hr => keep (Or.inl ⟨c, hr⟩), fun hr => new ((hB.2 K).mp hb) (fun _ => hr)⟩⟩) (fun hb => bq_t rfl (keep (Or.inr (fun hp => ?_))))⟩
        have := (hB.2 K).mpr hp
        rw [hb] at this; cases this
    · rintro i s1 _ hi ⟨e1, st1⟩ ih
      have nxt : ∀ s2, md [44] [39] h2 s2 → (∀ x, x < 126976 → isB (mg_i s2 44 x) (EVT z (2 ^ n - 1) (c4 t) (i + 1) 0 x)) → R166 (nI i) s2 := by
        intro s2 e2 st2
        refine c166 _ _ ?_
        rintro _ rfl
        rw [nI_1]; exact ih s2 ⟨e2, st2⟩
      have here : ∀ j k, EVT z (2 ^ n - 1) (c4 t) i j i k ↔ PK z (2 ^ n - 1) (c4 t) k (i / 4096) (i % 4096) := fun j k => EVT_PK hz hc0 (by omega)
      have hkb : ∀ k, PK z (2 ^ n - 1) (c4 t) k (i / 4096) (i % 4096) → k ≤ 29 := fun k hp => by have := PK_le hp; omega
      have full : ∀ x k, EVT z (2 ^ n - 1) (c4 t) (i + 1) 0 x k ↔ EVT z (2 ^ n - 1) (c4 t) i (2 ^ n - 1 + 1) x k := by
        intro x k
        refine or_congr_right ⟨fun ⟨i', s', a, b⟩ => ⟨i', s', by omega, b⟩, fun ⟨i', s', a, b⟩ => ⟨i', s', by omega, b⟩⟩
      refine c62 _ _ (bq_f (nI_ge hi (by decide)) ?_)
      refine lp (σ := mg_H) (R := fun j s => R73 (nI i) (nI j) s) (fun j s => md [44] [39] h2 s ∧ ∀ x, x < 126976 → isB (mg_i s 44 x) (EVT z (2 ^ n - 1) (c4 t) i j x)) 0 (2 ^ n - 1 + 1) (Nat.zero_le _) ?_ ?_ s1 ⟨e1, st1⟩
      · rintro s2 ⟨e2, st2⟩
        refine c73 _ _ _ (bq_t (by rw [(e2.2 25 (by decide)).trans H2.2.1]; exact nI_lt (by omega) (by omega)) (nxt s2 e2 (fun x hx => (st2 x hx).congr (fun k => (full x k).symm))))
      · rintro j s2 _ hj ⟨e2, st2⟩ ih2
        have hb := (st2 i (by omega)).congr (fun k => here j k)
        have hzb := isB_zero hb
        refine c73 _ _ _ (bq_f (by rw [(e2.2 25 (by decide)).trans H2.2.1]; exact nI_nlt (by omega) (by omega)) ?_)
        rw [nI_clamp (n := i) (by omega)]
        refine ⟨vp_in_nI (show i < 126976 by omega) (by decide), fun c => nxt s2 e2 (fun x hx => (st2 x hx).congr (fun k => ?_)), fun c => ?_⟩
        · have no := hzb.mp c
          rw [full x k]
          refine or_congr_right ⟨fun ⟨i', s', a, b⟩ => ⟨i', s', by omega, b⟩, fun ⟨i', s', a, b1, b2, b3, k', b4, b5⟩ => ?_⟩
          rcases a with a | a
          · exact ⟨i', s', Or.inl a, b1, b2, b3, k', b4, b5⟩
          · rw [a.1] at b5
            exact absurd b5 (no k')
        · obtain ⟨k0, hk0⟩ : ∃ k, PK z (2 ^ n - 1) (c4 t) k (i / 4096) (i % 4096) := Classical.byContradiction (fun hno => c (hzb.mpr (fun k hk => hno ⟨k, hk⟩)))
          have hok : okc z (i % 4096) := by
            obtain ⟨w, hw⟩ := hk0
            exact pt_ok hz hw hc0
          have hnc := nc_lt (z := z) (c := i % 4096) (s := j) hz
          have hd7 := dl_le (z := z) (c := i % 4096) (s := j) hz
          have stp : ∀ x k, EVT z (2 ^ n - 1) (c4 t) i (j + 1) x k ↔ (EVT z (2 ^ n - 1) (c4 t) i j x k ∨ ((0 < dl z (i % 4096) j ∧ x = 4096 * (i / 4096 + dl z (i % 4096) j) + nc z (i % 4096) j) ∧ ∃ k', k = k' + 1 ∧ PK z (2 ^ n - 1) (c4 t) k' (i / 4096) (i % 4096))) := by
            intro x k
            constructor
            · rintro (a | ⟨i', s', a, b1, b2, b3, b4⟩)
              · exact Or.inl (Or.inl a)
              · by_cases a9 : i' = i ∧ s' = j
                · obtain ⟨rfl, rfl⟩ := a9
                  exact Or.inr ⟨⟨b2, b3⟩, b4⟩
                · exact Or.inl (Or.inr ⟨i', s', by omega, b1, b2, b3, b4⟩)
            · rintro ((a | ⟨i', s', a, b⟩) | ⟨⟨a1, a2⟩, a3⟩)
              · exact Or.inl a
              · exact Or.inr ⟨i', s', by omega, b⟩
              · exact Or.inr ⟨i, j, by omega, by omega, a1, a2, a3⟩
          have go : ∀ s3, md [44] [39] h2 s3 → (∀ x, x < 126976 → isB (mg_i s3 44 x) (EVT z (2 ^ n - 1) (c4 t) i (j + 1) x)) → R160 (nI i) (nI j) s3 := by
            intro s3 e3 st3
            refine c160 _ _ _ ?_
            rintro _ rfl
            rw [nI_1]; exact ih2 s3 ⟨e3, st3⟩
          rw [nl_4096, pk_rem (by omega) (by decide) (by decide), pk_div (by omega) (by decide) (by decide)]
          refine sp_next hz (fun l hl => (e2.1 27 (by decide) (by decide) l).trans (H2.1 l hl)) hok (by omega) (fun hd => bq_t (by decide) (go s2 e2 (fun x hx => (st2 x hx).congr (fun k => ?_)))) (fun hd => bq_f (nI_ge hd (by omega)) ?_)
          · rw [stp x k]
            exact ⟨Or.inl, fun hx => hx.elim id (fun hx => by have := hx.1.1; omega)⟩
          · have e3 : md [44] [39] h2 (mg_ui s2 0 39 (nI (nc z (i % 4096) j))) := e2.u0 (by decide)
            have e39 : mg_i (mg_ui s2 0 39 (nI (nc z (i % 4096) j))) 0 39 = nI (nc z (i % 4096) j) := mi_same
            have e44 : ∀ x, mg_i (mg_ui s2 0 39 (nI (nc z (i % 4096) j))) 44 x = mg_i s2 44 x := fun x => mi_cell (by decide)
            revert e3 e39 e44
            generalize mg_ui s2 0 39 (nI (nc z (i % 4096) j)) = s3
            intro e3 e39 e44
            rw [nI_add]
            rcases Nat.lt_or_ge 30 (i / 4096 + dl z (i % 4096) j) with h9 | h9
            · refine bq_t (nI_lt h9 (by omega)) (go s3 e3 (fun x hx => ?_))
              rw [e44 x]
              refine (st2 x hx).congr (fun k => ?_)
              rw [stp x k]
              exact ⟨Or.inl, fun hx2 => hx2.elim id (fun hx2 => by have := hx2.1.2; omega)⟩
            · refine bq_f (nI_nlt (a := 30) h9 (by decide)) ?_
              rw [e39, pk_mul, nI_add, nI_clamp (by omega)]
              have hxi : 4096 * (i / 4096 + dl z (i % 4096) j) + nc z (i % 4096) j < 126976 := by omega
              refine ⟨vp_in_nI hxi (by decide), vp_in_nI (show i < 126976 by omega) (by decide), vp_in_nI hxi (by decide), ?_⟩
              rintro _ rfl
              refine go _ (e3.ui (by decide) (by decide)) (fun x hx => ?_)
              by_cases ex : x = 4096 * (i / 4096 + dl z (i % 4096) j) + nc z (i % 4096) j
              · subst ex
                rw [mi_same, e44, e44]
                refine (isB_or (st2 _ hx) (isB_dbl hb hkb)).congr (fun k => ?_)
                rw [stp _ k]
                exact or_congr_right ⟨fun hx2 => ⟨⟨hd, rfl⟩, hx2⟩, fun hx2 => hx2.2⟩
              · rw [mi_place ex, e44]
                refine (st2 x hx).congr (fun k => ?_)
                rw [stp x k]
                exact ⟨Or.inl, fun hx2 => hx2.elim id (fun hx2 => absurd hx2.1.2 ex)⟩
  · rintro i s _ hi ⟨e, hs⟩ ih
    refine c28 _ _ (bq_f (nI_ge hi (by decide)) ?_)
    rw [nI_clamp (by omega)]
    refine ⟨vp_in_nI (show i < 126976 from hi) (by decide), ?_⟩
    rintro _ rfl
    rintro _ rfl
    rw [nI_1]
    refine ih _ ⟨e.ui (by decide) (by decide), fun x hx => ?_⟩
    by_cases e9 : x = i
    · subst e9; exact mi_same
    · have := hs x (by omega)
      rw [mi_place e9]; exact this
