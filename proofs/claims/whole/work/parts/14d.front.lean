/-! spans done, lengthened at the end -/
def FW (z : Nat → Nat) (m c0 : Nat) (sp : Nat → Nat) : Nat → Nat → Nat → Prop
  | 0, c, w => c = c0 ∧ w = 0
  | d + 1, c, w => ∃ c1 w1 t1 c2, FW z m c0 sp d c1 w1 ∧ rc z m c1 t1 c2 ∧ rc z m c2 (sp d) c ∧ w = w1 + (t1 + sp d)
theorem FW_mid {z : Nat → Nat} {m c0 K : Nat} {sp : Nat → Nat} : ∀ e d, d + e = K → ∀ w, (∃ c w1 w2, FW z m c0 sp d c w1 ∧ DN z m sp K e c w2 ∧ w = w1 + w2) ↔ ∃ c, FW z m c0 sp K c w
  | 0, d, hd, w => by
    have e : d = K := by omega
    subst e
    constructor
    · rintro ⟨c, w1, w2, hF, hD, rfl⟩
      have h0 : w2 = 0 := hD
      subst h0
      exact ⟨c, hF⟩
    · rintro ⟨c, hF⟩
      exact ⟨c, w, 0, hF, rfl, rfl⟩
  | e + 1, d, hd, w => by
    rw [← FW_mid e (d + 1) (by omega) w]
    have es : K - (e + 1) = d := by omega
    constructor
    · rintro ⟨c, w1, w2, hF, ⟨t1, b, b', w', r1, r2, ew, hD⟩, rfl⟩
      rw [es] at r2 ew
      exact ⟨b', w1 + (t1 + sp d), w', ⟨c, w1, t1, b, hF, r1, r2, rfl⟩, hD, by omega⟩
    · rintro ⟨c, w1, w2, ⟨c1, w0, t1, c2, hF, r1, r2, e1⟩, hD, rfl⟩
      refine ⟨c1, w0, t1 + (sp d + w2), hF, ⟨t1, c2, c, w2, r1, ?_, ?_, hD⟩, by omega⟩
      · rw [es]; exact r2
      · rw [es]
theorem FW_DN {z : Nat → Nat} {m c0 K w : Nat} {sp : Nat → Nat} : DN z m sp K K c0 w ↔ ∃ c, FW z m c0 sp K c w := by
  rw [← FW_mid K 0 (by omega) w]
  constructor
  · intro h
    exact ⟨c0, 0, w, ⟨rfl, rfl⟩, h, by omega⟩
  · rintro ⟨c, w1, w2, ⟨rfl, rfl⟩, hD, rfl⟩
    rw [Nat.zero_add]; exact hD
theorem FW_ok {z : Nat → Nat} {m c0 : Nat} {sp : Nat → Nat} (hz : zok z) (hc : okc z c0) : ∀ d c w, FW z m c0 sp d c w → okc z c
  | 0, c, w, h => by
    obtain ⟨rfl, _⟩ := h
    exact hc
  | d + 1, c, w, ⟨c1, w1, t1, c2, hF, ⟨_, _, p1⟩, ⟨_, _, p2⟩, _⟩ => pt_ok hz p2 (pt_ok hz p1 (FW_ok hz hc d c1 w1 hF))
theorem sp_X11_isT {Y : xg_Y} {Q : Int32 → xg_H → Prop} {h : xg_H} {x : Int32} (q1 : ∀ T, x = nI T → 1 ≤ T → T ≤ 30 → Q 1 h) (q0 : ¬ (1 ≤ x ∧ x ≤ 30) → Q 0 h) : wp_X11_isT Y Q x h := by
  unfold wp_X11_isT
  refine ⟨fun c => q0 (fun h => absurd c (Int32.not_lt.mpr h.1)), fun c => ⟨fun c2 => q0 (fun h => absurd c2 (Int32.not_lt.mpr h.2)), fun c2 => ?_⟩⟩
  obtain ⟨T, rfl, h1, h2⟩ := in_num (lo := 1) (hi := 30) (by decide) (by decide) (Int32.not_lt.mp c) (Int32.not_lt.mp c2)
  exact q1 T rfl h1 h2
