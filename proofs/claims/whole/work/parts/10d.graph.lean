/-! the graph of tops: dg c g: the top of glass g in the code c; z: sizes; tn: what is on top behind the turns of the set s; dl: minutes to the next event (0: none); nc: the code then -/
def dg (c g : Nat) : Nat := c / 8 ^ g % 8
def tn (z : Nat → Nat) (c s g : Nat) : Nat := if s.testBit g then z g - dg c g else dg c g
def lk (z : Nat → Nat) (c s : Nat) : Nat → Nat
  | 0 => 1000000
  | k + 1 => if 0 < tn z c s k ∧ tn z c s k < lk z c s k then tn z c s k else lk z c s k
def ck (z : Nat → Nat) (c s : Nat) : Nat → Nat
  | 0 => 0
  | k + 1 => ck z c s k + tn z c s k * 8 ^ k
def bk (z : Nat → Nat) (c s d : Nat) : Nat → Nat
  | 0 => 0
  | k + 1 => bk z c s d k + (tn z c s k - d) * 8 ^ k
def dl (z : Nat → Nat) (c s : Nat) : Nat := if lk z c s 4 = 1000000 then 0 else lk z c s 4
def nc (z : Nat → Nat) (c s : Nat) : Nat := bk z c s (dl z c s) 4
/-- sizes are at most 7 -/
def zok (z : Nat → Nat) : Prop := ∀ g, g < 4 → z g ≤ 7
/-- a code of tops that the sizes allow -/
def okc (z : Nat → Nat) (c : Nat) : Prop := c < 4096 ∧ ∀ g, g < 4 → dg c g ≤ z g
theorem dg_lt (c g : Nat) : dg c g < 8 := Nat.mod_lt _ (by decide)
theorem tn_le {z : Nat → Nat} {c s g : Nat} (hz : zok z) (hg : g < 4) : tn z c s g ≤ 7 := by
  unfold tn
  have := hz g hg
  have := dg_lt c g
  split <;> omega
theorem tn_lez {z : Nat → Nat} {c s g : Nat} (hc : okc z c) (hg : g < 4) : tn z c s g ≤ z g := by
  unfold tn
  have := hc.2 g hg
  split <;> omega
theorem four {P : Nat → Prop} (h0 : P 0) (h1 : P 1) (h2 : P 2) (h3 : P 3) : ∀ g, g < 4 → P g := by
  intro g hg
  rcases (show g = 0 ∨ g = 1 ∨ g = 2 ∨ g = 3 by omega) with rfl | rfl | rfl | rfl
  · exact h0
  · exact h1
  · exact h2
  · exact h3
theorem dg0 (c : Nat) : dg c 0 = c % 8 := by unfold dg; rw [Nat.pow_zero, Nat.div_one]
theorem dg1 (c : Nat) : dg c 1 = c / 8 % 8 := rfl
theorem dg2 (c : Nat) : dg c 2 = c / 64 % 8 := rfl
theorem dg3 (c : Nat) : dg c 3 = c / 512 % 8 := rfl
/-- a code by its four tops -/
def cd (a b c d : Nat) : Nat := a + 8 * b + 64 * c + 512 * d
theorem cd_lt {a b c d : Nat} (ha : a ≤ 7) (hb : b ≤ 7) (hc : c ≤ 7) (hd : d ≤ 7) : cd a b c d < 4096 := by unfold cd; omega
theorem dg_cd {f : Nat → Nat} (hf : ∀ g, g < 4 → f g ≤ 7) : ∀ g, g < 4 → dg (cd (f 0) (f 1) (f 2) (f 3)) g = f g := by
  have h0 := hf 0 (by decide)
  have h1 := hf 1 (by decide)
  have h2 := hf 2 (by decide)
  have h3 := hf 3 (by decide)
  unfold cd
  refine four ?_ ?_ ?_ ?_
  · rw [dg0]; omega
  · rw [dg1]; omega
  · rw [dg2]; omega
  · rw [dg3]; omega
theorem cd_dg {c : Nat} (hc : c < 4096) : cd (dg c 0) (dg c 1) (dg c 2) (dg c 3) = c := by
  unfold cd
  rw [dg0, dg1, dg2, dg3]
  omega
theorem dg_inj {c d : Nat} (hc : c < 4096) (hd : d < 4096) (h : ∀ g, g < 4 → dg c g = dg d g) : c = d := by
  rw [← cd_dg hc, ← cd_dg hd, h 0 (by decide), h 1 (by decide), h 2 (by decide), h 3 (by decide)]
theorem ck4 (z : Nat → Nat) (c s : Nat) : ck z c s 4 = cd (tn z c s 0) (tn z c s 1) (tn z c s 2) (tn z c s 3) := by
  unfold cd
  simp only [ck]
  omega
theorem bk4 (z : Nat → Nat) (c s d : Nat) : bk z c s d 4 = cd (tn z c s 0 - d) (tn z c s 1 - d) (tn z c s 2 - d) (tn z c s 3 - d) := by
  unfold cd
  simp only [bk]
  omega
theorem ck_lt {z : Nat → Nat} {c s : Nat} (hz : zok z) : ∀ k, k ≤ 4 → ck z c s k < 8 ^ k
  | 0, _ => by simp only [ck]; decide
  | k + 1, hk => by
    have h := ck_lt (c := c) (s := s) hz k (by omega)
    have ht := tn_le (c := c) (s := s) hz (show k < 4 by omega)
    have hm := Nat.mul_le_mul_right (8 ^ k) ht
    simp only [ck]
    rw [Nat.pow_succ]
    omega
theorem bk_lt {z : Nat → Nat} {c s d : Nat} (hz : zok z) : ∀ k, k ≤ 4 → bk z c s d k < 8 ^ k
  | 0, _ => by simp only [bk]; decide
  | k + 1, hk => by
    have h := bk_lt (c := c) (s := s) (d := d) hz k (by omega)
    have ht := tn_le (c := c) (s := s) hz (show k < 4 by omega)
    have hm := Nat.mul_le_mul_right (8 ^ k) (show tn z c s k - d ≤ 7 by omega)
    simp only [bk]
    rw [Nat.pow_succ]
    omega
theorem dg_ck {z : Nat → Nat} {c s : Nat} (hz : zok z) (g : Nat) (hg : g < 4) : dg (ck z c s 4) g = tn z c s g := by
  rw [ck4]; exact dg_cd (f := tn z c s) (fun g hg => tn_le hz hg) g hg
theorem dg_bk {z : Nat → Nat} {c s d : Nat} (hz : zok z) (g : Nat) (hg : g < 4) : dg (bk z c s d 4) g = tn z c s g - d := by
  rw [bk4]; exact dg_cd (f := fun g => tn z c s g - d) (fun g hg => by have := tn_le (c := c) (s := s) hz hg; omega) g hg
theorem nc_lt {z : Nat → Nat} {c s : Nat} (hz : zok z) : nc z c s < 4096 := bk_lt hz 4 (by decide)
theorem dg_nc {z : Nat → Nat} {c s : Nat} (hz : zok z) (g : Nat) (hg : g < 4) : dg (nc z c s) g = tn z c s g - dl z c s := dg_bk hz g hg
theorem nc_ok {z : Nat → Nat} {c s : Nat} (hz : zok z) (hc : okc z c) : okc z (nc z c s) := by
  refine ⟨nc_lt hz, fun g hg => ?_⟩
  rw [dg_nc hz g hg]
  have := tn_lez (s := s) hc hg
  omega
theorem lk_spec (z : Nat → Nat) (c s : Nat) : ∀ k, (lk z c s k = 1000000 ∧ ∀ g, g < k → ¬ (0 < tn z c s g ∧ tn z c s g < 1000000)) ∨ (∃ g, g < k ∧ 0 < tn z c s g ∧ lk z c s k = tn z c s g ∧ tn z c s g < 1000000 ∧ ∀ g', g' < k → 0 < tn z c s g' → lk z c s k ≤ tn z c s g')
  | 0 => Or.inl ⟨rfl, fun g h => absurd h (Nat.not_lt_zero g)⟩
  | k + 1 => by
    rcases lk_spec z c s k with ⟨e, h⟩ | ⟨g, hg, hp, e, hlt, h⟩
    · by_cases ht : 0 < tn z c s k ∧ tn z c s k < lk z c s k
      · refine Or.inr ⟨k, by omega, ht.1, ?_, by omega, fun g' hg' hp' => ?_⟩
        · simp only [lk]; rw [if_pos ht]
        · simp only [lk]; rw [if_pos ht]
          rcases Nat.lt_or_ge g' k with h9 | h9
          · have := h g' h9
            omega
          · rw [show g' = k by omega]; exact Nat.le_refl _
      · refine Or.inl ⟨by simp only [lk]; rw [if_neg ht]; exact e, fun g' hg' hp' => ?_⟩
        rcases Nat.lt_or_ge g' k with h9 | h9
        · exact h g' h9 hp'
        · rw [show g' = k by omega] at hp'; omega
    · by_cases ht : 0 < tn z c s k ∧ tn z c s k < lk z c s k
      · refine Or.inr ⟨k, by omega, ht.1, by simp only [lk]; rw [if_pos ht], by omega, fun g' hg' hp' => ?_⟩
        simp only [lk]; rw [if_pos ht]
        rcases Nat.lt_or_ge g' k with h9 | h9
        · have := h g' h9 hp'
          omega
        · rw [show g' = k by omega]; exact Nat.le_refl _
      · refine Or.inr ⟨g, by omega, hp, by simp only [lk]; rw [if_neg ht]; exact e, hlt, fun g' hg' hp' => ?_⟩
        simp only [lk]; rw [if_neg ht]
        rcases Nat.lt_or_ge g' k with h9 | h9
        · exact h g' h9 hp'
        · rw [show g' = k by omega] at hp' ⊢; omega
/-- what dl is -/
theorem dl_spec {z : Nat → Nat} {c s : Nat} (hz : zok z) : (dl z c s = 0 ∧ ∀ g, g < 4 → tn z c s g = 0) ∨ (0 < dl z c s ∧ dl z c s ≤ 7 ∧ (∃ g, g < 4 ∧ tn z c s g = dl z c s) ∧ ∀ g, g < 4 → 0 < tn z c s g → dl z c s ≤ tn z c s g) := by
  rcases lk_spec z c s 4 with ⟨e, h⟩ | ⟨g, hg, hp, e, hlt, h⟩
  · refine Or.inl ⟨by unfold dl; rw [if_pos e], fun g hg => ?_⟩
    have := h g hg
    have := tn_le (c := c) (s := s) hz hg
    omega
  · have h7 := tn_le (c := c) (s := s) hz hg
    have ed : dl z c s = lk z c s 4 := by unfold dl; rw [if_neg (by omega)]
    refine Or.inr ⟨by omega, by omega, ⟨g, hg, by omega⟩, fun g' hg' hp' => ?_⟩
    rw [ed]; exact h g' hg' hp'
theorem dl_le {z : Nat → Nat} {c s : Nat} (hz : zok z) : dl z c s ≤ 7 := by
  rcases dl_spec (c := c) (s := s) hz with ⟨e, _⟩ | ⟨_, h, _⟩ <;> omega
/-- a set of glasses that is part of m -/
def sb (s m : Nat) : Prop := s &&& m = s
theorem sb_le {s m : Nat} (h : sb s m) : s ≤ m := by
  unfold sb at h
  rw [← h]; exact Nat.and_le_right
theorem sb_bit {s m : Nat} (h : sb s m) {i : Nat} (hi : s.testBit i = true) : m.testBit i = true := by
  unfold sb at h
  rw [← h, Nat.testBit_and] at hi
  exact (Bool.and_eq_true_iff.mp hi).2
theorem sb_full {n s : Nat} : sb s (2 ^ n - 1) ↔ s ≤ 2 ^ n - 1 := by
  refine ⟨sb_le, fun h => ?_⟩
  unfold sb
  rw [Nat.and_two_pow_sub_one_eq_mod, Nat.mod_eq_of_lt]
  have := Nat.two_pow_pos n
  omega
/-- k events from the code a: t minutes, then the code b, the sets turned (parts of m) weigh w -/
def pt (z : Nat → Nat) (m : Nat) (wt : Nat → Nat) : Nat → Nat → Nat → Nat → Nat → Prop
  | 0, a, t, b, w => t = 0 ∧ b = a ∧ w = 0
  | k + 1, a, t, b, w => ∃ s t' w', sb s m ∧ 0 < dl z a s ∧ t = dl z a s + t' ∧ w = wt s + w' ∧ pt z m wt k (nc z a s) t' b w'
theorem pt_app {z : Nat → Nat} {m : Nat} {wt : Nat → Nat} : ∀ {k a t b w}, pt z m wt k a t b w → ∀ {j t2 c w2}, pt z m wt j b t2 c w2 → pt z m wt (k + j) a (t + t2) c (w + w2)
  | 0, a, t, b, w, h, j, t2, c, w2, h2 => by
    obtain ⟨rfl, rfl, rfl⟩ := h
    rw [Nat.zero_add, Nat.zero_add, Nat.zero_add]; exact h2
  | k + 1, a, t, b, w, h, j, t2, c, w2, h2 => by
    obtain ⟨s, t', w', h1, h3, rfl, rfl, h4⟩ := h
    have := pt_app h4 h2
    rw [show k + 1 + j = (k + j) + 1 by omega]
    exact ⟨s, t' + t2, w' + w2, h1, h3, by omega, by omega, this⟩
theorem pt_one {z : Nat → Nat} {m : Nat} {wt : Nat → Nat} {a s : Nat} (h1 : sb s m) (h2 : 0 < dl z a s) : pt z m wt 1 a (dl z a s) (nc z a s) (wt s) := ⟨s, 0, 0, h1, h2, rfl, rfl, rfl, rfl, rfl⟩
theorem pt_snoc {z : Nat → Nat} {m : Nat} {wt : Nat → Nat} : ∀ {k a t b w}, pt z m wt (k + 1) a t b w → ∃ s t' w' b', pt z m wt k a t' b' w' ∧ sb s m ∧ 0 < dl z b' s ∧ t = t' + dl z b' s ∧ w = w' + wt s ∧ b = nc z b' s
  | 0, a, t, b, w, h => by
    obtain ⟨s, t', w', h1, h3, rfl, rfl, rfl, rfl, rfl⟩ := h
    exact ⟨s, 0, 0, a, ⟨rfl, rfl, rfl⟩, h1, h3, by omega, by omega, rfl⟩
  | k + 1, a, t, b, w, h => by
    obtain ⟨s, t', w', h1, h3, rfl, rfl, h4⟩ := h
    obtain ⟨s2, t2, w2, b', g1, g2, g3, rfl, rfl, g6⟩ := pt_snoc h4
    exact ⟨s2, dl z a s + t2, wt s + w2, b', ⟨s, t2, w2, h1, h3, rfl, rfl, g1⟩, g2, g3, by omega, by omega, g6⟩
theorem pt_add {z : Nat → Nat} {m : Nat} {wt : Nat → Nat} {k a t b w s : Nat} (h : pt z m wt k a t b w) (h1 : sb s m) (h2 : 0 < dl z b s) : pt z m wt (k + 1) a (t + dl z b s) (nc z b s) (w + wt s) := pt_app h (pt_one h1 h2)
theorem pt_ok {z : Nat → Nat} {m : Nat} {wt : Nat → Nat} (hz : zok z) : ∀ {k a t b w}, pt z m wt k a t b w → okc z a → okc z b
  | 0, a, t, b, w, h, ha => by obtain ⟨_, rfl, _⟩ := h; exact ha
  | k + 1, a, t, b, w, h, ha => by
    obtain ⟨s, t', w', h1, h3, _, _, h4⟩ := h
    exact pt_ok hz h4 (nc_ok hz ha)
theorem pt_k {z : Nat → Nat} {m : Nat} {wt : Nat → Nat} : ∀ {k a t b w}, pt z m wt k a t b w → k ≤ t
  | 0, a, t, b, w, h => Nat.zero_le _
  | k + 1, a, t, b, w, h => by
    obtain ⟨s, t', w', h1, h3, rfl, _, h4⟩ := h
    have := pt_k h4
    omega
theorem pt_w {z : Nat → Nat} {m B : Nat} {wt : Nat → Nat} (hB : ∀ s, s ≤ m → wt s ≤ B) : ∀ {k a t b w}, pt z m wt k a t b w → w ≤ k * B
  | 0, a, t, b, w, h => by obtain ⟨_, _, rfl⟩ := h; omega
  | k + 1, a, t, b, w, h => by
    obtain ⟨s, t', w', h1, h3, rfl, rfl, h4⟩ := h
    have := pt_w hB h4
    have := hB s (sb_le h1)
    rw [Nat.add_mul]
    omega
theorem pt_any {z : Nat → Nat} {m : Nat} {wt wu : Nat → Nat} : ∀ {k a t b w}, pt z m wt k a t b w → ∃ w', pt z m wu k a t b w'
  | 0, a, t, b, w, h => by obtain ⟨h1, h2, _⟩ := h; exact ⟨0, h1, h2, rfl⟩
  | k + 1, a, t, b, w, h => by
    obtain ⟨s, t', w', h1, h3, rfl, rfl, h4⟩ := h
    obtain ⟨w2, h5⟩ := pt_any (wu := wu) h4
    exact ⟨wu s + w2, s, t', w2, h1, h3, rfl, rfl, h5⟩
/-- b can be the code of an event t minutes behind a -/
def rc (z : Nat → Nat) (m a t b : Nat) : Prop := ∃ k w, pt z m (fun _ => 0) k a t b w
theorem rc_of {z : Nat → Nat} {m : Nat} {wt : Nat → Nat} {k a t b w : Nat} (h : pt z m wt k a t b w) : rc z m a t b := ⟨k, pt_any h⟩
theorem rc_to {z : Nat → Nat} {m : Nat} {wt : Nat → Nat} {a t b : Nat} (h : rc z m a t b) : ∃ k w, pt z m wt k a t b w := by
  obtain ⟨k, w, h⟩ := h
  exact ⟨k, pt_any h⟩
