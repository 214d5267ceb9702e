/-! the class: Cloth: what is asked of the survey -/
def bmx (f : Nat) (u : Nat → Nat) (x : Nat) : Nat := max (u x) (f - u x)
/-- the first of the minutes 1 .. k that parts the rows best -/
def bmn (f : Nat) (u : Nat → Nat) : Nat → Nat
  | 0 => 0
  | k + 1 => if k = 0 ∨ bmx f u (k + 1) < bmx f u (bmn f u k) then k + 1 else bmn f u k
theorem bmn_b {f : Nat} {u : Nat → Nat} : ∀ k, bmn f u k ≤ k ∧ (1 ≤ k → 1 ≤ bmn f u k)
  | 0 => ⟨Nat.le_refl 0, fun c => by omega⟩
  | k + 1 => by
    have ih := bmn_b (f := f) (u := u) k
    rw [bmn]
    by_cases h : k = 0 ∨ bmx f u (k + 1) < bmx f u (bmn f u k)
    · rw [if_pos h]; omega
    · rw [if_neg h]; omega
theorem bmx_b {f : Nat} {u : Nat → Nat} {x : Nat} (hu : u x ≤ f) : bmx f u x ≤ f := by unfold bmx; omega
def BMv (f : Nat) (u : Nat → Nat) (v : Int32) : Prop := (f = 0 ∧ v = nM) ∨ (0 < f ∧ v = nI (bmn f u 40))
theorem BMv_one {f : Nat} {u u' : Nat → Nat} {v v' : Int32} (e : ∀ x, 1 ≤ x → x ≤ 40 → u x = u' x) (h : BMv f u v) (h' : BMv f u' v') : v = v' := by
  have go : ∀ k, k ≤ 40 → bmn f u k = bmn f u' k := by
    intro k
    induction k with
    | zero => exact fun _ => rfl
    | succ k ih =>
      intro hk
      have ih := ih (by omega)
      by_cases k0 : k = 0
      · rw [bmn, bmn, if_pos (Or.inl k0), if_pos (Or.inl k0)]
      · have hb := bmn_b (f := f) (u := u') k
        rw [bmn, bmn, ih]
        unfold bmx
        rw [e (k + 1) (by omega) hk, e (bmn f u' k) (hb.2 (by omega)) (by omega)]
  rcases h with ⟨h1, h2⟩ | ⟨h1, h2⟩ <;> rcases h' with ⟨g1, g2⟩ | ⟨g1, g2⟩
  · rw [h2, g2]
  · omega
  · omega
  · rw [h2, g2, go 40 (by decide)]
theorem sp_X2_bestMinute {Y : xg_Y} {Q : Int32 → xg_H → Prop} {h : xg_H} {nm : Nat → Nat} {f : Nat} {u : Nat → Nat} (C : XC Y h nm) (h0 : xg_i h (nm 20) 0 = nI f) (hf : f < 5000) (hh : ∀ x, 1 ≤ x → x ≤ 40 → xg_i h (nm 26) x = nI (u x) ∧ u x ≤ f) (q : ∀ v, BMv f u v → Q v h) : wp_X2_bestMinute Y Q (nm 20) h := by
  unfold wp_X2_bestMinute
  refine ⟨C.1, fun R11 R57 c11 c57 => ?_⟩
  rintro _ rfl
  rw [h0, nI_1]
  by_cases f0 : f = 0
  · refine c11 _ _ _ _ (bq_f (by decide) ?_)
    rw [h0, f0]
    exact bq_t (by decide) (q _ (Or.inl ⟨f0, rfl⟩))
  refine lp (σ := Int32 × Int32) (R := fun x s => R11 s.1 s.2 (nI x) h) (fun x s => (x = 1 ∧ s.1 = nM ∧ s.2 = nI (f + 1)) ∨ (2 ≤ x ∧ s.1 = nI (bmn f u (x - 1)) ∧ s.2 = nI (bmx f u (bmn f u (x - 1))))) 1 41 (by decide) ?_ ?_ (nM, nI (f + 1)) (Or.inl ⟨rfl, rfl, rfl⟩)
  · rintro ⟨a, b⟩ hc
    dsimp only at hc ⊢
    rcases hc with hc | ⟨_, hc, _⟩
    · omega
    · refine c11 _ _ _ _ (bq_t (by decide) (q _ (Or.inr ⟨by omega, hc⟩)))
  · rintro x ⟨a, b⟩ h1 hx hc ih
    dsimp only at hc ⊢
    obtain ⟨w1, w2⟩ := hh x h1 (by omega)
    have e9 : (if xg_i h (nm 26) x < nI f - xg_i h (nm 26) x then nI f - xg_i h (nm 26) x else xg_i h (nm 26) x) = nI (bmx f u x) := by
      rw [w1, pk_sub w2]
      unfold bmx
      by_cases g : u x < f - u x
      · rw [if_pos (nI_lt g (by omega)), Nat.max_eq_right (by omega)]
      · rw [if_neg (nI_nlt (by omega) (by omega)), Nat.max_eq_left (by omega)]
    have hbx := bmx_b w2
    refine c11 _ _ _ _ (bq_f (nI_nlt (a := 40) (by omega) (by decide)) ?_)
    rw [h0]
    refine bq_f (nI_nle (by omega) (by omega)) ⟨nm 26, C.2.2.2.2.2.2.1.1, C.2.2.2.2.2.2.1.2.1, ?_⟩
    rw [C.2.2.2.2.2.2.1.2.2, nI_clamp (by omega), e9]
    refine ⟨vp_in_nI (by omega) (by decide), vp_in_nI (by omega) (by decide), ?_⟩
    rintro _ rfl
    have next : ∀ a' b', a' = nI (bmn f u x) → b' = nI (bmx f u (bmn f u x)) → R57 a' b' (nI x) h := fun a' b' ea eb => by
      refine c57 _ _ _ _ ?_
      rintro _ rfl
      rw [nI_1]
      exact ih (a', b') (Or.inr ⟨by omega, by rw [Nat.add_sub_cancel]; exact ea, by rw [Nat.add_sub_cancel]; exact eb⟩)
    rcases hc with ⟨e1, ea, eb⟩ | ⟨h2, ea, eb⟩
    · have eb9 : bmn f u x = x := by rw [e1]; rfl
      refine bq_f (by rw [eb]; exact nI_ge (by omega) (by omega)) (next _ _ (by rw [eb9]) (by rw [eb9]))
    · have hb := bmn_b (f := f) (u := u) (x - 1)
      have hb2 := bmx_b (hh (bmn f u (x - 1)) (hb.2 (by omega)) (by omega)).2
      have ex : bmn f u x = if (x - 1) = 0 ∨ bmx f u x < bmx f u (bmn f u (x - 1)) then x else bmn f u (x - 1) := by
        have := (show bmn f u ((x - 1) + 1) = if (x - 1) = 0 ∨ bmx f u ((x - 1) + 1) < bmx f u (bmn f u (x - 1)) then (x - 1) + 1 else bmn f u (x - 1) from rfl)
        rw [show x - 1 + 1 = x by omega] at this
        exact this
      rw [eb]
      by_cases g : bmx f u x < bmx f u (bmn f u (x - 1))
      · rw [if_pos (Or.inr g)] at ex
        exact bq_f (nI_ge g (by omega)) (next _ _ (by rw [ex]) (by rw [ex]))
      · rw [if_neg (fun c => c.elim (fun c => by omega) g)] at ex
        exact bq_t (nI_le (by omega) (by omega)) (next _ _ (by rw [ex]; exact ea) (by rw [ex]))
theorem sp_X2_mayBeFull {Y : xg_Y} {Q : Int32 → xg_H → Prop} {h : xg_H} {nm : Nat → Nat} {tx n : Nat} {z t pr : Nat → Nat} {p : Nat → Nat → Prop} (C : XC Y h nm) (S : XS Y h nm tx n z t pr) (H : SH n z t) (hs : ∀ g, g < n → isB (xg_i h (nm 25) g) (p g)) (q : ∀ v, isB v (fun g => g < n ∧ p g (z g)) → Q v h) : wp_X2_mayBeFull Y Q (nm 20) (some (nm tx)) h := by
  have hn4 := H.1
  unfold wp_X2_mayBeFull
  refine ⟨C.1, fun R4 R38 c4 c38 => ?_⟩
  refine lp (σ := Int32) (R := fun g v => R4 v (nI g) h) (fun g v => isB v (fun g' => g' < g ∧ p g' (z g'))) 0 n (Nat.zero_le n) ?_ ?_ (nI 0) (isB_0 (fun i c => absurd c.1 (Nat.not_lt_zero i)))
  · rintro v hv
    refine c4 _ _ _ ⟨nm tx, rfl, S.1, ?_⟩
    rw [S.2.2.2.2.1]
    exact bq_t (nI_le (Nat.le_refl n) (by omega)) (q v hv)
  · rintro g v _ hg hv ih
    have hz := H.2.1 g hg
    have next : ∀ x, isB x (fun g' => g' = g ∧ p g (z g)) → R38 (nI g) x v h := fun x hx => by
      refine c38 _ _ _ _ ?_
      rintro _ rfl _ rfl
      rw [nI_1]
      refine ih _ ((isB_or hv hx).congr (fun i => ?_))
      constructor
      · rintro (c | c)
        · exact ⟨by omega, c.2⟩
        · exact ⟨by omega, by rw [c.1]; exact c.2⟩
      · rintro ⟨c1, c2⟩
        rcases Nat.lt_or_ge i g with h9 | h9
        · exact Or.inl ⟨h9, c2⟩
        · have e : i = g := by omega
          rw [e] at c2; exact Or.inr ⟨e, c2⟩
    refine c4 _ _ _ ⟨nm tx, rfl, S.1, ?_⟩
    rw [S.2.2.2.2.1]
    refine bq_f (nI_ge hg (by omega)) ⟨nm 25, C.2.2.2.2.2.1.1, C.2.2.2.2.2.1.2.1, ?_⟩
    rw [C.2.2.2.2.2.1.2.2, nI_clamp (by omega)]
    refine ⟨vp_in_nI (by omega) (by decide), nm (tx + 10), S.2.1.1, S.2.1.2.1, ?_⟩
    rw [S.2.1.2.2, (S.2.2.2.2.2.1 g hg).1]
    obtain ⟨B, eB, hB⟩ := hs g hg
    rw [eB]
    refine ⟨vp_in_nI (by omega) (by decide), sp_X11_has hB.1 (by omega) (fun hb => bq_f (by decide) ?_) (fun hb => bq_t rfl (next _ (isB_0 (fun i c => ?_))))⟩
    · rw [bit_I (by omega)]
      exact next _ ((isB_bit (by omega)).congr (fun i => ⟨fun c => ⟨c, (hB.2 _).mp hb⟩, fun c => c.1⟩))
    · have := (hB.2 _).mpr c.2
      rw [hb] at this
      cases this
theorem sp_X2_mayBeEmpty {Y : xg_Y} {Q : Int32 → xg_H → Prop} {h : xg_H} {nm : Nat → Nat} {tx n : Nat} {z t pr : Nat → Nat} {p : Nat → Nat → Prop} (C : XC Y h nm) (S : XS Y h nm tx n z t pr) (H : SH n z t) (hs : ∀ g, g < n → isB (xg_i h (nm 25) g) (p g)) (q : ∀ v, isB v (fun g => g < n ∧ p g 0) → Q v h) : wp_X2_mayBeEmpty Y Q (nm 20) (some (nm tx)) h := by
  have hn4 := H.1
  unfold wp_X2_mayBeEmpty
  refine ⟨C.1, fun R4 R33 c4 c33 => ?_⟩
  refine lp (σ := Int32) (R := fun g v => R4 v (nI g) h) (fun g v => isB v (fun g' => g' < g ∧ p g' 0)) 0 n (Nat.zero_le n) ?_ ?_ (nI 0) (isB_0 (fun i c => absurd c.1 (Nat.not_lt_zero i)))
  · rintro v hv
    refine c4 _ _ _ ⟨nm tx, rfl, S.1, ?_⟩
    rw [S.2.2.2.2.1]
    exact bq_t (nI_le (Nat.le_refl n) (by omega)) (q v hv)
  · rintro g v _ hg hv ih
    have next : ∀ x, isB x (fun g' => g' = g ∧ p g 0) → R33 (nI g) x v h := fun x hx => by
      refine c33 _ _ _ _ ?_
      rintro _ rfl _ rfl
      rw [nI_1]
      refine ih _ ((isB_or hv hx).congr (fun i => ?_))
      constructor
      · rintro (c | c)
        · exact ⟨by omega, c.2⟩
        · exact ⟨by omega, by rw [c.1]; exact c.2⟩
      · rintro ⟨c1, c2⟩
        rcases Nat.lt_or_ge i g with h9 | h9
        · exact Or.inl ⟨h9, c2⟩
        · have e : i = g := by omega
          rw [e] at c2; exact Or.inr ⟨e, c2⟩
    refine c4 _ _ _ ⟨nm tx, rfl, S.1, ?_⟩
    rw [S.2.2.2.2.1]
    refine bq_f (nI_ge hg (by omega)) ⟨nm 25, C.2.2.2.2.2.1.1, C.2.2.2.2.2.1.2.1, ?_⟩
    rw [C.2.2.2.2.2.1.2.2, nI_clamp (by omega)]
    obtain ⟨B, eB, hB⟩ := hs g hg
    rw [eB]
    refine ⟨vp_in_nI (by omega) (by decide), sp_X11_has (k := 0) hB.1 (by omega) (fun hb => bq_f (by decide) ?_) (fun hb => bq_t rfl (next _ (isB_0 (fun i c => ?_))))⟩
    · rw [bit_I (by omega)]
      exact next _ ((isB_bit (by omega)).congr (fun i => ⟨fun c => ⟨c, (hB.2 _).mp hb⟩, fun c => c.1⟩))
    · have := (hB.2 _).mpr c.2
      rw [hb] at this
      cases this
/-- the only one of p; -1 without -/
def SUv (p : Nat → Prop) (v : Int32) : Prop := (∃ u, p u ∧ (∀ u', p u' → u' = u) ∧ v = nI u) ∨ ((¬ ∃ u, p u ∧ ∀ u', p u' → u' = u) ∧ v = nM)
theorem SUv_one {p p' : Nat → Prop} {v v' : Int32} (e : ∀ u, p u ↔ p' u) (h : SUv p v) (h' : SUv p' v') : v = v' := by
  rcases h with ⟨u, h1, h2, h3⟩ | ⟨h1, h2⟩ <;> rcases h' with ⟨u', g1, g2, g3⟩ | ⟨g1, g2⟩
  · rw [h3, g3, h2 u' ((e u').mpr g1)]
  · exact absurd ⟨u, (e u).mp h1, fun u' c => h2 u' ((e u').mpr c)⟩ g1
  · exact absurd ⟨u', (e u').mpr g1, fun u c => g2 u ((e u).mp c)⟩ h1
  · rw [h2, g2]
theorem one_bit : ∀ B, B < 256 → (sw (fun _ => 1) B 8 = 1 ↔ ∃ u, u < 8 ∧ B = 2 ^ u) := by decide +kernel
theorem bs_small {p : Nat → Prop} {B k : Nat} (h : bs p B) (hp : ∀ u, p u → u < k) : B < 2 ^ k := by
  refine Nat.lt_pow_two_of_testBit B (fun i hi => ?_)
  exact Bool.eq_false_iff.mpr (fun c => by have := hp i ((h.2 i).mp c); omega)
theorem bs_pow {p : Nat → Prop} {B u : Nat} (h : bs p B) : B = 2 ^ u ↔ (p u ∧ ∀ u', p u' → u' = u) := by
  constructor
  · intro e
    refine ⟨(h.2 u).mp (by rw [e, Nat.testBit_two_pow]; simp), fun u' hu' => ?_⟩
    have := (h.2 u').mpr hu'
    rw [e, Nat.testBit_two_pow] at this
    simp at this
    omega
  · rintro ⟨h1, h2⟩
    apply Nat.eq_of_testBit_eq
    intro i
    rw [Nat.testBit_two_pow]
    by_cases e : u = i
    · rw [← e, (h.2 u).mpr h1]; simp
    · rw [decide_eq_false e]
      exact Bool.eq_false_iff.mpr (fun c => e (h2 i ((h.2 i).mp c)).symm)
theorem sp_X2_sureTop {Y : xg_Y} {Q : Int32 → xg_H → Prop} {h : xg_H} {nm : Nat → Nat} {g : Nat} {p : Nat → Prop} (C : XC Y h nm) (hg : g < 4) (hs : isB (xg_i h (nm 25) g) p) (hp : ∀ u, p u → u < 8) (q : ∀ v, SUv p v → Q v h) : wp_X2_sureTop Y Q (nm 20) (nI g) h := by
  obtain ⟨B, eB, hB⟩ := hs
  have hB8 := bs_small hB hp
  unfold wp_X2_sureTop
  refine ⟨C.1, bq_f (nI_pos (by omega)) (bq_f (nI_ge (b := 4) hg (by decide)) ⟨nm 25, C.2.2.2.2.2.1.1, C.2.2.2.2.2.1.2.1, ?_⟩)⟩
  rw [C.2.2.2.2.2.1.2.2, nI_clamp (by omega), eB]
  refine ⟨vp_in_nI hg (by decide), sp_bitCount8 hB8 ?_⟩
  have key : sw (fun _ => 1) B 8 = 1 ↔ ∃ u, p u ∧ ∀ u', p u' → u' = u := by
    rw [one_bit B hB8]
    constructor
    · rintro ⟨u, _, e⟩; exact ⟨u, (bs_pow hB).mp e⟩
    · rintro ⟨u, hu⟩; exact ⟨u, hp u hu.1, (bs_pow hB).mpr hu⟩
  have hsw := sw_le (v := fun _ => 1) (s := B) (B := 1) 8 (fun _ _ => Nat.le_refl 1)
  by_cases c : sw (fun _ => 1) B 8 = 1
  · refine bq_t (by rw [c]; rfl) ⟨nm 25, C.2.2.2.2.2.1.1, C.2.2.2.2.2.1.2.1, ?_⟩
    rw [C.2.2.2.2.2.1.2.2, eB]
    refine ⟨vp_in_nI hg (by decide), sp_X11_lowest ⟨B, rfl, hB⟩ (fun r hr => q r ?_)⟩
    obtain ⟨u, h1, h2⟩ := key.mp c
    have hu8 := hp u h1
    rcases hr with ⟨_, hno⟩ | ⟨r', er, ⟨_, hr1⟩, _⟩
    · exact absurd ⟨by omega, h1⟩ (hno u)
    · exact Or.inl ⟨u, h1, h2, by rw [er, h2 r' hr1]⟩
  · exact bq_f (fun c2 => c ((nI_eq (b := 1) (by omega) (by decide)).mp c2)) (q _ (Or.inr ⟨fun c2 => c (key.mpr c2), rfl⟩))
