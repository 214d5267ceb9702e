/-! under the cloth: one glass by itself: the glass, the minute, at which minutes it ran out -/
abbrev hS : Type := gS × Nat × (Nat → Bool)
def hM (S : hS) : hS := (gP S.1, S.2.1 + 1, fun x => if x = S.2.1 + 1 then gO S.1 else S.2.2 x)
def hI (S : hS) : Nat → hS
  | 0 => S
  | j + 1 => hM (hI S j)
def hD (g k y : Nat) (S : hS) : hS := if k = 0 then hI S y else if y = g then (gA k S.1, S.2) else S
def hT (g : Nat) (kd yy : Nat → Nat) (S : hS) : Nat → hS
  | 0 => S
  | k + 1 => hD g (kd k) (yy k) (hT g kd yy S k)
/-- the minutes of the first k deeds -/
def mn (kd yy : Nat → Nat) : Nat → Nat
  | 0 => 0
  | k + 1 => mn kd yy k + (if kd k = 0 then yy k else 0)
theorem hI_m (S : hS) : ∀ j, (hI S j).2.1 = S.2.1 + j
  | 0 => rfl
  | j + 1 => by show (hI S j).2.1 + 1 = _; rw [hI_m S j]; omega
theorem hD_m {g k y : Nat} {S : hS} : (hD g k y S).2.1 = S.2.1 + (if k = 0 then y else 0) := by
  unfold hD
  by_cases h : k = 0
  · rw [if_pos h, if_pos h, hI_m]
  · rw [if_neg h, if_neg h]
    by_cases h2 : y = g
    · rw [if_pos h2]; rfl
    · rw [if_neg h2]; rfl
theorem hT_m {g : Nat} {kd yy : Nat → Nat} {S : hS} : ∀ k, (hT g kd yy S k).2.1 = S.2.1 + mn kd yy k
  | 0 => rfl
  | k + 1 => by rw [hT, hD_m, hT_m k, mn]; omega
theorem mn_mono {kd yy : Nat → Nat} {i : Nat} : ∀ d, mn kd yy i ≤ mn kd yy (i + d)
  | 0 => Nat.le_refl _
  | d + 1 => Nat.le_trans (mn_mono d) (by rw [show i + (d + 1) = (i + d) + 1 by omega, mn]; omega)
/-- later minutes leave earlier ones -/
theorem hI_old {S : hS} {t : Nat} : ∀ i d, t ≤ S.2.1 + i → (hI S (i + d)).2.2 t = (hI S i).2.2 t
  | i, 0, _ => rfl
  | i, d + 1, h => by
    rw [show i + (d + 1) = (i + d) + 1 by omega]
    show (if t = (hI S (i + d)).2.1 + 1 then _ else (hI S (i + d)).2.2 t) = _
    rw [hI_m, if_neg (by omega)]
    exact hI_old i d h
/-- a glass among the others -/
def pj (g : Nat) (w : wS) : hS := (w.1 g, w.2.1, fun t => (w.2.2.2.2.2.2.2 t).testBit g)
theorem pj_P {n g : Nat} {w : wS} (hg : g < n) : pj g (wP n w) = hM (pj g w) := by
  have e1 : (wP n w).1 g = gP (w.1 g) := if_pos hg
  have e3 : (fun t => ((wP n w).2.2.2.2.2.2.2 t).testBit g) = fun x => if x = w.2.1 + 1 then gO (w.1 g) else (w.2.2.2.2.2.2.2 x).testBit g := by
    funext t
    show (if t = w.2.1 + 1 then wm w n else w.2.2.2.2.2.2.2 t).testBit g = _
    by_cases h : t = w.2.1 + 1
    · rw [if_pos h, if_pos h]
      unfold wm
      rw [bsm_bit, decide_eq_true hg, Bool.true_and]
    · rw [if_neg h, if_neg h]
  unfold pj hM
  rw [e1, e3]
  rfl
theorem pj_I {n g : Nat} {w : wS} (hg : g < n) : ∀ j, pj g (wI n w j) = hI (pj g w) j
  | 0 => rfl
  | j + 1 => by rw [wI, pj_P hg, pj_I hg j, hI]
theorem pj_D {n g k y : Nat} {w : wS} (hg : g < n) (h : (wD n k y w).1 = true) : pj g (wD n k y w).2 = hD g k y (pj g w) := by
  unfold wD at h ⊢
  unfold hD
  by_cases h0 : k = 0
  · rw [if_pos h0] at h ⊢
    rw [if_pos h0]
    by_cases h1 : w.2.1 + y ≤ 99
    · rw [if_pos h1]; exact pj_I hg y
    · rw [if_neg h1] at h; cases h
  · rw [if_neg h0] at h ⊢
    rw [if_neg h0]
    by_cases h1 : y < n ∧ gM k (w.1 y) = true
    · rw [if_pos h1]
      by_cases h2 : y = g
      · rw [if_pos h2]
        have e1 : (wA k y w).1 g = gA k (w.1 g) := by
          show (if g = y then gA k (w.1 y) else w.1 g) = _
          rw [if_pos h2.symm, h2]
        unfold pj
        rw [e1]
        rfl
      · rw [if_neg h2]
        have e1 : (wA k y w).1 g = w.1 g := if_neg (fun c => h2 c.symm)
        unfold pj
        rw [e1]
        rfl
    · rw [if_neg h1] at h; cases h
theorem pj_T {n g : Nat} {kd yy : Nat → Nat} {w : wS} (hg : g < n) : ∀ k, (∀ i, i < k → wG n kd yy w i = true) → pj g (wT n kd yy w k) = hT g kd yy (pj g w) k
  | 0, _ => rfl
  | k + 1, h => by
    rw [wT, pj_D hg (h k (by omega)), pj_T hg k (fun i hi => h i (by omega)), hT]
theorem wD_m {n k y : Nat} {w : wS} (h : (wD n k y w).1 = true) : (wD n k y w).2.2.1 = w.2.1 + (if k = 0 then y else 0) := by
  unfold wD at h ⊢
  by_cases h0 : k = 0
  · rw [if_pos h0] at h ⊢
    rw [if_pos h0]
    by_cases h1 : w.2.1 + y ≤ 99
    · rw [if_pos h1]; exact wI_m y
    · rw [if_neg h1] at h; cases h
  · rw [if_neg h0] at h ⊢
    rw [if_neg h0]
    by_cases h1 : y < n ∧ gM k (w.1 y) = true
    · rw [if_pos h1]; rfl
    · rw [if_neg h1] at h; cases h
theorem wT_m {n : Nat} {kd yy : Nat → Nat} {w : wS} : ∀ k, (∀ i, i < k → wG n kd yy w i = true) → (wT n kd yy w k).2.1 = w.2.1 + mn kd yy k
  | 0, _ => rfl
  | k + 1, h => by
    rw [wT, wD_m (h k (by omega)), wT_m k (fun i hi => h i (by omega)), mn]
    omega
/-- v is the first below m of which P is so, m without -/
def isF (P : Nat → Prop) (m v : Nat) : Prop := v ≤ m ∧ (∀ i, i < v → ¬ P i) ∧ (v < m → P v)
theorem isF_one {P : Nat → Prop} {m v v' : Nat} (h : isF P m v) (h' : isF P m v') : v = v' := by
  rcases Nat.lt_trichotomy v v' with h9 | h9 | h9
  · exact absurd (h.2.2 (by have := h'.1; omega)) (h'.2.1 v h9)
  · exact h9
  · exact absurd (h'.2.2 (by have := h.1; omega)) (h.2.1 v' h9)
/-- a deed that can't be whatever the tops are; as far as one glass goes -/
def shP (n : Nat) (kd yy : Nat → Nat) (k : Nat) : Prop := (kd k = 0 ∧ 99 < mn kd yy (k + 1)) ∨ (kd k ≠ 0 ∧ n ≤ yy k)
def owP (g : Nat) (kd yy : Nat → Nat) (S : hS) (k : Nat) : Prop := kd k ≠ 0 ∧ yy k = g ∧ gM (kd k) (hT g kd yy S k).1 = false
/-- the morning of one glass -/
def h0 (z t : Nat) : hS := ((z, t, false, 0), 0, fun _ => false)
theorem pj_0 {g : Nat} {z t : Nat → Nat} : pj g (w0 z t) = h0 (z g) (t g) := by
  unfold pj w0 h0
  congr 2
  funext x
  exact Nat.zero_testBit g
/-- the first deed that can't be -/
def stP (n : Nat) (kd yy : Nat → Nat) (z t : Nat → Nat) (k : Nat) : Prop := shP n kd yy k ∨ ∃ g, g < n ∧ owP g kd yy (h0 (z g) (t g)) k
theorem stop_E {n m v : Nat} {kd yy z t : Nat → Nat} (h : isF (stP n kd yy z t) m v) : wE n kd yy (w0 z t) m v := by
  obtain ⟨h1, h2, h3⟩ := h
  have ok : ∀ k, k ≤ v → ∀ i, i < k → wG n kd yy (w0 z t) i = true := by
    intro k
    induction k with
    | zero => intro _ i hi; omega
    | succ k ih =>
      intro hk i hi
      rcases Nat.lt_or_ge i k with h9 | h9
      · exact ih (by omega) i h9
      · have e : i = k := by omega
        subst e
        have pre := ih (by omega)
        have nP := h2 i (by omega)
        have em : (wT n kd yy (w0 z t) i).2.1 = mn kd yy i := by rw [wT_m i pre]; exact Nat.zero_add _
        unfold wG wD
        by_cases k0 : kd i = 0
        · rw [if_pos k0, em]
          have : ¬ 99 < mn kd yy (i + 1) := fun c => nP (Or.inl (Or.inl ⟨k0, c⟩))
          rw [mn, if_pos k0] at this
          rw [if_pos (by omega)]
        · rw [if_neg k0]
          have hy : yy i < n := Nat.lt_of_not_le (fun c => nP (Or.inl (Or.inr ⟨k0, c⟩)))
          have eg : ((wT n kd yy (w0 z t) i).1 (yy i)) = (hT (yy i) kd yy (h0 (z (yy i)) (t (yy i))) i).1 := by
            have := congrArg Prod.fst (pj_T (kd := kd) (yy := yy) (w := w0 z t) hy i pre)
            rw [pj_0] at this
            exact this
          cases hgm : gM (kd i) (hT (yy i) kd yy (h0 (z (yy i)) (t (yy i))) i).1 with
          | true => rw [if_pos ⟨hy, by rw [eg]; exact hgm⟩]
          | false => exact absurd (Or.inr ⟨yy i, hy, k0, rfl, hgm⟩) nP
  refine ⟨h1, ok v (Nat.le_refl v), ?_⟩
  by_cases e : v = m
  · exact Or.inl e
  · refine Or.inr ?_
    have P := h3 (by omega)
    have pre := ok v (Nat.le_refl v)
    have em : (wT n kd yy (w0 z t) v).2.1 = mn kd yy v := by rw [wT_m v pre]; exact Nat.zero_add _
    unfold wG wD
    rcases P with (⟨k0, c⟩ | ⟨k0, c⟩) | ⟨g, hg, k0, ey, c⟩
    · rw [if_pos k0, em]
      rw [mn, if_pos k0] at c
      rw [if_neg (by omega)]
    · rw [if_neg k0, if_neg (fun c2 => by omega)]
    · have eg : ((wT n kd yy (w0 z t) v).1 g) = (hT g kd yy (h0 (z g) (t g)) v).1 := by
        have := congrArg Prod.fst (pj_T (kd := kd) (yy := yy) (w := w0 z t) hg v pre)
        rw [pj_0] at this
        exact this
      rw [if_neg k0, if_neg (fun c2 => by rw [ey, eg, c] at c2; cases c2.2)]
/-- at which minutes glass g runs out, v deeds being done, with all minutes behind them -/
def RO (g : Nat) (kd yy : Nat → Nat) (z t v x : Nat) : Bool := (hI (hT g kd yy (h0 z t) v) (99 - mn kd yy v)).2.2 x
/-- the day played out -/
def wF (n : Nat) (kd yy : Nat → Nat) (z t : Nat → Nat) (v : Nat) : wS := wI n (wT n kd yy (w0 z t) v) (99 - (wT n kd yy (w0 z t) v).2.1)
theorem RO_wF {n g m v x : Nat} {kd yy z t : Nat → Nat} (hg : g < n) (h : isF (stP n kd yy z t) m v) : ((wF n kd yy z t v).2.2.2.2.2.2.2 x).testBit g = RO g kd yy (z g) (t g) v x := by
  have E := stop_E h
  have em : (wT n kd yy (w0 z t) v).2.1 = mn kd yy v := by rw [wT_m v E.2.1]; exact Nat.zero_add _
  have e := congrArg (fun S : hS => S.2.2 x) (pj_I (n := n) (w := wT n kd yy (w0 z t) v) hg (99 - mn kd yy v))
  rw [pj_T hg v E.2.1, pj_0] at e
  unfold wF RO
  rw [em]
  exact e
