/-! the day: one glass (size, top, laid, how often it ran out) -/
abbrev gS : Type := Nat × Nat × Bool × Nat
def gR (G : gS) : Bool := !G.2.2.1 && decide (0 < G.2.1)
def gO (G : gS) : Bool := !G.2.2.1 && decide (G.2.1 = 1)
def gP (G : gS) : gS := if gR G = true then (G.1, G.2.1 - 1, G.2.2.1, if G.2.1 = 1 then G.2.2.2 + 1 else G.2.2.2) else G
def gM (k : Nat) (G : gS) : Bool := if k = 1 ∨ k = 2 then !G.2.2.1 else if k = 3 then G.2.2.1 else if k = 4 then decide (G.2.1 < G.1 ∧ 1 < G.1) else false
def gA (k : Nat) (G : gS) : gS := if k = 1 then (G.1, G.1 - G.2.1, G.2.2.1, G.2.2.2) else if k = 2 then (G.1, G.2.1, true, G.2.2.2) else if k = 3 then (G.1, G.2.1, false, G.2.2.2) else if k = 4 then (G.1 - 1, G.2.1, G.2.2.1, G.2.2.2) else G
/-- what stays so: sizes 1 .. 7, tops at most the size, run out at most r times -/
def gK (r : Nat) (G : gS) : Prop := 1 ≤ G.1 ∧ G.1 ≤ 7 ∧ G.2.1 ≤ G.1 ∧ G.2.2.2 ≤ r
theorem gP_K {r : Nat} {G : gS} (h : gK r G) : gK (r + 1) (gP G) := by
  obtain ⟨a, b, c, d⟩ := h
  unfold gP
  by_cases hr : gR G = true
  · rw [if_pos hr]
    refine ⟨a, b, by simp only; omega, ?_⟩
    simp only
    split <;> omega
  · rw [if_neg hr]
    exact ⟨a, b, c, by omega⟩
theorem gA_K {r k : Nat} {G : gS} (h : gK r G) (hm : gM k G = true) : gK r (gA k G) := by
  obtain ⟨a, b, c, d⟩ := h
  unfold gA
  unfold gM at hm
  by_cases h1 : k = 1
  · rw [if_pos h1]; exact ⟨a, b, by simp only; omega, d⟩
  rw [if_neg h1]
  by_cases h2 : k = 2
  · rw [if_pos h2]; exact ⟨a, b, c, d⟩
  rw [if_neg h2]
  by_cases h3 : k = 3
  · rw [if_pos h3]; exact ⟨a, b, c, d⟩
  rw [if_neg h3]
  by_cases h4 : k = 4
  · rw [if_pos h4]
    rw [if_neg (by omega), if_neg h3, if_pos h4, decide_eq_true_eq] at hm
    exact ⟨by simp only; omega, by simp only; omega, by simp only; omega, d⟩
  · rw [if_neg h4]; exact ⟨a, b, c, d⟩
/-- bits, and how many, of those below n of which p is so -/
def bsm (p : Nat → Bool) : Nat → Nat
  | 0 => 0
  | k + 1 => bsm p k + (if p k = true then 2 ^ k else 0)
def csm (p : Nat → Bool) : Nat → Nat
  | 0 => 0
  | k + 1 => csm p k + (if p k = true then 1 else 0)
theorem bsm_lt (p : Nat → Bool) : ∀ k, bsm p k < 2 ^ k
  | 0 => by simp [bsm]
  | k + 1 => by
    have := bsm_lt p k
    simp only [bsm]
    rw [Nat.pow_succ]
    split <;> omega
theorem csm_le (p : Nat → Bool) : ∀ k, csm p k ≤ k
  | 0 => Nat.le_refl 0
  | k + 1 => by
    have := csm_le p k
    simp only [csm]
    split <;> omega
theorem bsm_bit (p : Nat → Bool) : ∀ n i, (bsm p n).testBit i = (decide (i < n) && p i)
  | 0, i => by simp [bsm]
  | k + 1, i => by
    have ih := bsm_bit p k
    have hl := bsm_lt p k
    simp only [bsm]
    cases hp : p k
    · rw [if_neg (by decide), Nat.add_zero, ih i]
      by_cases h1 : i < k
      · rw [decide_eq_true h1, decide_eq_true (show i < k + 1 by omega)]
      · by_cases h2 : i = k
        · rw [h2, hp]; simp
        · rw [decide_eq_false h1, decide_eq_false (show ¬ i < k + 1 by omega)]
    · rw [if_pos rfl, Nat.add_comm, ← Nat.mul_one (2 ^ k), Nat.two_pow_add_eq_or_of_lt hl, Nat.mul_one, Nat.testBit_or, Nat.testBit_two_pow, ih i]
      by_cases h2 : k = i
      · subst h2; simp [hp]
      · rw [decide_eq_false h2, Bool.false_or]
        by_cases h1 : i < k
        · rw [decide_eq_true h1, decide_eq_true (show i < k + 1 by omega)]
        · rw [decide_eq_false h1, decide_eq_false (show ¬ i < k + 1 by omega)]
theorem bsm_congr {p q : Nat → Bool} : ∀ n, (∀ i, i < n → p i = q i) → bsm p n = bsm q n
  | 0, _ => rfl
  | k + 1, h => by
    simp only [bsm]
    rw [bsm_congr k (fun i hi => h i (by omega)), h k (by omega)]
theorem csm_congr {p q : Nat → Bool} : ∀ n, (∀ i, i < n → p i = q i) → csm p n = csm q n
  | 0, _ => rfl
  | k + 1, h => by
    simp only [csm]
    rw [csm_congr k (fun i hi => h i (by omega)), h k (by omega)]
theorem bsm_eq {p : Nat → Bool} {n B : Nat} (h : ∀ i, B.testBit i = (decide (i < n) && p i)) : B = bsm p n := Nat.eq_of_testBit_eq (fun i => by rw [h i, bsm_bit])
theorem csm_zero {p : Nat → Bool} : ∀ n, csm p n = 0 ↔ ∀ i, i < n → p i = false
  | 0 => ⟨fun _ i h => absurd h (Nat.not_lt_zero i), fun _ => rfl⟩
  | k + 1 => by
    have ih := csm_zero (p := p) k
    simp only [csm]
    constructor
    · intro h i hi
      have h1 : csm p k = 0 := by omega
      rcases Nat.lt_or_ge i k with h9 | h9
      · exact ih.mp h1 i h9
      · rw [show i = k by omega]
        cases e : p k
        · rfl
        · rw [e, if_pos rfl] at h; omega
    · intro h
      rw [ih.mpr (fun i hi => h i (by omega)), h k (by omega), if_neg (by decide)]
/-- all: glasses, minute, how often any ran out, turns, the first minute of it (0: none), the most at once, minutes in which nothing runs, who ran out by minutes -/
abbrev wS : Type := (Nat → gS) × Nat × Nat × Nat × Nat × Nat × Nat × (Nat → Nat)
def wo (w : wS) (n : Nat) : Nat := csm (fun g => gO (w.1 g)) n
def wr (w : wS) (n : Nat) : Nat := csm (fun g => gR (w.1 g)) n
def wm (w : wS) (n : Nat) : Nat := bsm (fun g => gO (w.1 g)) n
def wl (w : wS) (n : Nat) : Nat := bsm (fun g => (w.1 g).2.2.1) n
def wP (n : Nat) (w : wS) : wS := (fun g => if g < n then gP (w.1 g) else w.1 g, w.2.1 + 1, w.2.2.1 + wo w n, w.2.2.2.1, if w.2.2.2.2.1 = 0 ∧ 0 < wo w n then w.2.1 + 1 else w.2.2.2.2.1, max w.2.2.2.2.2.1 (wo w n), w.2.2.2.2.2.2.1 + (if wr w n = 0 then 1 else 0), fun t => if t = w.2.1 + 1 then wm w n else w.2.2.2.2.2.2.2 t)
def wI (n : Nat) (w : wS) : Nat → wS
  | 0 => w
  | j + 1 => wP n (wI n w j)
def wA (k y : Nat) (w : wS) : wS := (fun g => if g = y then gA k (w.1 y) else w.1 g, w.2.1, w.2.2.1, (if k = 1 then w.2.2.2.1 + 1 else w.2.2.2.1), w.2.2.2.2)
/-- deed k with the number y: can it be, and what is then -/
def wD (n k y : Nat) (w : wS) : Bool × wS := if k = 0 then (if w.2.1 + y ≤ 99 then (true, wI n w y) else (false, w)) else if y < n ∧ gM k (w.1 y) = true then (true, wA k y w) else (false, w)
/-- what stays so, d deeds being done -/
def wK (n d : Nat) (w : wS) : Prop := n ≤ 4 ∧ (∀ g, g < n → gK w.2.1 (w.1 g)) ∧ w.2.1 ≤ 99 ∧ w.2.2.1 ≤ 4 * w.2.1 ∧ w.2.2.2.1 ≤ d ∧ w.2.2.2.2.1 ≤ w.2.1 ∧ w.2.2.2.2.2.1 ≤ 4 ∧ w.2.2.2.2.2.2.1 ≤ w.2.1 ∧ (∀ t, w.2.1 < t → w.2.2.2.2.2.2.2 t = 0) ∧ ∀ t, w.2.2.2.2.2.2.2 t < 16
theorem wP_K {n d : Nat} {w : wS} (h : wK n d w) (hm : w.2.1 < 99) : wK n d (wP n w) := by
  obtain ⟨a0, a1, a2, a3, a4, a5, a6, a7, a8, a9⟩ := h
  have hc := csm_le (fun g => gO (w.1 g)) n
  have hb := bsm_lt (fun g => gO (w.1 g)) n
  have hp := pow_n a0
  unfold wP wo wr wm
  refine ⟨a0, fun g hg => ?_, ?_, ?_, a4, ?_, ?_, ?_, fun t ht => ?_, fun t => ?_⟩
  · simp only [if_pos hg]; exact gP_K (a1 g hg)
  · simp only; omega
  · simp only; omega
  · simp only; split <;> omega
  · simp only; omega
  · simp only; split <;> omega
  · simp only at ht ⊢
    rw [if_neg (by omega)]; exact a8 t (by omega)
  · simp only
    split
    · omega
    · exact a9 t
theorem wI_m {n : Nat} {w : wS} : ∀ j, (wI n w j).2.1 = w.2.1 + j
  | 0 => rfl
  | j + 1 => by
    have := wI_m (n := n) (w := w) j
    show (wI n w j).2.1 + 1 = _
    omega
theorem wI_K {n d : Nat} {w : wS} (h : wK n d w) : ∀ j, w.2.1 + j ≤ 99 → wK n d (wI n w j)
  | 0, _ => h
  | j + 1, hj => wP_K (wI_K h j (by omega)) (by rw [wI_m]; omega)
theorem wK.mono {n d d' : Nat} {w : wS} (h : wK n d w) (hd : d ≤ d') : wK n d' w := by
  obtain ⟨a0, a1, a2, a3, a4, a5⟩ := h
  exact ⟨a0, a1, a2, a3, by omega, a5⟩
theorem wD_K {n d k y : Nat} {w : wS} (h : wK n d w) : wK n (d + 1) (wD n k y w).2 := by
  unfold wD
  by_cases hk : k = 0
  · rw [if_pos hk]
    by_cases hy : w.2.1 + y ≤ 99
    · rw [if_pos hy]; exact (wI_K h y hy).mono (by omega)
    · rw [if_neg hy]; exact h.mono (by omega)
  · rw [if_neg hk]
    by_cases hy : y < n ∧ gM k (w.1 y) = true
    · rw [if_pos hy]
      obtain ⟨a0, a1, a2, a3, a4, a5, a6, a7, a8, a9⟩ := h
      refine ⟨a0, fun g hg => ?_, a2, a3, ?_, a5, a6, a7, a8, a9⟩
      · show gK w.2.1 (if g = y then gA k (w.1 y) else w.1 g)
        by_cases e : g = y
        · rw [if_pos e]; exact gA_K (a1 y hy.1) hy.2
        · rw [if_neg e]; exact a1 g hg
      · show (if k = 1 then w.2.2.2.1 + 1 else w.2.2.2.1) ≤ d + 1
        split <;> omega
    · rw [if_neg hy]; exact h.mono (by omega)
theorem wD_no {n k y : Nat} {w : wS} (h : (wD n k y w).1 = false) : (wD n k y w).2 = w := by
  unfold wD at h ⊢
  by_cases hk : k = 0
  · rw [if_pos hk] at h ⊢
    by_cases hy : w.2.1 + y ≤ 99
    · rw [if_pos hy] at h; cases h
    · rw [if_neg hy]
  · rw [if_neg hk] at h ⊢
    by_cases hy : y < n ∧ gM k (w.1 y) = true
    · rw [if_pos hy] at h; cases h
    · rw [if_neg hy]
/-- the first k deeds (a deed that can't be changes nothing) -/
def wT (n : Nat) (kd yy : Nat → Nat) (w : wS) : Nat → wS
  | 0 => w
  | k + 1 => (wD n (kd k) (yy k) (wT n kd yy w k)).2
/-- deed k can be -/
def wG (n : Nat) (kd yy : Nat → Nat) (w : wS) (k : Nat) : Bool := (wD n (kd k) (yy k) (wT n kd yy w k)).1
theorem wT_K {n d : Nat} {kd yy : Nat → Nat} {w : wS} (h : wK n d w) : ∀ k, wK n (d + k) (wT n kd yy w k)
  | 0 => h
  | k + 1 => wD_K (wT_K h k)
/-- k deeds of m are done: the first that can't be is deed k -/
def wE (n : Nat) (kd yy : Nat → Nat) (w : wS) (m k : Nat) : Prop := k ≤ m ∧ (∀ i, i < k → wG n kd yy w i = true) ∧ (k = m ∨ wG n kd yy w k = false)
theorem wE_one {n m k k' : Nat} {kd yy : Nat → Nat} {w : wS} (h : wE n kd yy w m k) (h' : wE n kd yy w m k') : k = k' := by
  obtain ⟨a, b, c⟩ := h
  obtain ⟨a', b', c'⟩ := h'
  rcases Nat.lt_trichotomy k k' with q | q | q
  · rcases c with c | c
    · omega
    · have := b' k q; rw [c] at this; cases this
  · exact q
  · rcases c' with c' | c'
    · omega
    · have := b k' q; rw [c'] at this; cases this
/-- the morning: sizes z, tops t -/
def w0 (z t : Nat → Nat) : wS := (fun g => (z g, t g, false, 0), 0, 0, 0, 0, 0, 0, fun _ => 0)
theorem w0_K {n : Nat} {z t : Nat → Nat} (S : SH n z t) : wK n 0 (w0 z t) := ⟨S.1, fun g hg => ⟨(S.2.1 g hg).1, (S.2.1 g hg).2.1, (S.2.1 g hg).2.2, Nat.le_refl 0⟩, Nat.zero_le 99, Nat.le_refl _, Nat.le_refl _, Nat.le_refl _, Nat.zero_le _, Nat.le_refl _, fun _ _ => rfl, fun _ => (by decide : 0 < 16)⟩
def frI (v : Nat) : Int32 := if v = 0 then nM else nI v
/-! the class: a glass -/
def GL (h : xg_H) (nm : Nat → Nat) (c : Nat) (G : gS) : Prop := xg_i h (nm c) 0 = nI G.1 ∧ xg_i h (nm c) 1 = nI G.2.1 ∧ xg_i h (nm c) 2 = lt32 G.2.2.1 ∧ xg_i h (nm c) 3 = nI G.2.2.2
theorem GL.mv {h h2 : xg_H} {nm : Nat → Nat} {c : Nat} {G : gS} {L : List Nat} (a : GL h nm c G) (e : xd nm L h h2) (hc : c ∉ L) : GL h2 nm c G := ⟨(e.i c hc 0).trans a.1, (e.i c hc 1).trans a.2.1, (e.i c hc 2).trans a.2.2.1, (e.i c hc 3).trans a.2.2.2⟩
theorem sp_X5_put {Y : xg_Y} {Q : xg_H → Prop} {h : xg_H} {nm : Nat → Nat} {c z t : Nat} (hn : inj nm) (k : xg_is Y (nm c) 5) (q : ∀ h', xd nm [c] h h' → GL h' nm c (z, t, false, 0) → Q h') : wp_X5_put Y Q (nm c) (nI z) (nI t) h := by
  unfold wp_X5_put
  refine ⟨k, ?_⟩
  rintro _ rfl _ rfl _ rfl _ rfl
  refine q _ (xd.ui hn (xd.ui hn (xd.ui hn (xd.ui hn xd.rf (by simp)) (by simp)) (by simp)) (by simp)) ⟨?_, ?_, ?_, ?_⟩
  · rw [xu_p hn (by decide), xu_p hn (by decide), xu_p hn (by decide), xi_same]
  · rw [xu_p hn (by decide), xu_p hn (by decide), xi_same]
  · rw [xu_p hn (by decide), xi_same]; rfl
  · rw [xi_same]; rfl
theorem sp_X5_runs {Y : xg_Y} {Q : Int32 → xg_H → Prop} {h : xg_H} {nm : Nat → Nat} {c r : Nat} {G : gS} (k : xg_is Y (nm c) 5) (a : GL h nm c G) (hK : gK r G) (q : Q (lt32 (gR G)) h) : wp_X5_runs Y Q (nm c) h := by
  obtain ⟨b1, b2, b3, b4⟩ := hK
  unfold wp_X5_runs
  unfold gR at q
  refine ⟨k, ?_⟩
  rw [a.2.2.1, a.2.1]
  cases hl : G.2.2.1
  · rw [hl] at q
    refine bq_nf rfl ?_
    by_cases h0 : 0 < G.2.1
    · rw [decide_eq_true h0] at q
      exact bq_f (nI_ge (a := 0) h0 (by omega)) q
    · rw [decide_eq_false h0] at q
      exact bq_t (by rw [show G.2.1 = 0 by omega]; decide) q
  · rw [hl] at q
    exact bq_nt (by decide) q
theorem sp_X5_passMinute {Y : xg_Y} {Q : Int32 → xg_H → Prop} {h : xg_H} {nm : Nat → Nat} {c r : Nat} {G : gS} (hn : inj nm) (k : xg_is Y (nm c) 5) (a : GL h nm c G) (hK : gK r G) (q : ∀ h', xd nm [c] h h' → GL h' nm c (gP G) → Q (lt32 (gO G)) h') : wp_X5_passMinute Y Q (nm c) h := by
  obtain ⟨b1, b2, b3, b4⟩ := hK
  unfold wp_X5_passMinute
  refine ⟨k, ?_⟩
  have stay : gR G = false → gO G = false → Q 0 h := by
    intro h1 h2
    have := q h xd.rf (by unfold gP; rw [if_neg (by rw [h1]; decide)]; exact a)
    rw [h2] at this
    exact this
  rw [a.2.2.1, a.2.1]
  cases hl : G.2.2.1
  · refine bq_nf rfl ?_
    by_cases h0 : G.2.1 = 0
    · exact bq_nf (by rw [h0]; rfl) (stay (by unfold gR; rw [h0]; simp) (by unfold gO; rw [h0]; simp))
    · have hR : gR G = true := by unfold gR; rw [hl, decide_eq_true (by omega)]; rfl
      refine bq_nt (fun e => h0 ((nI_eq (b := 0) (by omega) (by decide)).mp e)) ?_
      rintro _ rfl
      rw [xi_same, nl_1, pk_sub (by omega), xu_p hn (by decide), a.2.2.2, nI_add]
      by_cases h1 : G.2.1 = 1
      · refine bq_t (by rw [h1]; decide) ?_
        rintro _ rfl
        have := q (xg_ui (xg_ui h (nm c) 1 (nI (G.2.1 - 1))) (nm c) 3 (nI (G.2.2.2 + 1))) (xd.ui hn (xd.ui hn xd.rf (by simp)) (by simp)) (by
          unfold gP
          rw [if_pos hR, if_pos h1]
          refine ⟨?_, ?_, ?_, xi_same⟩
          · rw [xu_p hn (by decide), xu_p hn (by decide)]; exact a.1
          · rw [xu_p hn (by decide), xi_same]
          · rw [xu_p hn (by decide), xu_p hn (by decide)]; exact a.2.2.1)
        rw [show gO G = true by unfold gO; rw [hl, h1]; rfl] at this
        exact this
      · refine bq_f (nI_ge (a := 0) (by omega) (by omega)) ?_
        have := q (xg_ui h (nm c) 1 (nI (G.2.1 - 1))) (xd.ui hn xd.rf (by simp)) (by
          unfold gP
          rw [if_pos hR, if_neg h1]
          refine ⟨?_, xi_same, ?_, ?_⟩
          · rw [xu_p hn (by decide)]; exact a.1
          · rw [xu_p hn (by decide)]; exact a.2.2.1
          · rw [xu_p hn (by decide)]; exact a.2.2.2)
        rw [show gO G = false by unfold gO; rw [hl, decide_eq_false h1]; rfl] at this
        exact this
  · exact bq_nt (by decide) (stay (by unfold gR; rw [hl]; rfl) (by unfold gO; rw [hl]; rfl))
theorem sp_X5_may {Y : xg_Y} {Q : Int32 → xg_H → Prop} {h : xg_H} {nm : Nat → Nat} {c r kd : Nat} {G : gS} (k : xg_is Y (nm c) 5) (a : GL h nm c G) (hK : gK r G) (hkd : kd ≤ 4) (q : Q (lt32 (gM kd G)) h) : wp_X5_may Y Q (nm c) (nI kd) h := by
  obtain ⟨b1, b2, b3, b4⟩ := hK
  unfold wp_X5_may
  refine ⟨k, fun R32 c32 => ?_⟩
  have e1 : nI kd = 1 ↔ kd = 1 := nI_eq (b := 1) (by omega) (by decide)
  have e2 : nI kd = 2 ↔ kd = 2 := nI_eq (b := 2) (by omega) (by decide)
  have e3 : nI kd = 3 ↔ kd = 3 := nI_eq (b := 3) (by omega) (by decide)
  have e4 : nI kd = 4 ↔ kd = 4 := nI_eq (b := 4) (by omega) (by decide)
  have l12 : kd = 1 ∨ kd = 2 → R32 h := by
    intro hk
    unfold gM at q
    rw [if_pos hk] at q
    refine c32 _ ?_
    rw [a.2.2.1]
    cases hl : G.2.2.1
    · rw [hl] at q; exact bq_nf rfl q
    · rw [hl] at q; exact bq_nt (by decide) q
  refine ⟨fun c => l12 (Or.inl (e1.mp c)), fun c => l12 (Or.inr (e2.mp c)), fun c => ?_, fun c => ?_, fun c1 c2 c3 c4 => ?_⟩
  · have c := e3.mp c
    unfold gM at q
    rw [if_neg (by omega), if_pos c] at q
    rw [a.2.2.1]
    refine ⟨?_, q⟩
    cases G.2.2.1
    · exact Or.inl rfl
    · exact Or.inr rfl
  · have c := e4.mp c
    unfold gM at q
    rw [if_neg (by omega), if_neg (by omega), if_pos c] at q
    rw [a.1, a.2.1]
    by_cases h1 : G.1 ≤ G.2.1
    · rw [decide_eq_false (by omega)] at q
      exact bq_t (nI_le h1 (by omega)) q
    · refine bq_f (nI_ge (by omega) (by omega)) ?_
      by_cases h2 : G.1 ≤ 1
      · rw [decide_eq_false (by omega)] at q
        exact bq_t (nI_le (b := 1) h2 (by decide)) q
      · rw [decide_eq_true (by omega)] at q
        exact bq_f (nI_ge (a := 1) (by omega) (by omega)) q
  · have h0 : ¬ kd = 1 := fun h => c1 (e1.mpr h)
    have h1 : ¬ kd = 2 := fun h => c2 (e2.mpr h)
    have h2 : ¬ kd = 3 := fun h => c3 (e3.mpr h)
    have h3 : ¬ kd = 4 := fun h => c4 (e4.mpr h)
    unfold gM at q
    rw [if_neg (by omega), if_neg h2, if_neg h3] at q
    exact q
theorem sp_X5_act {Y : xg_Y} {Q : xg_H → Prop} {h : xg_H} {nm : Nat → Nat} {c r kd : Nat} {G : gS} (hn : inj nm) (k : xg_is Y (nm c) 5) (a : GL h nm c G) (hK : gK r G) (hkd : kd ≤ 4) (q : ∀ h', xd nm [c] h h' → GL h' nm c (gA kd G) → Q h') : wp_X5_act Y Q (nm c) (nI kd) h := by
  obtain ⟨b1, b2, b3, b4⟩ := hK
  unfold wp_X5_act
  refine ⟨k, ?_⟩
  have e1 : nI kd = 1 ↔ kd = 1 := nI_eq (b := 1) (by omega) (by decide)
  have e2 : nI kd = 2 ↔ kd = 2 := nI_eq (b := 2) (by omega) (by decide)
  have e3 : nI kd = 3 ↔ kd = 3 := nI_eq (b := 3) (by omega) (by decide)
  have e4 : nI kd = 4 ↔ kd = 4 := nI_eq (b := 4) (by omega) (by decide)
  unfold gA at q
  refine ⟨fun c => ?_, fun c => ?_, fun c => ?_, fun c => ?_, fun c1 c2 c3 c4 => ?_⟩
  · have c := e1.mp c
    rw [if_pos c] at q
    rintro _ rfl
    rw [a.1, a.2.1, pk_sub b3]
    refine q _ (xd.ui hn xd.rf (by simp)) ⟨?_, xi_same, ?_, ?_⟩
    · rw [xu_p hn (by decide)]; exact a.1
    · rw [xu_p hn (by decide)]; exact a.2.2.1
    · rw [xu_p hn (by decide)]; exact a.2.2.2
  · have c := e2.mp c
    rw [if_neg (by omega), if_pos c] at q
    rintro _ rfl
    refine q _ (xd.ui hn xd.rf (by simp)) ⟨?_, ?_, xi_same, ?_⟩
    · rw [xu_p hn (by decide)]; exact a.1
    · rw [xu_p hn (by decide)]; exact a.2.1
    · rw [xu_p hn (by decide)]; exact a.2.2.2
  · have c := e3.mp c
    rw [if_neg (by omega), if_neg (by omega), if_pos c] at q
    rintro _ rfl
    refine q _ (xd.ui hn xd.rf (by simp)) ⟨?_, ?_, xi_same, ?_⟩
    · rw [xu_p hn (by decide)]; exact a.1
    · rw [xu_p hn (by decide)]; exact a.2.1
    · rw [xu_p hn (by decide)]; exact a.2.2.2
  · have c := e4.mp c
    rw [if_neg (by omega), if_neg (by omega), if_neg (by omega), if_pos c] at q
    rintro _ rfl
    rw [a.1, nl_1, pk_sub b1]
    refine q _ (xd.ui hn xd.rf (by simp)) ⟨xi_same, ?_, ?_, ?_⟩
    · rw [xu_p hn (by decide)]; exact a.2.1
    · rw [xu_p hn (by decide)]; exact a.2.2.1
    · rw [xu_p hn (by decide)]; exact a.2.2.2
  · rw [if_neg (fun h => c1 (e1.mpr h)), if_neg (fun h => c2 (e2.mpr h)), if_neg (fun h => c3 (e3.mpr h)), if_neg (fun h => c4 (e4.mpr h))] at q
    exact q h xd.rf a
