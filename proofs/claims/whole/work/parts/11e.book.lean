/-! Book: its cells, what it knows of a shelf -/
def LB (Y : xg_Y) (h : xg_H) (nm : Nat → Nat) (B N N2 : Nat) : Prop := xg_is Y (nm B) 1 ∧ (xg_o h (nm B) 0 = some (nm (B + 20)) ∧ LW Y h nm (B + 20) N) ∧ (xg_o h (nm B) 1 = some (nm (B + 30)) ∧ LW Y h nm (B + 30) N2) ∧ (xg_o h (nm B) 2 = some (nm (B + 40)) ∧ LC Y h nm (B + 40) (B + 20) N) ∧ (xg_o h (nm B) 3 = some (nm (B + 4)) ∧ xk Y nm (B + 4) 22 31) ∧ (xg_o h (nm B) 4 = some (nm (B + 5)) ∧ xk Y nm (B + 5) 22 31) ∧ (xg_o h (nm B) 5 = some (nm (B + 6)) ∧ xk Y nm (B + 6) 22 31) ∧ (xg_o h (nm B) 6 = some (nm (B + 7)) ∧ xk Y nm (B + 7) 22 16) ∧ (xg_o h (nm B) 7 = some (nm (B + 8)) ∧ xk Y nm (B + 8) 23 (11 * N)) ∧ (xg_o h (nm B) 8 = some (nm (B + 9)) ∧ xk Y nm (B + 9) 22 30) ∧ (xg_o h (nm B) 9 = some (nm (B + 10)) ∧ xk Y nm (B + 10) 22 30) ∧ 500 ≤ B
/-- in the book at B the places P of the object and the cells B + L may have changed; of all else K alone; no reference -/
def xe (nm : Nat → Nat) (B : Nat) (P L K : List Nat) (h h2 : xg_H) : Prop := (∀ j, j ∉ P → xg_i h2 (nm B) j = xg_i h (nm B) j) ∧ (∀ o, o ∉ L → o ≠ 0 → o < 100 → ∀ j, xg_i h2 (nm (B + o)) j = xg_i h (nm (B + o)) j ∧ xg_l h2 (nm (B + o)) j = xg_l h (nm (B + o)) j) ∧ (∀ c, (c < B ∨ B + 100 ≤ c) → c ∉ K → ∀ j, xg_i h2 (nm c) j = xg_i h (nm c) j ∧ xg_l h2 (nm c) j = xg_l h (nm c) j) ∧ ∀ c j, xg_o h2 (nm c) j = xg_o h (nm c) j
theorem xe.rf {nm : Nat → Nat} {B : Nat} {P L K : List Nat} {h : xg_H} : xe nm B P L K h h := ⟨fun _ _ => rfl, fun _ _ _ _ _ => ⟨rfl, rfl⟩, fun _ _ _ _ => ⟨rfl, rfl⟩, fun _ _ => rfl⟩
theorem xe.tr {nm : Nat → Nat} {B : Nat} {P L K : List Nat} {h h2 h3 : xg_H} (a : xe nm B P L K h h2) (b : xe nm B P L K h2 h3) : xe nm B P L K h h3 :=
  ⟨fun j hj => (b.1 j hj).trans (a.1 j hj), fun o h1 h2 h3 j => ⟨(b.2.1 o h1 h2 h3 j).1.trans (a.2.1 o h1 h2 h3 j).1, (b.2.1 o h1 h2 h3 j).2.trans (a.2.1 o h1 h2 h3 j).2⟩, fun c h1 h2 j => ⟨(b.2.2.1 c h1 h2 j).1.trans (a.2.2.1 c h1 h2 j).1, (b.2.2.1 c h1 h2 j).2.trans (a.2.2.1 c h1 h2 j).2⟩, fun c j => (b.2.2.2 c j).trans (a.2.2.2 c j)⟩
theorem xe.mono {nm : Nat → Nat} {B : Nat} {P L K P' L' K' : List Nat} {h h2 : xg_H} (a : xe nm B P L K h h2) (hP : ∀ c ∈ P, c ∈ P') (hL : ∀ c ∈ L, c ∈ L') (hK : ∀ c ∈ K, c ∈ K') : xe nm B P' L' K' h h2 := ⟨fun j hj => a.1 j (fun q => hj (hP j q)), fun o h1 h2 h3 => a.2.1 o (fun q => h1 (hL o q)) h2 h3, fun c h1 h2 => a.2.2.1 c h1 (fun q => h2 (hK c q)), a.2.2.2⟩
theorem xe.u0 {nm : Nat → Nat} (hn : inj nm) {B : Nat} {P L K : List Nat} {h h2 : xg_H} {j : Nat} {v : Int32} (a : xe nm B P L K h h2) (hj : j ∈ P) : xe nm B P L K h (xg_ui h2 (nm B) j v) :=
  ⟨fun k hk => (xu_p (k := k) (j := j) hn (fun e => hk (by rw [e]; exact hj))).trans (a.1 k hk), fun o h1 h2 h3 j => ⟨(xu_c hn (by omega)).trans (a.2.1 o h1 h2 h3 j).1, (a.2.1 o h1 h2 h3 j).2⟩, fun c h1 h2 j => ⟨(xu_c hn (by omega)).trans (a.2.2.1 c h1 h2 j).1, (a.2.2.1 c h1 h2 j).2⟩, a.2.2.2⟩
theorem xe.ui {nm : Nat → Nat} (hn : inj nm) {B o : Nat} {P L K : List Nat} {h h2 : xg_H} {j : Nat} {v : Int32} (a : xe nm B P L K h h2) (ho : o ∈ L) (h0 : 0 < o) (h1 : o < 100) : xe nm B P L K h (xg_ui h2 (nm (B + o)) j v) :=
  ⟨fun k hk => (xu_c hn (by omega)).trans (a.1 k hk), fun o' g1 g2 g3 j => ⟨(xu_c hn (fun e => g1 (by rw [show o' = o by omega]; exact ho))).trans (a.2.1 o' g1 g2 g3 j).1, (a.2.1 o' g1 g2 g3 j).2⟩, fun c g1 g2 j => ⟨(xu_c hn (by omega)).trans (a.2.2.1 c g1 g2 j).1, (a.2.2.1 c g1 g2 j).2⟩, a.2.2.2⟩
theorem xe.ul {nm : Nat → Nat} (hn : inj nm) {B o : Nat} {P L K : List Nat} {h h2 : xg_H} {j : Nat} {v : Int64} (a : xe nm B P L K h h2) (ho : o ∈ L) (h0 : 0 < o) (h1 : o < 100) : xe nm B P L K h (xg_ul h2 (nm (B + o)) j v) :=
  ⟨fun k hk => a.1 k hk, fun o' g1 g2 g3 j => ⟨(a.2.1 o' g1 g2 g3 j).1, (by rw [xv hn, if_neg (fun q => g1 (by rw [show o' = o by omega]; exact ho))]; exact (a.2.1 o' g1 g2 g3 j).2)⟩, fun c g1 g2 j => ⟨(a.2.2.1 c g1 g2 j).1, (by rw [xv hn, if_neg (by omega)]; exact (a.2.2.1 c g1 g2 j).2)⟩, a.2.2.2⟩
/-- a change of one cell of the book -/
theorem xe.of {nm : Nat → Nat} {B o : Nat} {h h2 : xg_H} (a : xd nm [B + o] h h2) (h0 : 0 < o) (h1 : o < 100) : xe nm B [] [o] [] h h2 :=
  ⟨fun j _ => a.i B (by simp; omega) j, fun o' g1 g2 g3 j => a.1 (B + o') (by simp at g1 ⊢; omega) j, fun c g1 _ j => a.1 c (by simp; omega) j, a.2⟩
theorem LB.mv {Y : xg_Y} {h h2 : xg_H} {nm : Nat → Nat} {B N N2 : Nat} {P L K : List Nat} (a : LB Y h nm B N N2) (e : xe nm B P L K h h2) (hc : 40 ∉ L) : LB Y h2 nm B N N2 := by
  have E : ∀ c j, xg_o h2 (nm c) j = xg_o h (nm c) j := e.2.2.2
  obtain ⟨a1, ⟨a2, a3⟩, ⟨a4, a5⟩, ⟨a6, a7⟩, ⟨a8, a9⟩, ⟨b1, b2⟩, ⟨b3, b4⟩, ⟨b5, b6⟩, ⟨b7, b8⟩, ⟨b9, d1⟩, ⟨d2, d3⟩, d4⟩ := a
  have lw : ∀ w n, LW Y h nm w n → LW Y h2 nm w n := fun w n a => by
    obtain ⟨a1, ⟨a2, a3⟩, ⟨a4, a5⟩, ⟨a6, a7⟩, ⟨a8, a9⟩, a10, ⟨a11, a12⟩, ⟨a13, a14⟩, a15⟩ := a
    exact ⟨a1, ⟨(E _ _).trans a2, a3⟩, ⟨(E _ _).trans a4, a5⟩, ⟨(E _ _).trans a6, a7⟩, ⟨(E _ _).trans a8, a9⟩, (E _ _).trans a10, ⟨(E _ _).trans a11, a12⟩, ⟨(E _ _).trans a13, a14⟩, a15⟩
  have lc : LC Y h2 nm (B + 40) (B + 20) N := by
    obtain ⟨a1, ⟨a2, a3⟩, ⟨a4, a5⟩, a6, a7, ⟨a8, a9⟩, a10⟩ := a7
    exact ⟨a1, ⟨(E _ _).trans a2, a3⟩, ⟨(E _ _).trans a4, a5⟩, (E _ _).trans a6, ((e.2.1 40 hc (by decide) (by decide) 3).1).trans a7, ⟨(E _ _).trans a8, a9⟩, a10⟩
  exact ⟨a1, ⟨(E _ _).trans a2, lw _ _ a3⟩, ⟨(E _ _).trans a4, lw _ _ a5⟩, ⟨(E _ _).trans a6, lc⟩, ⟨(E _ _).trans a8, a9⟩, ⟨(E _ _).trans b1, b2⟩, ⟨(E _ _).trans b3, b4⟩, ⟨(E _ _).trans b5, b6⟩, ⟨(E _ _).trans b7, b8⟩, ⟨(E _ _).trans b9, d1⟩, ⟨(E _ _).trans d2, d3⟩, d4⟩
/-- the numbers of a shelf -/
def SH (n : Nat) (z t : Nat → Nat) : Prop := n ≤ 4 ∧ (∀ j, j < n → 1 ≤ z j ∧ z j ≤ 7 ∧ t j ≤ z j) ∧ ∀ j, n ≤ j → z j = 0 ∧ t j = 0
theorem SH.le {n : Nat} {z t : Nat → Nat} (S : SH n z t) (j : Nat) : z j ≤ 7 ∧ t j ≤ z j := by
  rcases Nat.lt_or_ge j n with h | h
  · have := S.2.1 j h; omega
  · have := S.2.2 j h; omega
theorem SH.zok {n : Nat} {z t : Nat → Nat} (S : SH n z t) : zok z := fun j _ => (S.le j).1
/-- the code of a row of four -/
def c4 (t : Nat → Nat) : Nat := cd (t 0) (t 1) (t 2) (t 3)
theorem c4_ok {z t : Nat → Nat} (hz : zok z) (ht : ∀ j, j < 4 → t j ≤ z j) : okc z (c4 t) := by
  have h7 : ∀ j, j < 4 → t j ≤ 7 := fun j hj => Nat.le_trans (ht j hj) (hz j hj)
  refine ⟨cd_lt (h7 0 (by decide)) (h7 1 (by decide)) (h7 2 (by decide)) (h7 3 (by decide)), fun g hg => ?_⟩
  rw [show dg (c4 t) g = t g from dg_cd h7 g hg]; exact ht g hg
theorem SH.ok {n : Nat} {z t : Nat → Nat} (S : SH n z t) : okc z (c4 t) := c4_ok S.zok (fun j _ => (S.le j).2)
theorem pow_n {n : Nat} (h : n ≤ 4) : 2 ^ n ≤ 16 := Nat.pow_le_pow_right (n := 2) (by decide) h
theorem SH.m {n : Nat} {z t : Nat → Nat} (S : SH n z t) : 2 ^ n - 1 < 16 := by have := pow_n S.1; omega
/-- only the glasses of a set -/
def zr (s : Nat) (z : Nat → Nat) (j : Nat) : Nat := if s.testBit j then z j else 0
theorem zr_zok {s : Nat} {z : Nat → Nat} (hz : zok z) : zok (zr s z) := fun g hg => by unfold zr; have := hz g hg; split <;> omega
theorem zr_le {s : Nat} {z t : Nat → Nat} (h : ∀ j, t j ≤ z j) (j : Nat) : zr s t j ≤ zr s z j := by unfold zr; have := h j; split <;> omega
theorem full_bit {n j : Nat} : (2 ^ n - 1).testBit j = decide (j < n) := by rw [Nat.testBit_two_pow_sub_one]
theorem zr_full {n : Nat} {z : Nat → Nat} (h : ∀ j, n ≤ j → z j = 0) : zr (2 ^ n - 1) z = z := by
  funext j
  unfold zr
  rw [full_bit]
  rcases Nat.lt_or_ge j n with h9 | h9
  · rw [decide_eq_true h9]; rfl
  · rw [decide_eq_false (by omega), h j h9]; rfl
/-- there is TELL of t by sets that weigh w -/
def TL (z : Nat → Nat) (m c0 : Nat) (wt : Nat → Nat) (t w : Nat) : Prop := ∃ k b, pt z m wt k c0 t b w
theorem TL_rc {z : Nat → Nat} {m c0 : Nat} {wt : Nat → Nat} {t : Nat} : (∃ w, TL z m c0 wt t w) ↔ ∃ b, rc z m c0 t b := by
  constructor
  · rintro ⟨w, k, b, h⟩; exact ⟨b, rc_of h⟩
  · rintro ⟨b, h⟩
    obtain ⟨k, w, h2⟩ := rc_to (wt := wt) h
    exact ⟨w, k, b, h2⟩
/-- how many glasses a set has -/
def on4 (s : Nat) : Nat := sw (fun _ => 1) s 4
theorem on4_le (s : Nat) : on4 s ≤ 4 := sw_le (B := 1) 4 (fun _ _ => Nat.le_refl 1)
def lsN (P : Nat → Prop) (x : Nat) : Prop := P x ∧ ∀ j, P j → x ≤ j
/-- a set that is turned in a row of the fewest -/
def OPT (z : Nat → Nat) (m c T s : Nat) : Prop := sb s m ∧ 0 < dl z c s ∧ dl z c s ≤ T ∧ ∃ x, lsN (TL z m (nc z c s) on4 (T - dl z c s)) x ∧ lsN (TL z m c on4 T) (on4 s + x)
/-- the first row of the fewest turns: L sets rs, at the minutes rm -/
def ROW (z : Nat → Nat) (m c0 T L : Nat) (rs rm : Nat → Nat) : Prop := ∃ cc : Nat → Nat, cc 0 = c0 ∧ rm 0 = 0 ∧ rm L = T ∧ ∀ k, k < L → rm k < T ∧ OPT z m (cc k) (T - rm k) (rs k) ∧ (∀ s, s < rs k → ¬ OPT z m (cc k) (T - rm k) s) ∧ cc (k + 1) = nc z (cc k) (rs k) ∧ rm (k + 1) = rm k + dl z (cc k) (rs k)
theorem ROW_one {z : Nat → Nat} {m c0 T L L' : Nat} {rs rm rs' rm' : Nat → Nat} (a : ROW z m c0 T L rs rm) (b : ROW z m c0 T L' rs' rm') : L = L' ∧ ∀ k, k < L → rs k = rs' k ∧ rm k = rm' k := by
  obtain ⟨cc, a0, a1, a2, a3⟩ := a
  obtain ⟨cc', b0, b1, b2, b3⟩ := b
  have key : ∀ k, k ≤ L → k ≤ L' → cc k = cc' k ∧ rm k = rm' k := by
    intro k
    induction k with
    | zero => exact fun _ _ => ⟨a0.trans b0.symm, a1.trans b1.symm⟩
    | succ k ih =>
      intro h1 h2
      obtain ⟨e1, e2⟩ := ih (by omega) (by omega)
      obtain ⟨_, g2, g3, g4, g5⟩ := a3 k (by omega)
      obtain ⟨_, f2, f3, f4, f5⟩ := b3 k (by omega)
      rw [← e1, ← e2] at f2 f3
      have es : rs k = rs' k := by
        rcases Nat.lt_trichotomy (rs k) (rs' k) with h | h | h
        · exact absurd g2 (f3 _ h)
        · exact h
        · exact absurd f2 (g3 _ h)
      rw [g4, g5, f4, f5, es, ← e1, ← e2]
      exact ⟨rfl, rfl⟩
  have eL : L = L' := by
    rcases Nat.lt_trichotomy L L' with h | h | h
    · have := (b3 L h).1
      rw [← (key L (Nat.le_refl L) (by omega)).2, a2] at this
      omega
    · exact h
    · have := (a3 L' h).1
      rw [(key L' (by omega) (Nat.le_refl L')).2, b2] at this
      omega
  subst eL
  refine ⟨rfl, fun k hk => ?_⟩
  obtain ⟨e1, e2⟩ := key k (by omega) (by omega)
  obtain ⟨_, g2, g3, g4, g5⟩ := a3 k hk
  obtain ⟨_, f2, f3, f4, f5⟩ := b3 k hk
  rw [← e1, ← e2] at f2 f3
  refine ⟨?_, e2⟩
  rcases Nat.lt_trichotomy (rs k) (rs' k) with h | h | h
  · exact absurd g2 (f3 _ h)
  · exact h
  · exact absurd f2 (g3 _ h)
/-- every code that is come to from a row is a row -/
theorem WD.rowF {z : Nat → Nat} {m c0 : Nat} {h : xg_H} {nm : Nat → Nat} {w N r : Nat} {cs : Nat → Nat} (a : WD z m c0 h nm w N r cs) {wt : Nat → Nat} : ∀ {k i t b w'}, i < r → pt z m wt k (cs i) t b w' → ∃ j, j < r ∧ cs j = b
  | 0, i, t, b, w', hi, h => by obtain ⟨_, rfl, _⟩ := h; exact ⟨i, hi, rfl⟩
  | k + 1, i, t, b, w', hi, h => by
    obtain ⟨s, t', w2, g1, g2, _, _, g5⟩ := h
    obtain ⟨j, hj, e, _⟩ := (a.2.2.2.2.2 i s hi (sb_le g1)).1 ⟨g1, g2⟩
    rw [← e] at g5
    exact a.rowF hj g5
theorem BW_TL {z : Nat → Nat} {m c0 : Nat} {h : xg_H} {nm : Nat → Nat} {w N r : Nat} {cs wt : Nat → Nat} (D : WD z m c0 h nm w N r cs) {i t x : Nat} (hi : i < r) : BW z m wt (fun _ => 0) r cs t (cs i) x ↔ TL z m (cs i) wt t x := by
  constructor
  · rintro ⟨k, b', w1, j, h1, h2, h3, h4, h5⟩
    exact ⟨k, b', by rw [h5]; exact h1⟩
  · rintro ⟨k, b, h1⟩
    obtain ⟨j, hj, e⟩ := D.rowF hi h1
    exact ⟨k, b, x, j, h1, hj, e, show 0 < 1000000 by decide, rfl⟩
/-- the digits of the prices -/
def pkey (pr : Nat → Nat) : Nat → Nat
  | 0 => 0
  | k + 1 => pkey pr k * 10 + pr k
/-- begins of spans: an event at minute f, another t minutes later -/
def SPN (z : Nat → Nat) (m c0 t w : Nat) : Prop := ∃ f b b', f ≤ 30 ∧ w = f + t ∧ rc z m c0 f b ∧ rc z m b t b'
/-- how likely an event is, in parts: from the code c, t minutes on, n glasses -/
def lkf (z : Nat → Nat) (m n : Nat) : Nat → Nat → Nat → Nat
  | 0, _, _ => 0
  | _ + 1, 0, _ => 1
  | f + 1, t + 1, c => fb_sm (fun s => if 0 < dl z c s ∧ dl z c s ≤ t + 1 then lkf z m n f (t + 1 - dl z c s) (nc z c s) * 2 ^ (n * (dl z c s - 1)) else 0) (m + 1)
/-- what the book knows: the rows -/
def BC (h : xg_H) (nm : Nat → Nat) (B N n : Nat) (z t : Nat → Nat) (r : Nat) (cs : Nat → Nat) : Prop := SH n z t ∧ xg_i h (nm B) 12 = nI (c4 z) ∧ xg_i h (nm B) 13 = nI (c4 t) ∧ xg_i h (nm B) 14 = nI n ∧ WD z (2 ^ n - 1) (c4 t) h nm (B + 20) N r cs ∧ WM z (2 ^ n - 1) (c4 t) h nm (B + 20) r cs ∧ isB (xg_i h (nm B) 16) (fun T => (1 ≤ T ∧ T ≤ 30) ∧ ∃ b, rc z (2 ^ n - 1) (c4 t) T b)
def B1 (h : xg_H) (nm : Nat → Nat) (B n : Nat) (z t : Nat → Nat) : Prop := ∀ i, sb i (2 ^ n - 1) → xg_i h (nm (B + 7)) i = nM ∨ isB (xg_i h (nm (B + 7)) i) (fun T => (1 ≤ T ∧ T ≤ 30) ∧ ∃ b, rc (zr i z) i (c4 (zr i t)) T b)
def B2 (h : xg_H) (nm : Nat → Nat) (B n : Nat) (z t : Nat → Nat) : Prop := xg_i h (nm B) 17 = nI 0 ∨ (xg_i h (nm B) 17 = nI 1 ∧ ∀ T, 1 ≤ T → T ≤ 30 → (∃ x, xg_i h (nm (B + 4)) T = nI x ∧ x ≤ 1000000 ∧ lsG (TL z (2 ^ n - 1) (c4 t) on4 T) x) ∧ ∃ x, xg_i h (nm (B + 6)) T = nI x ∧ x ≤ 1000000 ∧ lsG (SPN z (2 ^ n - 1) (c4 t) T) x)
def B3 (h : xg_H) (nm : Nat → Nat) (B N n : Nat) (z : Nat → Nat) (r : Nat) (cs : Nat → Nat) : Prop := xg_i h (nm B) 19 = nI 0 ∨ (xg_i h (nm B) 19 = nI 1 ∧ CE h nm (B + 40) r (2 ^ n - 1) 4 on4 (fun _ => 0) ∧ ∀ T j, 1 ≤ T → T ≤ 30 → j < r → CT z (2 ^ n - 1) on4 (fun _ => 0) r cs h nm (B + 40) N T j)
def B4 (h : xg_H) (nm : Nat → Nat) (B n : Nat) (z t : Nat → Nat) : Prop := xg_i h (nm B) 15 = nM ∨ ∃ pr : Nat → Nat, (∀ j, j < n → pr j ≤ 9) ∧ (∀ j, n ≤ j → pr j = 0) ∧ xg_i h (nm B) 15 = nI (pkey pr n) ∧ ∀ T, 1 ≤ T → T ≤ 30 → ∃ x, xg_i h (nm (B + 5)) T = nI x ∧ x ≤ 1000000 ∧ lsG (TL z (2 ^ n - 1) (c4 t) (fun s => sw pr s 4) T) x
def B5 (h : xg_H) (nm : Nat → Nat) (B n : Nat) (z t : Nat → Nat) : Prop := xg_i h (nm B) 11 = nI 0 ∨ ∃ T L rs rm, (1 ≤ T ∧ T ≤ 30) ∧ xg_i h (nm B) 11 = nI T ∧ xg_i h (nm B) 10 = nI L ∧ L ≤ 30 ∧ ROW z (2 ^ n - 1) (c4 t) T L rs rm ∧ ∀ k, k < L → (xg_i h (nm (B + 9)) k = nI (rs k) ∧ rs k ≤ 2 ^ n - 1) ∧ xg_i h (nm (B + 10)) k = nI (rm k) ∧ rm k ≤ 30
def B6 (h : xg_H) (nm : Nat → Nat) (B N n : Nat) (z t : Nat → Nat) : Prop := xg_i h (nm B) 18 = nI 0 ∨ (xg_i h (nm B) 18 = nI 1 ∧ ∀ T, 1 ≤ T → T ≤ 10 → xg_l h (nm (B + 8)) (T * N) = lN (lkf z (2 ^ n - 1) n 31 T (c4 t)))
/-- a book that is open at a shelf -/
def BI (h : xg_H) (nm : Nat → Nat) (B N n : Nat) (z t : Nat → Nat) : Prop := ∃ r cs, BC h nm B N n z t r cs ∧ B1 h nm B n z t ∧ B2 h nm B n z t ∧ B3 h nm B N n z r cs ∧ B4 h nm B n z t ∧ B5 h nm B n z t ∧ B6 h nm B N n z t
theorem BC.mv {nm : Nat → Nat} {B N n r : Nat} {z t cs : Nat → Nat} {P L K : List Nat} {h h2 : xg_H} (a : BC h nm B N n z t r cs) (e : xe nm B P L K h h2) (h12 : 12 ∉ P) (h13 : 13 ∉ P) (h14 : 14 ∉ P) (h16 : 16 ∉ P) (g0 : 20 ∉ L) (g1 : 21 ∉ L) (g2 : 22 ∉ L) (g3 : 23 ∉ L) (g4 : 24 ∉ L) : BC h2 nm B N n z t r cs := by
  obtain ⟨a0, a1, a2, a3, a4, a5, a6⟩ := a
  have c0 := e.2.1 20 g0 (by decide) (by decide)
  have c1 := e.2.1 21 g1 (by decide) (by decide)
  have c2 := e.2.1 22 g2 (by decide) (by decide)
  have c3 := e.2.1 23 g3 (by decide) (by decide)
  have c4 := e.2.1 24 g4 (by decide) (by decide)
  refine ⟨a0, (e.1 12 h12).trans a1, (e.1 13 h13).trans a2, (e.1 14 h14).trans a3, ?_, ⟨fun i hi => ?_, fun k hk => ?_⟩, by rw [e.1 16 h16]; exact a6⟩
  · obtain ⟨b1, b2, b3, b4, b5, b6⟩ := a4
    refine ⟨b1, (c0 4).1.trans b2, (c0 5).1.trans b3, fun i hi => ⟨(c1 i).1.trans (b4 i hi).1, (b4 i hi).2⟩, b5, fun i s hi hs => ?_⟩
    obtain ⟨d1, d2⟩ := b6 i s hi hs
    refine ⟨fun q => ?_, fun q => (c4 _).1.trans (d2 q)⟩
    obtain ⟨j, f1, f2, f3⟩ := d1 q
    exact ⟨j, f1, f2, (c4 _).1.trans f3⟩
  · rw [show B + 20 + 2 = B + 22 from rfl, (c2 i).1]; exact a5.1 i hi
  · rw [show B + 20 + 3 = B + 23 from rfl, (c3 k).1]; exact a5.2 k hk
theorem B1.mv {nm : Nat → Nat} {B n : Nat} {z t : Nat → Nat} {P L K : List Nat} {h h2 : xg_H} (a : B1 h nm B n z t) (e : xe nm B P L K h h2) (g : 7 ∉ L) : B1 h2 nm B n z t := fun i hi => by rw [(e.2.1 7 g (by decide) (by decide) i).1]; exact a i hi
theorem B2.mv {nm : Nat → Nat} {B n : Nat} {z t : Nat → Nat} {P L K : List Nat} {h h2 : xg_H} (a : B2 h nm B n z t) (e : xe nm B P L K h h2) (g0 : 17 ∉ P) (g1 : 4 ∉ L) (g2 : 6 ∉ L) : B2 h2 nm B n z t := by
  unfold B2 at *
  rw [e.1 17 g0]
  refine a.imp id (fun ⟨a1, a2⟩ => ⟨a1, fun T h1 h3 => ?_⟩)
  rw [(e.2.1 4 g1 (by decide) (by decide) T).1, (e.2.1 6 g2 (by decide) (by decide) T).1]; exact a2 T h1 h3
theorem B3.mv {nm : Nat → Nat} {B N n r : Nat} {z cs : Nat → Nat} {P L K : List Nat} {h h2 : xg_H} (a : B3 h nm B N n z r cs) (e : xe nm B P L K h h2) (g0 : 19 ∉ P) (g1 : 41 ∉ L) (g2 : 42 ∉ L) (g3 : 43 ∉ L) : B3 h2 nm B N n z r cs := by
  unfold B3 at *
  rw [e.1 19 g0]
  refine a.imp id (fun ⟨a1, a2, a3⟩ => ⟨a1, ⟨a2.1, fun s hs => ⟨((e.2.1 41 g1 (by decide) (by decide) s).1).trans (a2.2.1 s hs).1, (a2.2.1 s hs).2⟩, fun j hj => ⟨((e.2.1 42 g2 (by decide) (by decide) j).1).trans (a2.2.2 j hj).1, (a2.2.2 j hj).2⟩⟩, fun T j h1 h3 h4 => ?_⟩)
  obtain ⟨x, x1, x2, x3⟩ := a3 T j h1 h3 h4
  exact ⟨x, ((e.2.1 43 g3 (by decide) (by decide) _).1).trans x1, x2, x3⟩
theorem B4.mv {nm : Nat → Nat} {B n : Nat} {z t : Nat → Nat} {P L K : List Nat} {h h2 : xg_H} (a : B4 h nm B n z t) (e : xe nm B P L K h h2) (g0 : 15 ∉ P) (g1 : 5 ∉ L) : B4 h2 nm B n z t := by
  unfold B4 at *
  rw [e.1 15 g0]
  refine a.imp id (fun ⟨pr, a1, a0, a2, a3⟩ => ⟨pr, a1, a0, a2, fun T h1 h3 => ?_⟩)
  rw [(e.2.1 5 g1 (by decide) (by decide) T).1]; exact a3 T h1 h3
theorem B5.mv {nm : Nat → Nat} {B n : Nat} {z t : Nat → Nat} {P L K : List Nat} {h h2 : xg_H} (a : B5 h nm B n z t) (e : xe nm B P L K h h2) (g0 : 11 ∉ P) (g9 : 10 ∉ P) (g1 : 9 ∉ L) (g2 : 10 ∉ L) : B5 h2 nm B n z t := by
  unfold B5 at *
  rw [e.1 11 g0, e.1 10 g9]
  refine a.imp id (fun ⟨T, Ln, rs, rm, a1, a2, a3, a4, a5, a6⟩ => ⟨T, Ln, rs, rm, a1, a2, a3, a4, a5, fun k hk => ?_⟩)
  rw [(e.2.1 9 g1 (by decide) (by decide) k).1, (e.2.1 10 g2 (by decide) (by decide) k).1]; exact a6 k hk
theorem B6.mv {nm : Nat → Nat} {B N n : Nat} {z t : Nat → Nat} {P L K : List Nat} {h h2 : xg_H} (a : B6 h nm B N n z t) (e : xe nm B P L K h h2) (g0 : 18 ∉ P) (g1 : 8 ∉ L) : B6 h2 nm B N n z t := by
  unfold B6 at *
  rw [e.1 18 g0]
  refine a.imp id (fun ⟨a1, a2⟩ => ⟨a1, fun T h1 h3 => ?_⟩)
  rw [(e.2.1 8 g1 (by decide) (by decide) _).2]; exact a2 T h1 h3
