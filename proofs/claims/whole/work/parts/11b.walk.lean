/-! Walk: add, explore -/
def LW (Y : xg_Y) (h : xg_H) (nm : Nat → Nat) (w N : Nat) : Prop := xg_is Y (nm w) 10 ∧ (xg_o h (nm w) 0 = some (nm (w + 1)) ∧ xk Y nm (w + 1) 22 N) ∧ (xg_o h (nm w) 1 = some (nm (w + 2)) ∧ xk Y nm (w + 2) 22 N) ∧ (xg_o h (nm w) 2 = some (nm (w + 3)) ∧ xk Y nm (w + 3) 22 31) ∧ (xg_o h (nm w) 3 = some (nm (w + 4)) ∧ xk Y nm (w + 4) 22 (N * 16)) ∧ xg_o h (nm w) 6 = some (nm 30) ∧ (xg_o h (nm w) 7 = some (nm (w + 5)) ∧ xk Y nm (w + 5) 22 N) ∧ (xg_o h (nm w) 8 = some (nm (w + 6)) ∧ xk Y nm (w + 6) 22 N) ∧ N ≤ 1696 ∧ 100 ≤ w
theorem LW.mv {Y : xg_Y} {h h2 : xg_H} {nm : Nat → Nat} {w N : Nat} {L : List Nat} (a : LW Y h nm w N) (e : xd nm L h h2) : LW Y h2 nm w N := by
  obtain ⟨a1, ⟨a2, a3⟩, ⟨a4, a5⟩, ⟨a6, a7⟩, ⟨a8, a9⟩, a10, ⟨a11, a12⟩, ⟨a13, a14⟩, a15⟩ := a
  exact ⟨a1, ⟨(e.2 _ _).trans a2, a3⟩, ⟨(e.2 _ _).trans a4, a5⟩, ⟨(e.2 _ _).trans a6, a7⟩, ⟨(e.2 _ _).trans a8, a9⟩, (e.2 _ _).trans a10, ⟨(e.2 _ _).trans a11, a12⟩, ⟨(e.2 _ _).trans a13, a14⟩, a15⟩
/-- r rows so far: their codes cs, and where rowOf finds them -/
def WR (h : xg_H) (nm : Nat → Nat) (w r : Nat) (cs : Nat → Nat) : Prop := xg_i h (nm w) 4 = nI r ∧ (∀ i, i < r → xg_i h (nm (w + 1)) i = nI (cs i) ∧ cs i < 4096) ∧ (∀ i j, i < r → j < r → cs i = cs j → i = j) ∧ (∀ i, i < r → xg_i h (nm 31) (cs i) = nI (i + 1)) ∧ (∀ c, c < 4096 → (∀ i, i < r → cs i ≠ c) → xg_i h (nm 31) c = nI 0)
theorem pr_I {i : Nat} (hi : i < 2 ^ 29) : (if (0 : Int32) < nI (i + 1) - 1 then nI (i + 1) - 1 else 0) = nI i := by
  have := mx_I (a := i + 1) (b := 1) (by omega) (by decide)
  rw [← nl_1, Nat.add_sub_cancel] at this
  exact this
theorem sp_X10_add {Y : xg_Y} {Q : Int32 → xg_H → Prop} {h : xg_H} {nm : Nat → Nat} {w N r x : Nat} {cs : Nat → Nat} (hn : inj nm) (LSh : LSt Y h nm) (L : LW Y h nm w N) (W : WR h nm w r cs) (hr : r ≤ N) (hx : x < 4096) (hcap : (∀ i, i < r → cs i ≠ x) → r < N) (q : ∀ h' r' cs' j, xd nm [w, w + 1, 31] h h' → WR h' nm w r' cs' → (∀ k, k ≠ 4 → xg_i h' (nm w) k = xg_i h (nm w) k) → (∀ i, i < r → cs' i = cs i) → j < r' → cs' j = x → (r' = r ∨ (r' = r + 1 ∧ cs' r = x ∧ ∀ i, i < r → cs i ≠ x)) → Q (nI j) h') : wp_X10_add Y Q (nm w) (nI x) h := by
  have L0 := L
  obtain ⟨k10, ⟨o0, k1⟩, ⟨o1, k2⟩, ⟨o2, k3⟩, ⟨o3, k4⟩, o6, ⟨o7, k5⟩, ⟨o8, k6⟩, hN, hw⟩ := L
  obtain ⟨W1, W2, W3, W4, W5⟩ := W
  unfold wp_X10_add
  refine ⟨k10, fun R63 c63 z1 e1 => ?_⟩
  rw [nl_4095, m4095, Nat.mod_eq_of_lt hx] at e1
  subst e1
  refine ⟨nm 30, o6, LSh.1, nm 31, LSh.2.1, LSh.2.2.1.1, ?_⟩
  rw [LSh.2.2.1.2, nI_clamp (by omega)]
  refine ⟨vp_in_nI hx (by decide), ?_⟩
  have last : ∀ h' i, xg_o h' (nm w) 6 = some (nm 30) → xg_o h' (nm 30) 0 = some (nm 31) → i < 2 ^ 29 → xg_i h' (nm 31) x = nI (i + 1) → Q (nI i) h' → R63 (nI x) h' := by
    intro h' i g1 g2 hi e q
    refine c63 _ _ ⟨nm 30, g1, LSh.1, nm 31, g2, LSh.2.2.1.1, ?_⟩
    rw [LSh.2.2.1.2, nI_clamp (by omega), e, pr_I hi]
    refine ⟨vp_in_nI hx (by decide), ?_⟩
    rintro _ rfl
    exact q
  by_cases hex : ∃ i, i < r ∧ cs i = x
  · obtain ⟨i, hi, e⟩ := hex
    have e2 := W4 i hi
    rw [e] at e2
    rw [e2]
    refine bq_nt (fun e9 => ?_) (last h i o6 LSh.2.1 (by omega) e2 (q h r cs i xd.rf ⟨W1, W2, W3, W4, W5⟩ (fun _ _ => rfl) (fun _ _ => rfl) hi e (Or.inl rfl)))
    have := (nI_eq (a := i + 1) (b := 0) (by omega) (by decide)).mp e9
    omega
  · have hno : ∀ i, i < r → cs i ≠ x := fun i hi e => hex ⟨i, hi, e⟩
    have hrN := hcap hno
    rw [W5 x hx hno]
    refine bq_nf rfl ⟨nm (w + 1), o0, k1.1, ?_⟩
    rw [W1, k1.2]
    refine bq_f (nI_ge hrN (by omega)) ⟨vp_in_nI hrN (by omega), ?_⟩
    rintro _ rfl _ rfl
    refine ⟨nm 30, o6, LSh.1, nm 31, LSh.2.1, LSh.2.2.1.1, ?_⟩
    rw [LSh.2.2.1.2, nI_clamp (by omega)]
    refine ⟨vp_in_nI hx (by decide), ?_⟩
    rintro _ rfl
    have e4 : xg_i (xg_ui h (nm (w + 1)) r (nI x)) (nm w) 4 = nI r := by rw [xu_c hn (by omega)]; exact W1
    rw [e4, nI_1]
    rw [xu hn, if_pos ⟨rfl, rfl⟩]
    have ne31 : ∀ k, w + k ≠ 31 := fun k => by omega
    refine last _ r o6 LSh.2.1 (by omega) (by rw [xu hn, if_pos ⟨rfl, rfl⟩]) (q _ (r + 1) (fun i => if i = r then x else cs i) r ?_ ?_ ?_ ?_ (by omega) (by simp) (Or.inr ⟨rfl, by simp, hno⟩))
    · exact xd.ui hn (xd.ui hn (xd.ui hn xd.rf (by simp)) (by simp)) (by simp)
    · refine ⟨?_, fun i hi => ?_, fun i j hi hj e => ?_, fun i hi => ?_, fun c hc hno2 => ?_⟩
      · rw [xu_c hn (by omega), xu hn, if_pos ⟨rfl, rfl⟩]
      · rw [xu_c hn (by omega), xu_c hn (by omega), xu hn]
        by_cases e : i = r
        · rw [if_pos ⟨rfl, e⟩]; simp only [if_pos e]; exact ⟨trivial, hx⟩
        · rw [if_neg (fun q => e q.2)]; simp only [if_neg e]; exact W2 i (by omega)
      · simp only at e
        by_cases ei : i = r <;> by_cases ej : j = r
        · omega
        · rw [if_pos ei, if_neg ej] at e; exact absurd e.symm (hno j (by omega))
        · rw [if_neg ei, if_pos ej] at e; exact absurd e (hno i (by omega))
        · rw [if_neg ei, if_neg ej] at e; exact W3 i j (by omega) (by omega) e
      · rw [xu hn]
        by_cases e : i = r
        · simp only [if_pos e]; simp [e]
        · simp only [if_neg e]
          rw [if_neg (fun q => hno i (by omega) q.2), xu_c hn (by omega), xu_c hn (by omega)]
          exact W4 i (by omega)
      · have hcx : c ≠ x := fun e => by have := hno2 r (by omega); simp only [if_pos] at this; exact this e.symm
        rw [xu hn, if_neg (fun q => hcx q.2), xu_c hn (by omega), xu_c hn (by omega)]
        refine W5 c hc (fun i hi e => ?_)
        have := hno2 i (by omega)
        simp only [if_neg (show ¬ i = r by omega)] at this
        exact this e
    · intro k hk
      rw [xu_c hn (by omega), xu_p hn hk, xu_c hn (by omega)]
    · intro i hi
      simp only [if_neg (show ¬ i = r by omega)]
/-- codes of the glasses m: one of them has nothing on top -/
def Z0 (m c : Nat) : Prop := (∀ g, g < 4 → m.testBit g = false → dg c g = 0) ∧ ∃ g, g < 4 ∧ m.testBit g = true ∧ dg c g = 0
/-- N rows are enough -/
def cap (m c0 N : Nat) : Prop := ∀ (r : Nat) (cs : Nat → Nat), (∀ i j, i < r → j < r → cs i = cs j → i = j) → (∀ i, i < r → cs i < 4096 ∧ (cs i = c0 ∨ Z0 m (cs i))) → r ≤ N
/-- what a way holds -/
def WE (z : Nat → Nat) (m : Nat) (h : xg_H) (nm : Nat → Nat) (w r : Nat) (cs : Nat → Nat) (i s : Nat) : Prop := (sb s m ∧ 0 < dl z (cs i) s → ∃ j, j < r ∧ cs j = nc z (cs i) s ∧ xg_i h (nm (w + 4)) (i * 16 + s) = nI (dl z (cs i) s * 4096 + j)) ∧ (¬ (sb s m ∧ 0 < dl z (cs i) s) → xg_i h (nm (w + 4)) (i * 16 + s) = nI 0)
/-- the rows of a walk as they are behind explore -/
def WD (z : Nat → Nat) (m c0 : Nat) (h : xg_H) (nm : Nat → Nat) (w N r : Nat) (cs : Nat → Nat) : Prop := (1 ≤ r ∧ r ≤ N ∧ cs 0 = c0) ∧ xg_i h (nm w) 4 = nI r ∧ xg_i h (nm w) 5 = nI (m + 1) ∧ (∀ i, i < r → xg_i h (nm (w + 1)) i = nI (cs i) ∧ okc z (cs i)) ∧ (∀ i j, i < r → j < r → cs i = cs j → i = j) ∧ ∀ i s, i < r → s ≤ m → WE z m h nm w r cs i s
theorem WD.mv {z : Nat → Nat} {m c0 : Nat} {h h2 : xg_H} {nm : Nat → Nat} {w N r : Nat} {cs : Nat → Nat} {L : List Nat} (a : WD z m c0 h nm w N r cs) (e : xd nm L h h2) (h1 : w ∉ L) (h3 : w + 1 ∉ L) (h4 : w + 4 ∉ L) : WD z m c0 h2 nm w N r cs := by
  obtain ⟨a1, a2, a3, a4, a5, a6⟩ := a
  refine ⟨a1, (e.i w h1 4).trans a2, (e.i w h1 5).trans a3, fun i hi => ⟨(e.i _ h3 i).trans (a4 i hi).1, (a4 i hi).2⟩, a5, fun i s hi hs => ?_⟩
  obtain ⟨b1, b2⟩ := a6 i s hi hs
  refine ⟨fun q => ?_, fun q => (e.i _ h4 _).trans (b2 q)⟩
  obtain ⟨j, c1, c2, c3⟩ := b1 q
  exact ⟨j, c1, c2, (e.i _ h4 _).trans c3⟩
theorem hl_I {x : Nat} (hx : x < 2 ^ 30) {j : Nat} (hj : j < 4096) : ((nI x >>> ((12 : Int32) &&& 31)) <<< ((12 : Int32) &&& 31)) ||| nI j = nI (x / 4096 * 4096 + j) := by
  rw [nl_12, nl_31, m31 (by decide), sr_I (by omega) (by decide), sl_I (by decide) (by omega), fa_or]
  have h1 := Nat.two_pow_add_eq_or_of_lt (i := 12) (b := j) hj (x / 2 ^ 12)
  rw [Nat.mul_comm (x / 2 ^ 12), ← h1, Nat.mul_comm]
theorem sh12 {x : Nat} (hx : x < 2 ^ 31) : nI x >>> ((12 : Int32) &&& 31) = nI (x / 4096) := by
  rw [nl_12, nl_31, m31 (by decide), sr_I hx (by decide)]
/-- z has nothing outside m; what comes behind a step is a code of m -/
theorem Z0_nc {z : Nat → Nat} {m c s : Nat} (hz : zok z) (hzm : ∀ g, g < 4 → m.testBit g = false → z g = 0) (hc : okc z c) (hd : 0 < dl z c s) : Z0 m (nc z c s) := by
  refine ⟨fun g hg hm => ?_, ?_⟩
  · have := (nc_ok (s := s) hz hc).2 g hg
    rw [hzm g hg hm] at this
    omega
  · rcases dl_spec (c := c) (s := s) hz with ⟨e, _⟩ | ⟨_, _, ⟨g, hg, e⟩, _⟩
    · omega
    · refine ⟨g, hg, ?_, by rw [dg_nc hz g hg]; omega⟩
      have h1 := tn_lez (s := s) hc hg
      cases hb : m.testBit g
      · rw [hzm g hg hb] at h1; omega
      · rfl
theorem sp_X10_explore {Y : xg_Y} {Q : xg_H → Prop} {h : xg_H} {nm : Nat → Nat} {w N m c0 : Nat} {z : Nat → Nat} (hn : inj nm) (LSh : LSt Y h nm) (L : LW Y h nm w N) (K : KN h nm) (hR : ∀ c, c < 4096 → xg_i h (nm 31) c = nI 0) (hz : zok z) (hm : m < 16) (hzm : ∀ g, g < 4 → m.testBit g = false → z g = 0) (hc0 : okc z c0) (hcap : cap m c0 N) (q : ∀ h' r cs, xd nm [w, w + 1, w + 4, 31, 32] h h' → KN h' nm → (∀ c, c < 4096 → xg_i h' (nm 31) c = nI 0) → WD z m c0 h' nm w N r cs → wp_X10_findMinutes Y Q (nm w) h') : wp_X10_explore Y Q (nm w) (nI (cd (z 0) (z 1) (z 2) (z 3))) (nI c0) (nI m) h := by
  have L0 := L
  obtain ⟨k10, ⟨o0, k1⟩, ⟨o1, k2⟩, ⟨o2, k3⟩, ⟨o3, k4⟩, o6, ⟨o7, k5⟩, ⟨o8, k6⟩, hN, hw⟩ := L
  unfold wp_X10_explore
  refine ⟨k10, fun R26 R149 R48 R152 R90 R111 c26 c149 c48 c152 c90 c111 => ?_⟩
  rintro _ rfl _ rfl _ rfl
  have e5 : (if nI m + 1 < 16 then nI m + 1 else 16) = nI (m + 1) := by
    rw [nI_1, nl_16]
    by_cases e : m + 1 < 16
    · rw [if_pos (nI_lt e (by decide))]
    · rw [if_neg (nI_nlt (by omega) (by omega)), show m + 1 = 16 by omega]
  rw [e5]
  have hN1 : 1 ≤ N := by
    have := hcap 1 (fun _ => c0) (fun i j hi hj _ => by omega) (fun i _ => ⟨hc0.1, Or.inl rfl⟩)
    exact this
  -- what holds
  have J : ∃ J : Nat → Nat → Nat → (Nat → Nat) → xg_H → Prop, ∀ i s r cs h', J i s r cs h' ↔ (xd nm [w, w + 1, w + 4, 31, 32] h h' ∧ KN h' nm ∧ xg_i h' (nm w) 5 = nI (m + 1) ∧ (1 ≤ r ∧ r ≤ N ∧ cs 0 = c0) ∧ WR h' nm w r cs ∧ (∀ i, i < r → okc z (cs i) ∧ (cs i = c0 ∨ Z0 m (cs i))) ∧ ∀ i' s', (i' < i ∧ s' ≤ m ∨ i' = i ∧ s' < s) → WE z m h' nm w r cs i' s') := ⟨_, fun _ _ _ _ _ => Iff.rfl⟩
  obtain ⟨J, hJ⟩ := J
  -- the rows are taken out of rowOf again
  have out : ∀ h' r cs, (∀ s, J r s r cs h' ∨ J r 0 r cs h') → R149 h' := by
    intro h' r cs hj
    have hj : J r 0 r cs h' := (hj 0).elim id id
    obtain ⟨i1, i2, i3, i4, i5, i6, i7⟩ := (hJ _ _ _ _ _).mp hj
    obtain ⟨W1, W2, W3, W4, W5⟩ := i5
    refine c149 _ ?_
    have E : ∀ s, xd nm [31] h' s → R152 (nI 0) s → R152 0 s := fun _ _ h => h
    refine lp (σ := xg_H) (R := fun i s => R152 (nI i) s) (fun i s => xd nm [31] h' s ∧ ∀ c, c < 4096 → (xg_i s (nm 31) c = nI 0 ∨ ∃ k, i ≤ k ∧ k < r ∧ cs k = c)) 0 r (Nat.zero_le r) ?_ ?_ h' ⟨xd.rf, fun c hc => ?_⟩
    · rintro s ⟨e, hs⟩
      refine c152 _ _ (bq_t ?_ ?_)
      · rw [e.i w (by simp; omega), W1]; exact nI_le (Nat.le_refl r) (by omega)
      · have e' : xd nm [w, w + 1, w + 4, 31, 32] h' s := e.mono (fun c hc => by simp at hc ⊢; omega)
        refine q s r cs (i1.tr e') (i2.mv e (by decide)) (fun c hc => ?_) ?_
        · rcases hs c hc with g | ⟨k, g1, g2, _⟩
          · exact g
          · omega
        · have wd : WD z m c0 h' nm w N r cs := ⟨i4, W1, i3, fun i hi => ⟨(W2 i hi).1, (i6 i hi).1⟩, W3, fun i s hi hs => i7 i s (Or.inl ⟨hi, hs⟩)⟩
          exact wd.mv e (by simp; omega) (by simp; omega) (by simp; omega)
    · rintro i s _ hi ⟨e, hs⟩ ih
      have hci := (W2 i hi).2
      refine c152 _ _ (bq_f ?_ ⟨nm 30, (e.2 _ _).trans ((i1.2 _ _).trans o6), LSh.1, nm (w + 1), (e.2 _ _).trans ((i1.2 _ _).trans o0), k1.1, ?_⟩)
      · rw [e.i w (by simp; omega), W1]; exact nI_ge hi (by omega)
      · rw [nI_clamp (by omega), k1.2, e.i (w + 1) (by simp; omega), (W2 i hi).1, nl_4095, m4095, Nat.mod_eq_of_lt hci, nI_clamp (by omega)]
        refine ⟨vp_in_nI (by omega) (by omega), nm 31, (e.2 _ _).trans ((i1.2 _ _).trans LSh.2.1), LSh.2.2.1.1, ?_⟩
        rw [LSh.2.2.1.2]
        refine ⟨vp_in_nI hci (by decide), ?_⟩
        rintro _ rfl _ rfl
        rw [nI_1]
        refine ih _ ⟨xd.ui hn e (by simp), fun c hc => ?_⟩
        rw [xu hn]
        by_cases ec : c = cs i
        · rw [if_pos ⟨rfl, ec⟩]; exact Or.inl rfl
        · rw [if_neg (fun q => ec q.2)]
          rcases hs c hc with g | ⟨k, g1, g2, g3⟩
          · exact Or.inl g
          · refine Or.inr ⟨k, ?_, g2, g3⟩
            rcases Nat.lt_or_ge i k with h9 | h9
            · omega
            · rw [show k = i by omega] at g3; exact absurd g3.symm ec
    · by_cases hex : ∃ i, i < r ∧ cs i = c
      · obtain ⟨i, h1, h2⟩ := hex
        exact Or.inr ⟨i, Nat.zero_le i, h1, h2⟩
      · exact Or.inl (W5 c hc (fun i hi e => hex ⟨i, hi, e⟩))
  -- the first row
  have W0 : WR (xg_ui (xg_ui h (nm w) 4 0) (nm w) 5 (nI (m + 1))) nm w 0 (fun _ => c0) := by
    refine ⟨?_, fun i hi => by omega, fun i j hi => by omega, fun i hi => by omega, fun c hc _ => ?_⟩
    · rw [xu_p hn (by decide), xu hn, if_pos ⟨rfl, rfl⟩]; rfl
    · rw [xu_c hn (by omega), xu_c hn (by omega)]; exact hR c hc
  have e0 : xd nm [w, w + 1, w + 4, 31, 32] h (xg_ui (xg_ui h (nm w) 4 0) (nm w) 5 (nI (m + 1))) := xd.ui hn (xd.ui hn xd.rf (by simp)) (by simp)
  refine sp_X10_add (N := N) (r := 0) (cs := fun _ => c0) hn (LSh.mv e0) (L0.mv e0) W0 (Nat.zero_le N) hc0.1 (fun _ => by omega) (fun h1 r1 cs1 j1 d1 W1' f1 p1 hj1 ej1 c1 => ?_)
  have hr1 : r1 = 1 ∧ cs1 0 = c0 := by
    rcases c1 with c1 | c1
    · omega
    · exact ⟨c1.1, c1.2.1⟩
  obtain ⟨rfl, hcs0⟩ := hr1
  have hstart : J 0 0 1 cs1 h1 := by
    refine (hJ _ _ _ _ _).mpr ⟨e0.tr (d1.mono (fun c hc => by simp at hc ⊢; omega)), ?_, ?_, ⟨by omega, hN1, hcs0⟩, W1', fun i hi => ?_, fun i' s' hh => by omega⟩
    · exact (K.mv (xd.ui (L := [w]) hn (xd.ui hn xd.rf (by simp)) (by simp)) (by simp; omega)).mv d1 (by simp; omega)
    · rw [f1 5 (by decide), xu hn, if_pos ⟨rfl, rfl⟩]
    · rw [show i = 0 by omega, hcs0]; exact ⟨hc0, Or.inl rfl⟩
  -- all rows
  refine lp (σ := xg_H) (R := fun i s => R26 (nI i) s) (fun i s => ∃ r cs, i ≤ r ∧ J i 0 r cs s) 0 N (Nat.zero_le N) ?_ ?_ h1 ⟨1, cs1, by omega, hstart⟩
  · rintro s ⟨r, cs, hir, hj⟩
    obtain ⟨i1, i2, i3, i4, i5, i6, i7⟩ := (hJ _ _ _ _ _).mp hj
    have hrN : r = N := by omega
    subst hrN
    refine c26 _ _ (bq_t ?_ (out s r cs (fun _ => Or.inr hj)))
    rw [i5.1]; exact nI_le (Nat.le_refl r) (by omega)
  · rintro i s _ hiN ⟨r, cs, hir, hj⟩ ih
    obtain ⟨i1, i2, i3, i4, i5, i6, i7⟩ := (hJ _ _ _ _ _).mp hj
    by_cases hri : r ≤ i
    · have hri : i = r := by omega
      subst hri
      refine c26 _ _ (bq_t ?_ (out s i cs (fun _ => Or.inr hj)))
      rw [i5.1]; exact nI_le (Nat.le_refl i) (by omega)
    · refine c26 _ _ (bq_f ?_ ⟨nm (w + 1), (i1.2 _ _).trans o0, k1.1, ?_⟩)
      · rw [i5.1]; exact nI_ge (by omega) (by omega)
      rw [k1.2]
      refine bq_f (nI_ge hiN (by omega)) ?_
      -- all sets
      refine lp (σ := xg_H) (R := fun k s => R48 (nI i) (nI k) s) (fun k s => ∃ r cs, i < r ∧ J i k r cs s) 0 (m + 1) (Nat.zero_le _) ?_ ?_ s ⟨r, cs, by omega, hj⟩
      · rintro s ⟨r, cs, hir, hj⟩
        obtain ⟨i1, i2, i3, i4, i5, i6, i7⟩ := (hJ _ _ _ _ _).mp hj
        refine c48 _ _ _ (bq_t ?_ ?_)
        · rw [i3]; exact nI_le (Nat.le_refl _) (by omega)
        · rintro _ rfl
          rw [nI_1]
          refine ih s ⟨r, cs, by omega, (hJ _ _ _ _ _).mpr ⟨i1, i2, i3, i4, i5, i6, fun i' s' hh => i7 i' s' ?_⟩⟩
          omega
      · rintro k s _ hk ⟨r, cs, hir, hj⟩ ih2
        obtain ⟨i1, i2, i3, i4, i5, i6, i7⟩ := (hJ _ _ _ _ _).mp hj
        have hok := (i6 i hir).1
        -- what is written
        have put : ∀ s' r' cs' (y j : Nat), xd nm [w, w + 1, w + 4, 31, 32] h s' → KN s' nm → xg_i s' (nm w) 5 = nI (m + 1) → (1 ≤ r' ∧ r' ≤ N ∧ cs' 0 = c0) → WR s' nm w r' cs' → (∀ i, i < r' → okc z (cs' i) ∧ (cs' i = c0 ∨ Z0 m (cs' i))) → (∀ i' s'', (i' < i ∧ s'' ≤ m ∨ i' = i ∧ s'' < k) → WE z m s' nm w r' cs' i' s'') → i < r' → y < 2 ^ 30 → j < 4096 → (sb k m ∧ 0 < dl z (cs' i) k → j < r' ∧ cs' j = nc z (cs' i) k ∧ y / 4096 = dl z (cs' i) k) → (¬ (sb k m ∧ 0 < dl z (cs' i) k) → y / 4096 = 0 ∧ j = 0) → R111 (nI i) (nI k) (nI y) (nI j) s' := by
          intro s' r' cs' y j j1 j2 j3 j4 j5 j6 j7 hir' hy hj' hyes hno
          refine c111 _ _ _ _ _ ⟨nm (w + 4), (j1.2 _ _).trans o3, k4.1, ?_⟩
          rw [k4.2, nl_16, pk_mul, nI_add, nI_clamp (by omega), hl_I hy hj']
          refine ⟨vp_in_nI (by omega) (by omega), ?_⟩
          rintro _ rfl _ rfl
          rw [nI_1]
          obtain ⟨W1, W2, W3, W4, W5⟩ := j5
          refine ih2 _ ⟨r', cs', hir', (hJ _ _ _ _ _).mpr ⟨xd.ui hn j1 (by simp), j2.mv (xd.ui (L := [w + 4]) hn xd.rf (by simp)) (by simp; omega), (by rw [xu_c hn (by omega)]; exact j3), j4, ⟨(by rw [xu_c hn (by omega)]; exact W1), fun i hi => (by rw [xu_c hn (by omega)]; exact W2 i hi), W3, fun i hi => (by rw [xu_c hn (by omega)]; exact W4 i hi), fun c hc hx => (by rw [xu_c hn (by omega)]; exact W5 c hc hx)⟩, j6, fun i' s'' hh => ?_⟩⟩
          unfold WE
          by_cases he : i' = i ∧ s'' = k
          · obtain ⟨rfl, rfl⟩ := he
            rw [xu hn, if_pos ⟨rfl, rfl⟩]
            refine ⟨fun q => ?_, fun q => ?_⟩
            · obtain ⟨g1, g2, g3⟩ := hyes q
              exact ⟨j, g1, g2, by rw [g3]⟩
            · obtain ⟨g1, g2⟩ := hno q
              rw [g1, g2]
          · rw [xu_p hn (by omega)]
            exact j7 i' s'' (by omega)
        refine c48 _ _ _ (bq_f ?_ ?_)
        · rw [i3]; exact nI_ge hk (by omega)
        by_cases hsb : sb k m
        · refine bq_nf ((sb_I k (by omega) m hm).mpr hsb) ⟨nm (w + 1), (i1.2 _ _).trans o0, k1.1, ?_⟩
          rw [k1.2, nI_clamp (by omega), (i5.2.1 i hir).1]
          refine ⟨vp_in_nI hiN (by omega), ?_⟩
          refine sp_X11_turned hz hok (by omega) ⟨nm 30, (i1.2 _ _).trans o6, LSh.1, ?_⟩
          refine sp_X7_from hn (LSh.mv i1) i2 (fun s2 e2 K2 => ?_)
          have hck : ck z (cs i) k 4 < 4096 := ck_lt hz 4 (by decide)
          rw [Nat.mod_eq_of_lt hck]
          have e2' : xd nm [w, w + 1, w + 4, 31, 32] s s2 := e2.mono (fun c hc => by simp at hc ⊢; omega)
          have W2' : WR s2 nm w r cs := by
            obtain ⟨W1, W2, W3, W4, W5⟩ := i5
            exact ⟨(e2.i w (by simp; omega) 4).trans W1, fun i hi => ⟨(e2.i _ (by simp; omega) i).trans (W2 i hi).1, (W2 i hi).2⟩, W3, fun i hi => (e2.i 31 (by decide) _).trans (W4 i hi), fun c hc hx => (e2.i 31 (by decide) _).trans (W5 c hc hx)⟩
          have i72 : ∀ i' s', (i' < i ∧ s' ≤ m ∨ i' = i ∧ s' < k) → WE z m s2 nm w r cs i' s' := fun i' s' hh => by
            obtain ⟨b1, b2⟩ := i7 i' s' hh
            refine ⟨fun q => ?_, fun q => (e2.i _ (by simp; omega) _).trans (b2 q)⟩
            obtain ⟨j, c1, c2, c3⟩ := b1 q
            exact ⟨j, c1, c2, (e2.i _ (by simp; omega) _).trans c3⟩
          obtain ⟨t0, t1⟩ := stp_ck (c := cs i) (s := k) hz
          have hd7 := dl_le (c := cs i) (s := k) hz
          by_cases hd : 0 < dl z (cs i) k
          · have hnc := nc_lt (c := cs i) (s := k) hz
            rw [t1 hd]
            refine c90 _ _ _ _ (bq_nt (fun e9 => ?_) ?_)
            · have := (nI_eq (a := dl z (cs i) k * 4096 + nc z (cs i) k) (b := 0) (by omega) (by decide)).mp e9
              omega
            · rw [nl_4095, m4095, show (dl z (cs i) k * 4096 + nc z (cs i) k) % 4096 = nc z (cs i) k by omega]
              refine sp_X10_add hn (LSh.mv (i1.tr e2')) (L0.mv (i1.tr e2')) W2' i4.2.1 hnc (fun hno => ?_) (fun h3 r3 cs3 j3 d3 W3' f3 p3 hj3 ej3 c3 => ?_)
              · have := hcap (r + 1) (fun i' => if i' = r then nc z (cs i) k else cs i') (fun a b ha hb e => ?_) (fun a ha => ?_)
                · omega
                · by_cases ea : a = r <;> by_cases eb : b = r
                  · omega
                  · rw [if_pos ea, if_neg eb] at e; exact absurd e.symm (hno b (by omega))
                  · rw [if_neg ea, if_pos eb] at e; exact absurd e (hno a (by omega))
                  · rw [if_neg ea, if_neg eb] at e; exact i5.2.2.1 a b (by omega) (by omega) e
                · by_cases ea : a = r
                  · simp only [if_pos ea]; exact ⟨hnc, Or.inr (Z0_nc hz hzm hok hd)⟩
                  · simp only [if_neg ea]; exact ⟨(i6 a (by omega)).1.1, (i6 a (by omega)).2⟩
              · have d3' : xd nm [w, w + 1, w + 4, 31, 32] s2 h3 := d3.mono (fun c hc => by simp at hc ⊢; omega)
                have hr3 : r ≤ r3 ∧ r3 ≤ N := by
                  rcases c3 with c3 | ⟨c3, c4, c5⟩
                  · omega
                  · have : r3 ≤ N := hcap r3 cs3 W3'.2.2.1 (fun a ha => ⟨(W3'.2.1 a ha).2, ?_⟩)
                    · omega
                    · by_cases ea : a = r
                      · rw [ea, c4]; exact Or.inr (Z0_nc hz hzm hok hd)
                      · rw [p3 a (by omega)]; exact (i6 a (by omega)).2
                have hr3N := W3'
                have eci : cs3 i = cs i := p3 i hir
                have ok3 : ∀ a, a < r3 → okc z (cs3 a) ∧ (cs3 a = c0 ∨ Z0 m (cs3 a)) := fun a ha => by
                  by_cases ea : a < r
                  · rw [p3 a ea]; exact i6 a ea
                  · rcases c3 with c3 | ⟨c3, c4, c5⟩
                    · omega
                    · rw [show a = r by omega, c4]
                      exact ⟨nc_ok hz hok, Or.inr (Z0_nc hz hzm hok hd)⟩
                refine put h3 r3 cs3 _ j3 ((i1.tr e2').tr d3') (K2.mv d3 (by simp; omega)) ((f3 5 (by decide)).trans ((e2.i w (by simp; omega) 5).trans i3)) ⟨by omega, by omega, (p3 0 (by omega)).trans i4.2.2⟩ W3' ok3 (fun i' s' hh => ?_) (by omega) (by omega) (by omega) (fun _ => ⟨hj3, by rw [eci]; exact ej3, by rw [eci]; omega⟩) (fun hx => absurd ⟨hsb, by rw [eci]; exact hd⟩ hx)
                have hi'r : i' < r := by omega
                obtain ⟨b1, b2⟩ := i72 i' s' hh
                unfold WE
                rw [p3 i' hi'r]
                refine ⟨fun q => ?_, fun q => (d3.i _ (by simp; omega) _).trans (b2 q)⟩
                obtain ⟨j, g1, g2, g3⟩ := b1 q
                exact ⟨j, by omega, by rw [p3 j g1]; exact g2, (d3.i _ (by simp; omega) _).trans g3⟩
          · rw [t0 (by omega)]
            exact c90 _ _ _ _ (bq_nf rfl (put s2 r cs 0 0 (i1.tr e2') K2 ((e2.i w (by simp; omega) 5).trans i3) i4 W2' i6 i72 hir (by decide) (by decide) (fun hx => absurd hx.2 hd) (fun _ => ⟨rfl, rfl⟩)))
        · refine bq_nt (fun e => hsb ((sb_I k (by omega) m hm).mp e)) ?_
          exact c90 _ _ _ _ (bq_nf rfl (put s r cs 0 0 i1 i2 i3 i4 i5 i6 i7 hir (by decide) (by decide) (fun hx => absurd hx.1 hsb) (fun _ => ⟨rfl, rfl⟩)))
