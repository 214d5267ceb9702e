/-! the reference under the cloth: the rows of tops one by one, what is gathered, what is asked -/
theorem nm_up {R m : Nat} (hm : 0 < m) : (R % m + 1 < m → (R + 1) % m = R % m + 1 ∧ (R + 1) / m = R / m) ∧ (R % m + 1 = m → (R + 1) % m = 0 ∧ (R + 1) / m = R / m + 1) := by
  have e : R + 1 = m * (R / m) + (R % m + 1) := by
    have := Nat.div_add_mod R m
    omega
  constructor
  · intro h
    rw [e, Nat.mul_add_mod, Nat.mul_add_div hm, Nat.mod_eq_of_lt h, Nat.div_eq_of_lt h]
    have e1 : (m * (R / m) + (R % m + 1)) = R + 1 := e.symm
    exact ⟨rfl, by omega⟩
  · intro h
    rw [e, Nat.mul_add_mod, Nat.mul_add_div hm, h, Nat.mod_self, Nat.div_self hm]
    exact ⟨rfl, rfl⟩
theorem rst_eq {z : Nat → Nat} {a b j : Nat} (hj : j < 4) (h : rst z a j / (z j + 1) = rst z b j / (z j + 1)) : ∀ g, g < j → rst z a g = rst z b g := by
  have go : ∀ d, d + 1 ≤ j → rst z a (j - 1 - d) = rst z b (j - 1 - d) := by
    intro d
    induction d with
    | zero =>
      intro h1
      rw [rst_s (row := a) (g := j - 1 - 0) (by omega), rst_s (row := b) (g := j - 1 - 0) (by omega), show j - 1 - 0 + 1 = j by omega]
      exact h
    | succ d ih =>
      intro h1
      have ih := ih (by omega)
      rw [rst_s (row := a) (g := j - 1 - (d + 1)) (by omega), rst_s (row := b) (g := j - 1 - (d + 1)) (by omega), show j - 1 - (d + 1) + 1 = j - 1 - d by omega, ih]
  intro g hg
  have := go (j - 1 - g) (by omega)
  rw [show j - 1 - (j - 1 - g) = g by omega] at this
  exact this
theorem PB_4 {z : Nat → Nat} {n : Nat} (h0 : ∀ j, n ≤ j → z j = 0) : ∀ d, PBk z (n + d) = PBk z n
  | 0 => rfl
  | d + 1 => by
    show PBk z (n + d) * (z (n + d) + 1) = _
    rw [PB_4 h0 d, h0 (n + d) (by omega), Nat.zero_add, Nat.mul_one]
theorem PB_iff {z : Nat → Nat} {n row : Nat} (hn : n ≤ 4) (h0 : ∀ j, n ≤ j → z j = 0) : row < PBk z n ↔ rst z row 0 < z 0 + 1 := by
  have e := PB_4 h0 (4 - n)
  rw [show n + (4 - n) = 4 by omega] at e
  rw [← e]
  show row < 1 * (z 0 + 1) * (z 1 + 1) * (z 2 + 1) * (z 3 + 1) ↔ row / (z 3 + 1) / (z 2 + 1) / (z 1 + 1) < z 0 + 1
  rw [Nat.div_lt_iff_lt_mul (by omega), Nat.div_lt_iff_lt_mul (by omega), Nat.div_lt_iff_lt_mul (by omega), Nat.one_mul]
theorem c4_up {f f' : Nat → Nat} {g d : Nat} (hg : g < 4) (h : ∀ j, j < 4 → j ≠ g → f' j = f j) (h1 : f' g = f g + d) : c4 f' = c4 f + d * 8 ^ g := by
  have p0 : 8 ^ 0 = 1 := rfl
  have p1 : 8 ^ 1 = 8 := rfl
  have p2 : 8 ^ 2 = 64 := rfl
  have p3 : 8 ^ 3 = 512 := rfl
  unfold c4 cd
  rcases (show g = 0 ∨ g = 1 ∨ g = 2 ∨ g = 3 by omega) with e | e | e | e
  · rw [e] at h h1 ⊢
    rw [p0, h 1 (by decide) (by decide), h 2 (by decide) (by decide), h 3 (by decide) (by decide), h1]; omega
  · rw [e] at h h1 ⊢
    rw [p1, h 0 (by decide) (by decide), h 2 (by decide) (by decide), h 3 (by decide) (by decide), h1]; omega
  · rw [e] at h h1 ⊢
    rw [p2, h 0 (by decide) (by decide), h 1 (by decide) (by decide), h 3 (by decide) (by decide), h1]; omega
  · rw [e] at h h1 ⊢
    rw [p3, h 0 (by decide) (by decide), h 1 (by decide) (by decide), h 2 (by decide) (by decide), h1]; omega
theorem nt_m : ∀ a, a < 64 → ∀ b, b < 64 → ∀ g, g < 4 → nI (64 * a + b) &&& ((7 <<< ((3 * nI g) &&& 31)) ^^^ (-1)) = nI (64 * a + b - dg (64 * a + b) g * 8 ^ g) := by decide +kernel
theorem nt_M {c g : Nat} (hc : c < 4096) (hg : g < 4) : nI c &&& ((7 <<< ((3 * nI g) &&& 31)) ^^^ (-1)) = nI (c - dg c g * 8 ^ g) := by
  have := nt_m (c / 64) (by omega) (c % 64) (by omega) g hg
  rw [show 64 * (c / 64) + c % 64 = c by omega] at this
  exact this
theorem nt_p : ∀ g, g < 4 → (1 : Int32) <<< ((3 * nI g) &&& 31) = nI (8 ^ g) := by decide +kernel
theorem tpr_hi {z : Nat → Nat} {i n g : Nat} (h0 : ∀ j, n ≤ j → z j = 0) (hg : n ≤ g) : tpr z i g = 0 := by
  have := tpr_le (z := z) (row := i) (g := g)
  rw [h0 g hg] at this
  omega
theorem sp_nextTops {Q : Int32 → mg_H → Prop} {h : mg_H} {k n i : Nat} {z t pr : Nat → Nat} (S : SR (mg_i h) k n z t pr) (hk : k < 2) (h23 : mg_i h 0 23 = nI k) (h24 : mg_i h 0 24 = nI n) (hi : i < PBk z n) (q1 : i + 1 < PBk z n → Q (nI (c4 (tpr z (i + 1)))) h) (q0 : i + 1 = PBk z n → Q nM h) : wp_nextTops Q (nI (c4 (tpr z i))) h := by
  have SHh := S.sh
  have hn4 := S.1
  have hz0 : ∀ j, n ≤ j → z j = 0 := fun j hj => (SHh.2.2 j hj).1
  have hz7 : ∀ j, z j ≤ 7 := fun j => (SHh.le j).1
  have hr0 := (PB_iff hn4 hz0).mp hi
  have i7 : ∀ j g, (if g ≤ j then tpr z i g else 0) ≤ 7 := fun j g => by
    have h1 := tpr_le (z := z) (row := i) (g := g)
    have h2 := hz7 g
    split <;> omega
  unfold wp_nextTops
  intro R9 c9
  rintro _ rfl
  rw [h24]
  by_cases n0 : n = 0
  · refine c9 _ _ _ (bq_t (by rw [n0]; decide) (q0 ?_))
    rw [n0] at hi ⊢
    have : PBk z 0 = 1 := rfl
    omega
  have step : ∀ j, j < n → rst z (i + 1) j = rst z i j + 1 → (∀ g, j < g → tpr z (i + 1) g = 0) → (tpr z i j = z j → R9 (nI (c4 (fun g => if g < j then tpr z i g else 0))) (nI j + (-1)) h) → R9 (nI (c4 (fun g => if g ≤ j then tpr z i g else 0))) (nI j) h := by
    intro j hj hr hz con
    have hc := cd_lt (i7 j 0) (i7 j 1) (i7 j 2) (i7 j 3)
    have hc : c4 (fun g => if g ≤ j then tpr z i g else 0) < 4096 := hc
    have hd : dg (c4 (fun g => if g ≤ j then tpr z i g else 0)) j = tpr z i j := by
      have := dg_cd (f := fun g => if g ≤ j then tpr z i g else 0) (fun g _ => i7 j g) j (by omega)
      rw [if_pos (Nat.le_refl j)] at this
      exact this
    have hle := tpr_le (z := z) (row := i) (g := j)
    have hzj := hz7 j
    have eT : ∀ r, tpr z r j = rst z r j % (z j + 1) := fun r => by unfold tpr; rw [if_pos (by omega)]
    have up := nm_up (R := rst z i j) (m := z j + 1) (by omega)
    refine c9 _ _ _ (bq_f (nI_nlt (b := 0) (Nat.zero_le j) (by omega)) ?_)
    unfold wp_topIn
    rw [dg_I (by omega) (by omega), hd]
    refine sp_of (s := k) (j := 1 + j) h23 (by rw [nl_1, nI_add]) (by omega) ?_
    rw [(S.2.2.1 j hj).1]
    by_cases hT : z j ≤ tpr z i j
    · refine bq_t (nI_le hT (by omega)) ?_
      rintro _ rfl _ rfl
      rw [nt_M hc (by omega), hd]
      have e9 := c4_up (f := fun g => if g < j then tpr z i g else 0) (f' := fun g => if g ≤ j then tpr z i g else 0) (g := j) (d := tpr z i j) (by omega) (fun g _ hne => by
        by_cases c : g < j
        · rw [if_pos c, if_pos (by omega)]
        · rw [if_neg c, if_neg (by omega)]) (by rw [if_pos (Nat.le_refl j), if_neg (Nat.lt_irrefl j), Nat.zero_add])
      rw [e9, Nat.add_sub_cancel]
      exact con (by omega)
    · refine bq_f (nI_ge (by omega) (by omega)) ?_
      rw [nt_p j (by omega), nI_add]
      have h1 := eT i
      obtain ⟨u1, u2⟩ := up.1 (by omega)
      have h2 := eT (i + 1)
      rw [hr, u1, ← h1] at h2
      have lo := rst_eq (z := z) (a := i + 1) (b := i) (j := j) (by omega) (by rw [hr]; exact u2)
      have e9 := c4_up (f := fun g => if g ≤ j then tpr z i g else 0) (f' := tpr z (i + 1)) (g := j) (d := 1) (by omega) (fun g hg4 hne => by
        by_cases c : g ≤ j
        · rw [if_pos c]
          unfold tpr
          rw [if_pos hg4, if_pos hg4, lo g (by omega)]
        · rw [if_neg c]
          exact hz g (by omega)) (by rw [if_pos (Nat.le_refl j)]; exact h2)
      rw [Nat.one_mul] at e9
      rw [← e9]
      refine q1 ((PB_iff hn4 hz0).mpr ?_)
      by_cases j0 : j = 0
      · rw [j0] at hr h1 hT
        rw [hr]
        rw [Nat.mod_eq_of_lt hr0] at h1
        omega
      · rw [lo 0 (by omega)]; exact hr0
  have key : ∀ j, j < n → rst z (i + 1) j = rst z i j + 1 → (∀ g, j < g → tpr z (i + 1) g = 0) → R9 (nI (c4 (fun g => if g ≤ j then tpr z i g else 0))) (nI j) h := by
    intro j
    induction j with
    | zero =>
      intro hj hr hz
      refine step 0 hj hr hz (fun hT => ?_)
      refine c9 _ _ _ (bq_t (by decide) (q0 ?_))
      have h1 : tpr z i 0 = rst z i 0 % (z 0 + 1) := by unfold tpr; rw [if_pos (by decide)]
      rw [Nat.mod_eq_of_lt hr0, hT] at h1
      have h2 : ¬ i + 1 < PBk z n := fun c => by
        have := (PB_iff hn4 hz0).mp c
        rw [hr] at this
        omega
      omega
    | succ j ih =>
      intro hj hr hz
      refine step (j + 1) hj hr hz (fun hT => ?_)
      have eT : ∀ r, tpr z r (j + 1) = rst z r (j + 1) % (z (j + 1) + 1) := fun r => by unfold tpr; rw [if_pos (by omega)]
      have up := (nm_up (R := rst z i (j + 1)) (m := z (j + 1) + 1) (by omega)).2 (by rw [← eT i]; omega)
      have e1 : nI (j + 1) + (-1) = nI j := by
        rw [← Int32.sub_eq_add_neg, nl_1, pk_sub (by omega), Nat.add_sub_cancel]
      rw [e1]
      have := ih (by omega) (by rw [rst_s (row := i + 1) (by omega), rst_s (row := i) (by omega), hr]; exact up.2) (fun g hg => by
        by_cases eg : g = j + 1
        · rw [eg, eT, hr]; exact up.1
        · exact hz g (by omega))
      have ef : (fun g => if g < j + 1 then tpr z i g else 0) = (fun g => if g ≤ j then tpr z i g else 0) := funext (fun g => by
        by_cases c : g ≤ j
        · rw [if_pos c, if_pos (by omega)]
        · rw [if_neg c, if_neg (by omega)])
      rw [ef]
      exact this
  rw [nl_1, pk_sub (by omega)]
  have top : ∀ r, rst z r (n - 1) = r := fun r => rst_top hn4 (by omega) hz0
  have := key (n - 1) (by omega) (by rw [top, top]) (fun g hg => tpr_hi hz0 (by omega))
  have ef : (fun g => if g ≤ n - 1 then tpr z i g else 0) = tpr z i := funext (fun g => by
    by_cases c : g ≤ n - 1
    · rw [if_pos c]
    · rw [if_neg c, tpr_hi hz0 (by omega)])
  rw [ef] at this
  exact this
/-- what is gathered of the first i rows -/
def ACR (h : mg_H) (n : Nat) (z : Nat → Nat) (F : Nat → Prop) (A : Nat → Nat → Prop) (x1 : Int32) (i : Nat) : Prop :=
  mg_i h 0 53 = nI (fb_ct (fun j => dcd (F j)) i) ∧
  (∀ g, g < 4 → isB (mg_i h 57 g) (fun u => g < n ∧ ∃ j, j < i ∧ F j ∧ tpr z j g = u)) ∧
  (∀ x, 1 ≤ x → x ≤ 40 → mg_i h 58 x = nI (fb_ct (fun j => dcd (F j ∧ A j x)) i)) ∧
  WNT F n z x1 i (mg_i h 0 54) ∧
  isB (mg_i h 0 55) (fun g => g < n ∧ ∃ j, j < i ∧ F j ∧ tpr z j g = z g) ∧
  isB (mg_i h 0 56) (fun g => g < n ∧ ∃ j, j < i ∧ F j ∧ tpr z j g = 0)
theorem ACR.mv {h h2 : mg_H} {n i : Nat} {z : Nat → Nat} {F : Nat → Prop} {A : Nat → Nat → Prop} {x1 : Int32} {L S : List Nat} (a : ACR h n z F A x1 i) (e : md L S h h2) (l57 : 57 ∉ L) (l58 : 58 ∉ L) (s53 : 53 ∉ S) (s54 : 54 ∉ S) (s55 : 55 ∉ S) (s56 : 56 ∉ S) : ACR h2 n z F A x1 i := by
  obtain ⟨a1, a2, a3, a4, a5, a6⟩ := a
  refine ⟨(e.2 53 s53).trans a1, fun g hg => ?_, fun x h1 h2 => (e.1 58 (by decide) l58 x).trans (a3 x h1 h2), ?_, ?_, ?_⟩
  · rw [e.1 57 (by decide) l57]; exact a2 g hg
  · rw [e.2 54 s54]; exact a4
  · rw [e.2 55 s55]; exact a5
  · rw [e.2 56 s56]; exact a6
theorem bit_K : ∀ k, k < 31 → (1 : Int32) <<< (nI k &&& 31) = nI (2 ^ k) := fun k hk => bit_I hk
set_option maxHeartbeats 2000000 in
theorem sp_noteFit {Q : mg_H → Prop} {h : mg_H} {k n i : Nat} {z t pr : Nat → Nat} {F : Nat → Prop} {A : Nat → Nat → Prop} {ra : Nat → Nat} {x1 : Int32} (S : SR (mg_i h) k n z t pr) (hk : k < 2) (h23 : mg_i h 0 23 = nI k) (h24 : mg_i h 0 24 = nI n) (hi : i < 4096) (hF : F i) (h38 : ∀ x, x ≤ 40 → mg_i h 38 x = nI (ra x) ∧ ra x < 16) (hA : ∀ x, 1 ≤ x → x ≤ 40 → (¬ ra x = 0 ↔ A i x)) (B : ACR h n z F A x1 i) (q : ∀ h', md [57, 58] [53, 54, 55, 56] h h' → ACR h' n z F A x1 (i + 1) → Q h') : wp_noteFit Q (nI (c4 (tpr z i))) x1 h := by
  have SHh := S.sh
  have hn4 := S.1
  have hz7 : ∀ j, z j ≤ 7 := fun j => (SHh.le j).1
  have hT7 : ∀ g, tpr z i g ≤ 7 := fun g => Nat.le_trans tpr_le (hz7 g)
  have hc : c4 (tpr z i) < 4096 := cd_lt (hT7 0) (hT7 1) (hT7 2) (hT7 3)
  have hd : ∀ g, g < 4 → dg (c4 (tpr z i)) g = tpr z i g := dg_cd (f := tpr z i) (fun g _ => hT7 g)
  obtain ⟨b53, b57, b58, b54, b55, b56⟩ := B
  have cnt := fb_ct_le (fun j => dcd (F j)) i
  unfold wp_noteFit
  intro R5 R127 R74 R143 R100 R173 c5 c127 c74 c143 c100 c173
  refine lp (σ := mg_H) (R := fun g s => R5 (nI (rno (tpr z i) g)) (nI g) s) (fun g s => md [57] [55, 56] h s ∧ (∀ g', g' < g → isB (mg_i s 57 g') (fun u => (g' < n ∧ ∃ j, j < i ∧ F j ∧ tpr z j g' = u) ∨ u = tpr z i g')) ∧ (∀ g', g ≤ g' → mg_i s 57 g' = mg_i h 57 g') ∧ isB (mg_i s 0 55) (fun b => (b < n ∧ ∃ j, j < i ∧ F j ∧ tpr z j b = z b) ∨ (b < g ∧ tpr z i b = z b)) ∧ isB (mg_i s 0 56) (fun b => (b < n ∧ ∃ j, j < i ∧ F j ∧ tpr z j b = 0) ∨ (b < g ∧ tpr z i b = 0))) 0 n (Nat.zero_le n) ?_ ?_ h ⟨md.rf, fun g' hg => absurd hg (Nat.not_lt_zero g'), fun _ _ => rfl, b55.congr (fun b => ⟨Or.inl, fun c => c.elim id (fun c => absurd c.1 (Nat.not_lt_zero b))⟩), b56.congr (fun b => ⟨Or.inl, fun c => c.elim id (fun c => absurd c.1 (Nat.not_lt_zero b))⟩)⟩
  · rintro s ⟨e, w57, o57, w55, w56⟩
    refine c5 _ _ _ (bq_t (by rw [e.2 24 (by decide), h24]; exact nI_le (Nat.le_refl n) (by omega)) ?_)
    have s53 : mg_i s 0 53 = nI (fb_ct (fun j => dcd (F j)) i) := (e.2 53 (by decide)).trans b53
    have s54 : mg_i s 0 54 = mg_i h 0 54 := e.2 54 (by decide)
    have go : ∀ v, WNT F n z x1 (i + 1) v → R127 v s := by
      intro v hv
      refine c127 _ _ ?_
      rintro _ rfl _ rfl
      rw [mi_place (by decide), s53, nI_1]
      have E1 : md [57, 58] [53, 54, 55, 56] h (mg_ui (mg_ui s 0 54 v) 0 53 (nI (fb_ct (fun j => dcd (F j)) i + 1))) := ((e.mono (by decide) (by decide)).u0 (by decide)).u0 (by decide)
      have f53 : mg_i (mg_ui (mg_ui s 0 54 v) 0 53 (nI (fb_ct (fun j => dcd (F j)) i + 1))) 0 53 = nI (fb_ct (fun j => dcd (F j)) i + 1) := mi_same
      have f54 : mg_i (mg_ui (mg_ui s 0 54 v) 0 53 (nI (fb_ct (fun j => dcd (F j)) i + 1))) 0 54 = v := by rw [mi_place (by decide), mi_same]
      have f55 : mg_i (mg_ui (mg_ui s 0 54 v) 0 53 (nI (fb_ct (fun j => dcd (F j)) i + 1))) 0 55 = mg_i s 0 55 := by rw [mi_place (by decide), mi_place (by decide)]
      have f56 : mg_i (mg_ui (mg_ui s 0 54 v) 0 53 (nI (fb_ct (fun j => dcd (F j)) i + 1))) 0 56 = mg_i s 0 56 := by rw [mi_place (by decide), mi_place (by decide)]
      have f57 : ∀ g, mg_i (mg_ui (mg_ui s 0 54 v) 0 53 (nI (fb_ct (fun j => dcd (F j)) i + 1))) 57 g = mg_i s 57 g := fun g => by rw [mi_ui, if_neg (fun c => absurd c.1 (by decide)), mi_ui, if_neg (fun c => absurd c.1 (by decide))]
      have f58 : ∀ g, mg_i (mg_ui (mg_ui s 0 54 v) 0 53 (nI (fb_ct (fun j => dcd (F j)) i + 1))) 58 g = mg_i h 58 g := fun g => by rw [mi_ui, if_neg (fun c => absurd c.1 (by decide)), mi_ui, if_neg (fun c => absurd c.1 (by decide))]; exact e.1 58 (by decide) (by decide) g
      revert E1 f53 f54 f55 f56 f57 f58
      generalize mg_ui (mg_ui s 0 54 v) 0 53 (nI (fb_ct (fun j => dcd (F j)) i + 1)) = s1
      intro E1 f53 f54 f55 f56 f57 f58
      refine lp (σ := mg_H) (R := fun x s2 => R143 (nI x) s2) (fun x s2 => md [58] [] s1 s2 ∧ (∀ y, 1 ≤ y → y < x → mg_i s2 58 y = nI (fb_ct (fun j => dcd (F j ∧ A j y)) (i + 1))) ∧ ∀ y, x ≤ y → mg_i s2 58 y = mg_i h 58 y) 1 41 (by decide) ?_ ?_ s1 ⟨md.rf, fun y h1 h2 => by omega, fun y _ => f58 y⟩
      · rintro s2 ⟨e2, w1, w2⟩
        refine c143 _ _ (bq_t (by decide) (q s2 (E1.tr (e2.mono (by decide) (by decide))) ⟨?_, fun g hg => ?_, fun x h1 h2 => w1 x h1 (by omega), ?_, ?_, ?_⟩))
        · rw [e2.2 53 (by decide), f53, ct_s, if_pos (dcd_iff.mpr hF)]
        · rw [e2.1 57 (by decide) (by decide), f57]
          by_cases hgn : g < n
          · refine (w57 g hgn).congr (fun u => ?_)
            rw [ex_s]
            constructor
            · rintro (⟨_, c1⟩ | c1)
              · exact ⟨hgn, Or.inl c1⟩
              · exact ⟨hgn, Or.inr ⟨hF, c1.symm⟩⟩
            · rintro ⟨_, c1 | c1⟩
              · exact Or.inl ⟨hgn, c1⟩
              · exact Or.inr c1.2.symm
          · rw [o57 g (by omega)]
            exact (b57 g hg).congr (fun u => ⟨fun c1 => absurd c1.1 hgn, fun c1 => absurd c1.1 hgn⟩)
        · rw [e2.2 54 (by decide), f54]; exact hv
        · rw [e2.2 55 (by decide), f55]
          refine w55.congr (fun b => ?_)
          rw [ex_s]
          constructor
          · rintro (⟨c0, c1⟩ | ⟨c0, c1⟩)
            · exact ⟨c0, Or.inl c1⟩
            · exact ⟨c0, Or.inr ⟨hF, c1⟩⟩
          · rintro ⟨c0, c1 | c1⟩
            · exact Or.inl ⟨c0, c1⟩
            · exact Or.inr ⟨c0, c1.2⟩
        · rw [e2.2 56 (by decide), f56]
          refine w56.congr (fun b => ?_)
          rw [ex_s]
          constructor
          · rintro (⟨c0, c1⟩ | ⟨c0, c1⟩)
            · exact ⟨c0, Or.inl c1⟩
            · exact ⟨c0, Or.inr ⟨hF, c1⟩⟩
          · rintro ⟨c0, c1 | c1⟩
            · exact Or.inl ⟨c0, c1⟩
            · exact Or.inr ⟨c0, c1.2⟩
      · rintro x s2 h1 hx ⟨e2, w1, w2⟩ ih2
        have r38 := h38 x (by omega)
        have e38 : mg_i s2 38 x = nI (ra x) := by rw [e2.1 38 (by decide) (by decide), E1.1 38 (by decide) (by decide)]; exact r38.1
        have fin : ∀ a, nI (fb_ct (fun j => dcd (F j ∧ A j x)) i) + a = nI (fb_ct (fun j => dcd (F j ∧ A j x)) (i + 1)) → R173 (nI x) a (nI (fb_ct (fun j => dcd (F j ∧ A j x)) i)) (nI x) s2 := by
          intro a ha
          refine c173 _ _ _ _ _ ⟨vp_in_nI (show x < 41 from hx) (by decide), ?_⟩
          rw [ha, nI_clamp (by omega)]
          rintro _ rfl _ rfl
          rw [nI_1]
          refine ih2 _ ⟨md.ui e2 (by decide) (by decide), fun y g1 g2 => ?_, fun y g1 => by rw [mi_place (by omega)]; exact w2 y (by omega)⟩
          by_cases ey : y = x
          · rw [ey, mi_same]
          · rw [mi_place ey]; exact w1 y g1 (by omega)
        refine c143 _ _ (bq_f (nI_ge (b := 41) hx (by decide)) ⟨vp_in_nI (show x < 41 from hx) (by decide), vp_in_nI (show x < 100 by omega) (by decide), ?_⟩)
        rw [nI_clamp (by omega), e38, w2 x (Nat.le_refl x), b58 x h1 (by omega)]
        have ct1 : fb_ct (fun j => dcd (F j ∧ A j x)) (i + 1) = fb_ct (fun j => dcd (F j ∧ A j x)) i + (if dcd (F i ∧ A i x) = true then 1 else 0) := rfl
        by_cases r0 : ra x = 0
        · refine bq_t (by rw [r0]; rfl) (fin _ ?_)
          rw [ct1, if_neg (by rw [dcd_iff]; exact fun c1 => (hA x h1 (by omega)).mpr c1.2 r0), nl_0, nI_add]
        · refine bq_f (fun c => r0 ((nI_eq (b := 0) (by omega) (by decide)).mp c)) (fin _ ?_)
          rw [ct1, if_pos (dcd_iff.mpr ⟨hF, (hA x h1 (by omega)).mp r0⟩), nl_1, nI_add]
    rw [s53]
    by_cases hx : nI (fb_ct (fun j => dcd (F j)) i) = x1
    · exact bq_nf hx (go _ (Or.inr ⟨i, by omega, hF, hx, rfl⟩))
    · refine bq_nt hx ?_
      rw [s54]
      exact go _ (WNT_no b54 (Or.inr hx))
  · rintro g s _ hg ⟨e, w57, o57, w55, w56⟩ ih
    have hz := hz7 g
    have hT := hT7 g
    refine c5 _ _ _ (bq_f (by rw [e.2 24 (by decide), h24]; exact nI_ge hg (by omega)) ?_)
    unfold wp_topIn
    dsimp only
    rw [dg_I (by omega) (by omega), hd g (by omega), nI_clamp (by omega), bit_K (tpr z i g) (by omega), bit_K g (by omega), o57 g (Nat.le_refl g)]
    rintro _ rfl
    refine ⟨vp_in_nI (show g < 4 by omega) (by decide), vp_in_nI (show g < 4 by omega) (by decide), ?_⟩
    have E2 : md [57] [55, 56] h (mg_ui s 57 g (mg_i h 57 g ||| nI (2 ^ tpr z i g))) := md.ui e (by decide) (by decide)
    have f57 : ∀ g', mg_i (mg_ui s 57 g (mg_i h 57 g ||| nI (2 ^ tpr z i g))) 57 g' = if g' = g then mg_i h 57 g ||| nI (2 ^ tpr z i g) else mg_i s 57 g' := fun g' => by
      by_cases c : g' = g
      · rw [if_pos c, c, mi_same]
      · rw [if_neg c, mi_place c]
    have f55 : mg_i (mg_ui s 57 g (mg_i h 57 g ||| nI (2 ^ tpr z i g))) 0 55 = mg_i s 0 55 := by rw [mi_ui, if_neg (fun c => absurd c.1 (by decide))]
    have f56 : mg_i (mg_ui s 57 g (mg_i h 57 g ||| nI (2 ^ tpr z i g))) 0 56 = mg_i s 0 56 := by rw [mi_ui, if_neg (fun c => absurd c.1 (by decide))]
    intro h6 eh6
    rw [← eh6] at E2 f55 f56
    rw [← eh6] at f57
    clear eh6
    refine sp_of (s := k) (j := 1 + g) ((E2.2 23 (by decide)).trans h23) (by rw [nl_1, nI_add]) (by omega) ?_
    rw [E2.1 6 (by decide) (by decide), (S.2.2.1 g hg).1]
    have fin2 : ∀ a b, isB a (fun b => b = g ∧ tpr z i g = z g) → isB b (fun b => b = g ∧ tpr z i g = 0) → ∀ s4, md [57] [55, 56] h s4 → (∀ g', mg_i s4 57 g' = mg_i h6 57 g') → isB (mg_i s4 0 55) (fun b => (b < n ∧ ∃ j, j < i ∧ F j ∧ tpr z j b = z b) ∨ (b < g + 1 ∧ tpr z i b = z b)) → mg_i s4 0 56 = mg_i s 0 56 → R100 (nI (rno (tpr z i) (g + 1))) (nI g) b (mg_i s 0 56) s4 := by
      intro a b _ hb s4 e4 k57 k55 k56
      refine c100 _ _ _ _ _ ?_
      rintro _ rfl _ rfl
      rw [nI_1]
      refine ih _ ⟨e4.u0 (by decide), fun g' hg' => ?_, fun g' hg' => ?_, ?_, ?_⟩
      · rw [mi_ui, if_neg (fun c => absurd c.1 (by decide)), k57, f57]
        by_cases c : g' = g
        · rw [if_pos c, c]
          exact isB_or (b57 g (by omega)) (isB_bit (by omega))
        · rw [if_neg c]; exact w57 g' (by omega)
      · rw [mi_ui, if_neg (fun c => absurd c.1 (by decide)), k57, f57, if_neg (by omega)]
        exact o57 g' (by omega)
      · rw [mi_place (by decide)]; exact k55
      · rw [mi_same]
        refine (isB_or w56 hb).congr (fun b => ?_)
        constructor
        · rintro ((c | c) | c)
          · exact Or.inl c
          · exact Or.inr ⟨by omega, c.2⟩
          · exact Or.inr ⟨by omega, by rw [c.1]; exact c.2⟩
        · rintro (c | c)
          · exact Or.inl (Or.inl c)
          · by_cases eg : b = g
            · exact Or.inr ⟨eg, by rw [← eg]; exact c.2⟩
            · exact Or.inl (Or.inr ⟨by omega, c.2⟩)
    have fin1 : ∀ a, isB a (fun b => b = g ∧ tpr z i g = z g) → R74 (nI (rno (tpr z i) (g + 1))) (nI g) a (mg_i s 0 55) h6 := by
      intro a ha
      refine c74 _ _ _ _ _ ?_
      intro h13 e13
      have E3 : md [57] [55, 56] h h13 := by rw [e13]; exact E2.u0 (by decide)
      have k57 : ∀ g', mg_i h13 57 g' = mg_i h6 57 g' := fun g' => by rw [e13, mi_ui, if_neg (fun c => absurd c.1 (by decide))]
      have k56 : mg_i h13 0 56 = mg_i s 0 56 := by rw [e13, mi_place (by decide)]; exact f56
      have k55 : isB (mg_i h13 0 55) (fun b => (b < n ∧ ∃ j, j < i ∧ F j ∧ tpr z j b = z b) ∨ (b < g + 1 ∧ tpr z i b = z b)) := by
        rw [e13, mi_same]
        refine (isB_or w55 ha).congr (fun b => ?_)
        constructor
        · rintro ((c | c) | c)
          · exact Or.inl c
          · exact Or.inr ⟨by omega, c.2⟩
          · exact Or.inr ⟨by omega, by rw [c.1]; exact c.2⟩
        · rintro (c | c)
          · exact Or.inl (Or.inl c)
          · by_cases eg : b = g
            · exact Or.inr ⟨eg, by rw [← eg]; exact c.2⟩
            · exact Or.inl (Or.inr ⟨by omega, c.2⟩)
      try unfold wp_topIn
      rw [dg_I (by omega) (by omega), hd g (by omega), k56, bit_K g (by omega)]
      by_cases c0 : tpr z i g = 0
      · exact bq_nf (by rw [c0]; rfl) (fin2 a _ ha ((isB_bit (by omega)).congr (fun b => ⟨fun c => ⟨c, c0⟩, fun c => c.1⟩)) h13 E3 k57 k55 k56)
      · exact bq_nt (fun c => c0 ((nI_eq (b := 0) (by omega) (by decide)).mp c)) (fin2 a _ ha (isB_0 (fun b c => c0 c.2)) h13 E3 k57 k55 k56)
    have er : 10 * nI (rno (tpr z i) g) + nI (tpr z i g) = nI (rno (tpr z i) (g + 1)) := by
      rw [nl_10, pk_mul, nI_add, Nat.mul_comm]; rfl
    rw [er, f55]
    by_cases cz : tpr z i g = z g
    · exact bq_nf (by rw [cz]) (fin1 _ ((isB_bit (by omega)).congr (fun b => ⟨fun c => ⟨c, cz⟩, fun c => c.1⟩)))
    · exact bq_nt (fun c => cz ((nI_eq (by omega) (by omega)).mp c)) (fin1 _ (isB_0 (fun b c => cz c.2)))
theorem TP_dg {z : Nat → Nat} {i : Nat} (hz : ∀ j, z j ≤ 7) : dg (c4 (tpr z i)) = tpr z i := funext (fun g => by
  have h7 : ∀ g, tpr z i g ≤ 7 := fun g => Nat.le_trans tpr_le (hz g)
  by_cases c : g < 4
  · exact dg_cd (f := tpr z i) (fun g _ => h7 g) g c
  · rw [dg_hi (show c4 (tpr z i) < 4096 from cd_lt (h7 0) (h7 1) (h7 2) (h7 3)) (show 4 ≤ g by omega)]
    unfold tpr
    rw [if_neg c])
theorem tpr_0 {z : Nat → Nat} : tpr z 0 = fun _ => 0 := funext (fun g => by
  unfold tpr
  by_cases c : g < 4
  · rw [if_pos c]
    have : rst z 0 g ≤ 0 := rst_le
    rw [show rst z 0 g = 0 by omega, Nat.zero_mod]
  · rw [if_neg c])
def lF : List Nat := [25, 26, 30, 31, 32, 33, 34, 35, 36, 53, 54, 55, 56]
set_option maxHeartbeats 2000000 in
theorem sp_findTops {Q : mg_H → Prop} {h : mg_H} {k n o m l c : Nat} {z t pr kd yy mi gl : Nat → Nat} {x1 : Int32} (S : SR (mg_i h) k n z t pr) (hk : k < 2) (h23 : mg_i h 0 23 = nI k) (h24 : mg_i h 0 24 = nI n) (h25 : mg_i h 0 25 = nI (2 ^ n - 1)) (h29 : mg_i h 0 29 = nI o) (ho : o < 2) (D : DY (mg_i h) o m kd yy) (h52 : mg_i h 0 52 = nI l) (hl : l < 2) (L : LGr (mg_i h) l c mi gl) (q : ∀ h', md [27, 28, 37, 38, 57, 58] lF h h' → ACR h' n z (cFt n m c z kd yy mi gl) (cAn n m z kd yy) x1 (PBk z n) → Q h') : wp_findTops Q x1 h := by
  have SHh := S.sh
  have hn4 := S.1
  have hz7 : ∀ j, z j ≤ 7 := fun j => (SHh.le j).1
  have hz0 : ∀ j, n ≤ j → z j = 0 := fun j hj => (SHh.2.2 j hj).1
  have hPB := PBk_b hz7 n
  have h84 : 8 ^ n ≤ 8 ^ 4 := Nat.pow_le_pow_right (by decide) hn4
  unfold wp_findTops
  intro R23 R43 R64 R87 c23 c43 c64 c87
  intro g1 e1 g2 e2 g3 e3 g4 e4
  have E4 : md [27, 28, 37, 38, 57, 58] lF h g4 := by
    rw [e4, e3, e2, e1]
    exact (((md.rf.u0 (by decide)).u0 (by decide)).u0 (by decide)).u0 (by decide)
  have f53 : mg_i g4 0 53 = nI 0 := by rw [e4, e3, e2, e1, mi_place (by decide), mi_place (by decide), mi_place (by decide), mi_same]; rfl
  have f54 : mg_i g4 0 54 = nM2 := by rw [e4, e3, e2, mi_place (by decide), mi_place (by decide), mi_same]; rfl
  have f55 : mg_i g4 0 55 = nI 0 := by rw [e4, e3, mi_place (by decide), mi_same]; rfl
  have f56 : mg_i g4 0 56 = nI 0 := by rw [e4, mi_same]; rfl
  have f25 : mg_i g4 0 25 = mg_i h 0 25 := by rw [e4, e3, e2, e1, mi_place (by decide), mi_place (by decide), mi_place (by decide), mi_place (by decide)]
  clear e1 e2 e3 e4
  refine lp (σ := mg_H) (R := fun j s => R23 (nI j) s) (fun j s => md [57] [] g4 s ∧ ∀ i, i < j → mg_i s 57 i = nI 0) 0 4 (by decide) ?_ ?_ g4 ⟨md.rf, fun i hi => absurd hi (Nat.not_lt_zero i)⟩
  · rintro s ⟨e, z57⟩
    refine c23 _ _ (bq_t (by decide) ?_)
    refine lp (σ := mg_H) (R := fun j s => R43 (nI j) s) (fun j s2 => md [58] [] s s2 ∧ ∀ i, i < j → mg_i s2 58 i = nI 0) 0 41 (by decide) ?_ ?_ s ⟨md.rf, fun i hi => absurd hi (Nat.not_lt_zero i)⟩
    · rintro s2 ⟨e2, z58⟩
      refine c43 _ _ (bq_t (by decide) ?_)
      have E2 : md [27, 28, 37, 38, 57, 58] lF h s2 := (E4.tr (e.mono (by decide) (by decide))).tr (e2.mono (by decide) (by decide))
      have B0 : ACR s2 n z (cFt n m c z kd yy mi gl) (cAn n m z kd yy) x1 0 := by
        refine ⟨?_, fun g hg => ?_, fun x h1 h2 => ?_, Or.inl ⟨?_, fun j hj => absurd hj (Nat.not_lt_zero j)⟩, ?_, ?_⟩
        · rw [e2.2 53 (by decide), e.2 53 (by decide)]; exact f53
        · rw [e2.1 57 (by decide) (by decide), z57 g hg]
          exact isB_0 (fun i c => by obtain ⟨_, j, hj, _⟩ := c; exact absurd hj (Nat.not_lt_zero j))
        · rw [z58 x (by omega)]; rfl
        · rw [e2.2 54 (by decide), e.2 54 (by decide)]; exact f54
        · rw [e2.2 55 (by decide), e.2 55 (by decide), f55]
          exact isB_0 (fun i c => by obtain ⟨_, j, hj, _⟩ := c; exact absurd hj (Nat.not_lt_zero j))
        · rw [e2.2 56 (by decide), e.2 56 (by decide), f56]
          exact isB_0 (fun i c => by obtain ⟨_, j, hj, _⟩ := c; exact absurd hj (Nat.not_lt_zero j))
      have s25 : mg_i s2 0 25 = nI (2 ^ n - 1) := by
        rw [e2.2 25 (by decide), e.2 25 (by decide)]
        exact f25.trans h25
      have fin : ∀ s3 v, ((v = nM) ∧ ACR s3 n z (cFt n m c z kd yy mi gl) (cAn n m z kd yy) x1 (PBk z n) ∧ md [27, 28, 37, 38, 57, 58] lF h s3) → R64 v s3 := fun s3 v ⟨ev, B, e3⟩ => c64 _ _ (bq_t (by rw [ev]; rfl) (q s3 e3 B))
      have key : R64 (nI (c4 (tpr z 0))) s2 := by
        have r : R64 (if 0 < PBk z n then nI (c4 (tpr z 0)) else nM) s2 := by
          refine lp (σ := mg_H) (R := fun i s3 => R64 (if i < PBk z n then nI (c4 (tpr z i)) else nM) s3) (fun i s3 => md [27, 28, 37, 38, 57, 58] lF h s3 ∧ mg_i s3 0 25 = nI (2 ^ n - 1) ∧ ACR s3 n z (cFt n m c z kd yy mi gl) (cAn n m z kd yy) x1 i) 0 (PBk z n) (Nat.zero_le _) ?_ ?_ s2 ⟨E2, s25, B0⟩
          · rintro s3 ⟨e3, _, B⟩
            rw [if_neg (Nat.lt_irrefl _)]
            exact fin s3 _ ⟨rfl, B, e3⟩
          · rintro i s3 _ hi ⟨e3, t25, B⟩ ih
            rw [if_pos hi]
            have hc : okc z (c4 (tpr z i)) := c4_ok (fun g _ => hz7 g) (fun j _ => tpr_le)
            have hc4 := hc.1
            have S3 := SRx S (e3.same (by decide))
            have D3 := DYx D (e3.same (by decide))
            have L3 := LGx L (e3.same (by decide))
            refine c64 _ _ (bq_f (by rw [nl_m1, nI_eqM (by omega)]; exact id) ?_)
            refine sp_playBy S3 hk ((e3.2 23 (by decide)).trans h23) ((e3.2 24 (by decide)).trans h24) t25 ((e3.2 29 (by decide)).trans h29) ho D3 hc (fun s4 v e4 u25 Fv D4 => ?_)
            have E4' : md [27, 28, 37, 38, 57, 58] lF h s4 := e3.tr (e4.mono (by decide) (by decide))
            rw [TP_dg hz7] at Fv D4
            have SD : SH n z (tpr z i) := by
              have := SH_dg SHh hc
              rw [TP_dg hz7] at this
              exact this
            have KF : wK n (0 + v) (wF n kd yy z (tpr z i) v) := wI_K (wT_K (w0_K SD) v) _ (by have := (wT_K (kd := kd) (yy := yy) (w0_K SD) v).2.2.1; omega)
            have d38 := D4.2.2.2.2.2.2.2.2.2
            have hra : ∀ x, (wF n kd yy z (tpr z i) v).2.2.2.2.2.2.2 x < 16 := KF.2.2.2.2.2.2.2.2.2
            have L4 := LGx L (E4'.same (by decide))
            have hgl : ∀ j, j < c → gl j ≤ 3 ∨ gl j = 9 := fun j hj => (L.2.2 j hj).2.2.2.2
            have fi := FIT_iff (m := m) (c := c) (mi := mi) hn4 hgl Fv
            have an := fun x => ANY_iff (x := x) Fv
            have B4 : ACR s4 n z (cFt n m c z kd yy mi gl) (cAn n m z kd yy) x1 i := B.mv e4 (by decide) (by decide) (by decide) (by decide) (by decide) (by decide)
            revert d38 hra fi an
            generalize (wF n kd yy z (tpr z i) v).2.2.2.2.2.2.2 = ra
            intro d38 hra fi an
            have nx : ∀ s5, md [27, 28, 37, 38, 57, 58] lF h s5 → mg_i s5 0 25 = nI (2 ^ n - 1) → ACR s5 n z (cFt n m c z kd yy mi gl) (cAn n m z kd yy) x1 (i + 1) → R87 (nI (c4 (tpr z i))) s5 := by
              intro s5 e5 v25 B5
              refine c87 _ _ ?_
              refine sp_nextTops (SRx S (e5.same (by decide))) hk ((e5.2 23 (by decide)).trans h23) ((e5.2 24 (by decide)).trans h24) hi (fun hlt => ?_) (fun heq => ?_)
              · have := ih s5 ⟨e5, v25, B5⟩
                rw [if_pos hlt] at this
                exact this
              · rw [heq] at B5
                exact fin s5 _ ⟨rfl, B5, e5⟩
            refine sp_isSoW ((E4'.2 52 (by decide)).trans h52) hl L4 d38 hra (fun hF => bq_f (by decide) ?_) (fun hF => bq_t rfl ?_)
            · have hF := fi.mp hF
              refine sp_noteFit (ra := ra) (SRx S (E4'.same (by decide))) hk ((E4'.2 23 (by decide)).trans h23) ((E4'.2 24 (by decide)).trans h24) (by omega) hF (fun x hx => ⟨d38 x (by omega), hra x⟩) (fun x _ _ => an x) B4 (fun s5 e5 B5 => ?_)
              exact nx s5 (E4'.tr (e5.mono (by decide) (by decide))) ((e5.2 25 (by decide)).trans u25) B5
            · have hF := fun c => hF (fi.mpr c)
              obtain ⟨b1, b2, b3, b4, b5, b6⟩ := B4
              refine nx s4 E4' u25 ⟨?_, fun g hg => ?_, fun x h1 h2 => ?_, WNT_no b4 (Or.inl hF), ?_, ?_⟩
              · rw [b1, ct_s, if_neg (by rw [dcd_iff]; exact hF), Nat.add_zero]
              · refine (b2 g hg).congr (fun u => ?_)
                rw [ex_s]
                exact ⟨fun c1 => ⟨c1.1, Or.inl c1.2⟩, fun c1 => ⟨c1.1, c1.2.elim id (fun c2 => absurd c2.1 hF)⟩⟩
              · show _ = nI (fb_ct (fun j => dcd (cFt n m c z kd yy mi gl j ∧ cAn n m z kd yy j x)) i + (if dcd (cFt n m c z kd yy mi gl i ∧ cAn n m z kd yy i x) = true then 1 else 0))
                rw [if_neg (by rw [dcd_iff]; exact fun c1 => hF c1.1), Nat.add_zero]
                exact b3 x h1 h2
              · refine b5.congr (fun u => ?_)
                rw [ex_s]
                exact ⟨fun c1 => ⟨c1.1, Or.inl c1.2⟩, fun c1 => ⟨c1.1, c1.2.elim id (fun c2 => absurd c2.1 hF)⟩⟩
              · refine b6.congr (fun u => ?_)
                rw [ex_s]
                exact ⟨fun c1 => ⟨c1.1, Or.inl c1.2⟩, fun c1 => ⟨c1.1, c1.2.elim id (fun c2 => absurd c2.1 hF)⟩⟩
        rw [if_pos (show 0 < PBk z n by omega)] at r
        exact r
      rw [tpr_0] at key
      exact key
    · rintro j s2 _ hj ⟨e2, z58⟩ ih
      refine c43 _ _ (bq_f (nI_ge (b := 41) hj (by decide)) ⟨vp_in_nI (show j < 41 from hj) (by decide), ?_⟩)
      rintro _ rfl _ rfl
      rw [nI_1, nI_clamp (by omega)]
      refine ih _ ⟨md.ui e2 (by decide) (by decide), fun i hi => ?_⟩
      by_cases ei : i = j
      · rw [ei, mi_same]; rfl
      · rw [mi_place ei]; exact z58 i (by omega)
  · rintro j s _ hj ⟨e, z57⟩ ih
    refine c23 _ _ (bq_f (nI_ge (b := 4) hj (by decide)) ⟨vp_in_nI (show j < 4 from hj) (by decide), ?_⟩)
    rintro _ rfl _ rfl
    rw [nI_1, nI_clamp (by omega)]
    refine ih _ ⟨md.ui e (by decide) (by decide), fun i hi => ?_⟩
    by_cases ei : i = j
    · rw [ei, mi_same]; rfl
    · rw [mi_place ei]; exact z57 i (by omega)
