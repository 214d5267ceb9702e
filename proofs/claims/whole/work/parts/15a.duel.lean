/-! reference: rows of sets by sixteens, duel -/
/-- the digits (by sixteens) of a prefix of j sets are sets of m -/
def pvl (m : Nat) : Nat → Nat → Prop
  | 0, _ => True
  | j + 1, x => pvl m j (x / 16) ∧ x % 16 ≤ m
/-- minutes, code, and whether anything still runs behind a prefix of j sets -/
def pst (z : Nat → Nat) (c0 : Nat) : Nat → Nat → Nat × Nat × Bool
  | 0, _ => (0, c0, true)
  | j + 1, x => if (pst z c0 j (x / 16)).2.2 = true ∧ 0 < dl z (pst z c0 j (x / 16)).2.1 (x % 16) then ((pst z c0 j (x / 16)).1 + dl z (pst z c0 j (x / 16)).2.1 (x % 16), nc z (pst z c0 j (x / 16)).2.1 (x % 16), true) else ((pst z c0 j (x / 16)).1, (pst z c0 j (x / 16)).2.1, false)
theorem pst_ok {z : Nat → Nat} {c0 : Nat} (hz : zok z) (hc : okc z c0) : ∀ j x, okc z (pst z c0 j x).2.1 ∧ (pst z c0 j x).1 ≤ 7 * j
  | 0, _ => ⟨hc, Nat.le_refl _⟩
  | j + 1, x => by
    obtain ⟨h1, h2⟩ := pst_ok hz hc j (x / 16)
    have h3 := dl_le (c := (pst z c0 j (x / 16)).2.1) (s := x % 16) hz
    simp only [pst]
    split
    · exact ⟨nc_ok hz h1, by (try simp only); omega⟩
    · exact ⟨h1, by (try simp only); omega⟩
theorem pvl_pre {m k : Nat} : ∀ d x, pvl m (k + d) x → pvl m k (x / 16 ^ d)
  | 0, x, h => by rw [Nat.pow_zero, Nat.div_one]; exact h
  | d + 1, x, h => by
    have h2 := pvl_pre (m := m) (k := k) d (x / 16) h.1
    rw [Nat.div_div_eq_div_mul] at h2
    rw [show 16 ^ (d + 1) = 16 * 16 ^ d by rw [Nat.pow_succ, Nat.mul_comm]]
    exact h2
theorem sp_endOf {Q : Int32 → mg_H → Prop} {h : mg_H} {z : Nat → Nat} {n l x c0 : Nat} (hz : zok z) (hc : okc z c0) (hn : n ≤ 4) (H : HS h z (2 ^ n - 1) c0) (hl : l ≤ 4) (hx : x < 16 ^ l) (q1 : ∀ h', md [] [39] h h' → pvl (2 ^ n - 1) l x → Q (nI (pst z c0 l x).1) h') (q0 : ∀ h', md [] [39] h h' → ¬ pvl (2 ^ n - 1) l x → Q nM h') : wp_endOf Q (nI l) (nI x) h := by
  have hx31 : x < 65536 := Nat.lt_of_lt_of_le hx (Nat.le_trans (Nat.pow_le_pow_right (by decide) hl) (by decide))
  have hp := pow_n hn
  have hp1 := Nat.two_pow_pos n
  unfold wp_endOf
  intro R14 R65 R77 R99 c14 c65 c77 c99
  rintro _ rfl
  obtain ⟨P, hP⟩ : ∃ P : Nat → Nat × Nat × Bool, ∀ k, P k = pst z c0 k (x / 16 ^ (l - k)) := ⟨_, fun _ => rfl⟩
  obtain ⟨V, hV⟩ : ∃ V : Nat → Prop, ∀ k, V k ↔ pvl (2 ^ n - 1) k (x / 16 ^ (l - k)) := ⟨_, fun _ => Iff.rfl⟩
  have e0 : P 0 = (0, c0, true) := hP 0
  have main : R14 (nI (P 0).2.1) (nI (P 0).1) (lt32 (P 0).2.2) (nI 0) h := by
    refine lp (σ := mg_H) (R := fun k g => R14 (nI (P k).2.1) (nI (P k).1) (lt32 (P k).2.2) (nI k) g) (fun k g => md [] [39] h g ∧ V k) 0 l (Nat.zero_le l) ?_ ?_ h ⟨md.rf, (hV 0).mpr trivial⟩
    · rintro g ⟨e, hv⟩
      have h1 := (hV l).mp hv
      have h2 := hP l
      rw [Nat.sub_self, Nat.pow_zero, Nat.div_one] at h1 h2
      refine c14 _ _ _ _ _ (bq_t (nI_le (Nat.le_refl l) (by omega)) ?_)
      rw [h2]
      exact q1 g e h1
    · rintro k g _ hk ⟨e, hv⟩ ih
      have hy1 : x / 16 ^ (l - (k + 1)) / 16 = x / 16 ^ (l - k) := by
        rw [Nat.div_div_eq_div_mul, ← Nat.pow_succ, show (l - (k + 1)).succ = l - k by omega]
      obtain ⟨s, es⟩ : ∃ s, s = x / 16 ^ (l - (k + 1)) % 16 := ⟨_, rfl⟩
      have hs16 : s < 16 := by rw [es]; exact Nat.mod_lt _ (by decide)
      have hdg : (nI x >>> ((4 * ((nI l - 1) - nI k)) &&& 31)) &&& 15 = nI s := by
        rw [nl_1, pk_sub (by omega), pk_sub (by omega), nl_4, pk_mul, nl_31, m31 (by omega), sr_I (by omega) (by omega), nl_15, m15, Nat.pow_mul, show (2 : Nat) ^ 4 = 16 from rfl, es, show l - 1 - k = l - (k + 1) by omega]
      have hok := pst_ok hz hc k (x / 16 ^ (l - k))
      rw [← hP k] at hok
      have hPs : P (k + 1) = if (P k).2.2 = true ∧ 0 < dl z (P k).2.1 s then ((P k).1 + dl z (P k).2.1 s, nc z (P k).2.1 s, true) else ((P k).1, (P k).2.1, false) := by
        rw [hP (k + 1), hP k, ← hy1, es]; rfl
      have hVs : V (k + 1) ↔ V k ∧ s ≤ 2 ^ n - 1 := by
        rw [hV (k + 1), hV k, ← hy1, es]; exact Iff.rfl
      have hd7 := dl_le (c := (P k).2.1) (s := s) hz
      refine c14 _ _ _ _ _ (bq_f (nI_ge hk (by omega)) ?_)
      intro z2 ez2
      rw [hdg] at ez2
      subst ez2
      have k25 : mg_i g 0 25 = nI (2 ^ n - 1) := (e.2 25 (by decide)).trans H.2.1
      rw [k25]
      by_cases hsm : s ≤ 2 ^ n - 1
      · refine bq_t ((sb_I s hs16 _ (by omega)).mpr (sb_full.mpr hsm)) ?_
        have stay : ∀ g', md [] [39] h g' → ¬ ((P k).2.2 = true ∧ 0 < dl z (P k).2.1 s) → R65 (nI (P k).2.1) (nI (P k).1) (nI k) (nI 0) g' := by
          intro g' e' hno
          have := ih g' ⟨e', hVs.mpr ⟨hv, hsm⟩⟩
          try dsimp only at this
          rw [hPs, if_neg hno] at this
          refine c65 _ _ _ _ _ (bq_t (by decide) (c77 _ _ _ _ _ _ ?_))
          rw [nI_add, Nat.add_zero]
          rintro _ rfl
          refine bq_t rfl (c99 _ _ _ _ _ ?_)
          rintro _ rfl
          rw [nI_1]
          exact this
        cases hr : (P k).2.2
        · exact bq_t rfl (stay g e (fun q => by rw [hr] at q; cases q.1))
        · refine bq_f (by decide) (sp_next hz (fun j hj => (e.1 27 (by decide) (by decide) j).trans (H.1 j hj)) hok.1 hs16 (fun d0 => stay g e (fun q => by omega)) (fun d0 => ?_))
          have := ih (mg_ui g 0 39 (nI (nc z (P k).2.1 s))) ⟨e.u0 (by decide), hVs.mpr ⟨hv, hsm⟩⟩
          try dsimp only at this
          rw [hPs, if_pos ⟨hr, d0⟩] at this
          refine c65 _ _ _ _ _ (bq_f (nI_ge (a := 0) d0 (by omega)) (c77 _ _ _ _ _ _ ?_))
          rintro _ rfl
          refine bq_f (by decide) (c99 _ _ _ _ _ ?_)
          rintro _ rfl
          rw [nI_1, mi_same, nI_add]
          exact this
      · refine bq_f (fun c => hsm (sb_full.mp ((sb_I s hs16 _ (by omega)).mp c))) (q0 g e (fun hpv => ?_))
        have := pvl_pre (m := 2 ^ n - 1) (k := k + 1) (l - (k + 1)) x (by rw [show k + 1 + (l - (k + 1)) = l by omega]; exact hpv)
        exact hsm (hVs.mp ((hV (k + 1)).mpr this)).2
  rw [e0] at main
  rw [H.2.2]
  exact main
theorem bst_add {late : Bool} {f : Nat → Nat} {a : Nat} : ∀ k, 0 < k → bst late (fun s => a + f s) k = (a + (bst late f k).1, (bst late f k).2)
  | 0, h => absurd h (Nat.lt_irrefl 0)
  | k + 1, _ => by
    rcases Nat.eq_zero_or_pos k with h0 | h0
    · subst h0
      simp [bst]
    · have ih := bst_add (late := late) (f := f) (a := a) k h0
      simp only [bst]
      rw [ih]
      by_cases hc : k = 0 ∨ (late = true ∧ (bst late f k).1 < f k) ∨ (late = false ∧ f k < (bst late f k).1)
      · rw [if_pos hc, if_pos (hc.imp id (fun q => q.imp (fun q => ⟨q.1, by (try simp only); omega⟩) (fun q => ⟨q.1, by (try simp only); omega⟩)))]
      · rw [if_neg hc, if_neg (fun hn => hc (hn.imp id (fun q => q.imp (fun q => ⟨q.1, by have := q.2; simp only at this; omega⟩) (fun q => ⟨q.1, by have := q.2; simp only at this; omega⟩))))]
theorem bst_cst {late : Bool} {a : Nat} : ∀ k, 0 < k → bst late (fun _ => a) k = (a, 0)
  | 0, h => absurd h (Nat.lt_irrefl 0)
  | k + 1, _ => by
    rcases Nat.eq_zero_or_pos k with h0 | h0
    · subst h0
      simp [bst]
    · have ih := bst_cst (late := late) (a := a) k h0
      simp only [bst]
      rw [ih, if_neg]
      rintro (h | ⟨_, h⟩ | ⟨_, h⟩)
      · omega
      · exact absurd h (Nat.lt_irrefl a)
      · exact absurd h (Nat.lt_irrefl a)
/-- what is told at the end behind a prefix of j sets, l sets in all -/
def LV (z : Nat → Nat) (m c0 l j x : Nat) : Nat := (pst z c0 j x).1 + (if (pst z c0 j x).2.2 = true then (dm z m (l - j) (j % 2 == 0) (pst z c0 j x).2.1).1 else 0)
theorem par_s (j : Nat) : ((j + 1) % 2 == 0) = !(j % 2 == 0) := by
  rcases Nat.mod_two_eq_zero_or_one j with h | h
  · rw [show (j + 1) % 2 = 1 by omega, h]; rfl
  · rw [show (j + 1) % 2 = 0 by omega, h]; rfl
theorem LV_bst {z : Nat → Nat} {m c0 l j x : Nat} (hm : m < 16) (hj : j < l) : (bst (j % 2 == 0) (fun s => LV z m c0 l (j + 1) (16 * x + s)) (m + 1)).1 = LV z m c0 l j x ∧ ((pst z c0 j x).2.2 = true → (bst (j % 2 == 0) (fun s => LV z m c0 l (j + 1) (16 * x + s)) (m + 1)).2 = (dm z m (l - j) (j % 2 == 0) (pst z c0 j x).2.1).2) := by
  have ev : ∀ s, s < m + 1 → LV z m c0 l (j + 1) (16 * x + s) = if (pst z c0 j x).2.2 = true then (pst z c0 j x).1 + (dl z (pst z c0 j x).2.1 s + (if 0 < dl z (pst z c0 j x).2.1 s then (dm z m (l - (j + 1)) (!(j % 2 == 0)) (nc z (pst z c0 j x).2.1 s)).1 else 0)) else (pst z c0 j x).1 := by
    intro s hs
    have e1 : (16 * x + s) / 16 = x := by omega
    have e2 : (16 * x + s) % 16 = s := by omega
    have ep : pst z c0 (j + 1) (16 * x + s) = if (pst z c0 j x).2.2 = true ∧ 0 < dl z (pst z c0 j x).2.1 s then ((pst z c0 j x).1 + dl z (pst z c0 j x).2.1 s, nc z (pst z c0 j x).2.1 s, true) else ((pst z c0 j x).1, (pst z c0 j x).2.1, false) := by
      have h9 : pst z c0 (j + 1) (16 * x + s) = if (pst z c0 j ((16 * x + s) / 16)).2.2 = true ∧ 0 < dl z (pst z c0 j ((16 * x + s) / 16)).2.1 ((16 * x + s) % 16) then ((pst z c0 j ((16 * x + s) / 16)).1 + dl z (pst z c0 j ((16 * x + s) / 16)).2.1 ((16 * x + s) % 16), nc z (pst z c0 j ((16 * x + s) / 16)).2.1 ((16 * x + s) % 16), true) else ((pst z c0 j ((16 * x + s) / 16)).1, (pst z c0 j ((16 * x + s) / 16)).2.1, false) := rfl
      rw [e1, e2] at h9
      exact h9
    unfold LV
    rw [par_s, ep]
    by_cases hr : (pst z c0 j x).2.2 = true
    · by_cases hd : 0 < dl z (pst z c0 j x).2.1 s
      · rw [if_pos ⟨hr, hd⟩, if_pos hr, if_pos hd, if_pos rfl]
        (try simp only); omega
      · rw [if_neg (fun q => hd q.2), if_pos hr, if_neg hd, if_neg (by simp)]
        (try simp only); omega
    · rw [if_neg (fun q => hr q.1), if_neg hr, if_neg (by simp)]
      (try simp only); omega
  rw [bst_congr (m + 1) ev]
  by_cases hr : (pst z c0 j x).2.2 = true
  · simp only [if_pos hr]
    rw [bst_add (m + 1) (by omega)]
    have ed : dm z m (l - j) (j % 2 == 0) (pst z c0 j x).2.1 = bst (j % 2 == 0) (fun s => dl z (pst z c0 j x).2.1 s + (if 0 < dl z (pst z c0 j x).2.1 s then (dm z m (l - (j + 1)) (!(j % 2 == 0)) (nc z (pst z c0 j x).2.1 s)).1 else 0)) (m + 1) := by
      rw [show l - j = (l - (j + 1)) + 1 by omega]; rfl
    unfold LV
    rw [if_pos hr, ed]
    exact ⟨rfl, fun _ => rfl⟩
  · simp only [if_neg hr]
    rw [bst_cst (m + 1) (by omega)]
    unfold LV
    rw [if_neg hr]
    exact ⟨rfl, fun h => absurd h hr⟩
theorem LV_le {z : Nat → Nat} {m c0 l j x : Nat} (hz : zok z) (hc : okc z c0) (hj : j ≤ l) : LV z m c0 l j x ≤ 7 * l := by
  have h1 := (pst_ok hz hc j x).2
  have h2 := dm_le (m := m) hz (l - j) (j % 2 == 0) (pst z c0 j x).2.1
  unfold LV
  split <;> omega
theorem sp_fold0 {Q : Int32 → mg_H → Prop} {h : mg_H} {x : Int32} {B : Nat} (hB : B + 16 ≤ 65536) (cl : ∀ s, s < 16 → mg_i h 50 (B + s) = nM) (q : ∀ h', md [] [51] h h' → Q nM h') : wp_fold Q (nI B) x h := by
  unfold wp_fold
  intro R10 R67 R58 c10 c67 c58
  rintro _ rfl
  have e : md [] [51] h (mg_ui h 0 51 (-1)) := md.u0 md.rf (by decide)
  refine mp_up (P := fun k => R10 nM (nI k) (mg_ui h 0 51 (-1))) (n := 16) (c10 _ _ _ (bq_t (by decide) (q _ e))) (fun k hk ih => ?_)
  refine c10 _ _ _ (bq_f (nI_ge hk (by decide)) ?_)
  rw [nI_add, nI_clamp (by omega), e.1 50 (by decide) (by decide), cl k hk]
  refine ⟨vp_in_nI (show B + k < 65536 by omega) (by decide), ?_⟩
  rintro _ rfl
  refine bq_t rfl (c67 _ _ _ ?_)
  rintro _ rfl
  rw [nI_1]; exact ih
/-- the ends behind all prefixes of j sets -/
def CEv (z : Nat → Nat) (m c0 l j : Nat) (g : mg_H) (x : Nat) : Prop := (pvl m j x → mg_i g 50 x = nI (LV z m c0 l j x)) ∧ (¬ pvl m j x → mg_i g 50 x = nM)
theorem sub1 (x : Int32) : x - 1 = x + (-1) := Int32.sub_eq_add_neg x 1
theorem p16 {j l : Nat} (h : j ≤ l) (hl : l ≤ 4) : 16 ^ j ≤ 65536 := Nat.le_trans (Nat.pow_le_pow_right (by decide) (Nat.le_trans h hl)) (by decide)
theorem sp_duel {Q : Int32 → mg_H → Prop} {h : mg_H} {k n l : Nat} {x3 : Int32} {z t pr : Nat → Nat} (ok : mp_shs h) (hv : 0 ≤ nI k ∧ nI k ≤ mg_i h 5 0 - 1) (hk : k < 2) (S : SR (mg_i h) k n z t pr) (hl : l ≤ 4) (q : ∀ h', mp_same h h' → Q (if x3 = 0 then nI (dm z (2 ^ n - 1) l true (c4 t)).1 else if l = 0 then nM else nI (dm z (2 ^ n - 1) l true (c4 t)).2) h') : wp_duel Q (nI k) (nI l) x3 h := by
  have SHh := S.sh
  have hz := SHh.zok
  have hc0 := SHh.ok
  have hm := SHh.m
  have hn4 := SHh.1
  have hpl := p16 (Nat.le_refl l) hl
  unfold wp_duel
  intro R34 R71 R86 R117 c34 c71 c86 c117
  rintro _ rfl
  refine sp_inT (lo := 0) (hi := 4) (Nat.zero_le l) hl (by decide) (bq_f (by decide) (sp_hand0 ok hv hk S (fun h2 es2 H2 f23 f24 _ S2 => bq_nt (by decide) (sp_sixteens hl ?_))))
  refine lp (σ := mg_H) (R := fun x g => R34 (nI (16 ^ l)) (nI x) g) (fun x g => md [50] [39, 51] h2 g ∧ ∀ y, y < x → CEv z (2 ^ n - 1) (c4 t) l l g y) 0 (16 ^ l) (Nat.zero_le _) ?_ ?_ h2 ⟨md.rf, fun y hy => absurd hy (Nat.not_lt_zero y)⟩
  · rintro g ⟨e, hce⟩
    refine c34 _ _ _ (bq_t (nI_le (Nat.le_refl _) (by omega)) ?_)
    rintro _ rfl
    rw [sub1]
    rintro _ rfl
    have start : ∀ j g, (j ≤ l ∧ md [50] [39, 51] h2 g ∧ (∀ y, y < 16 ^ j → CEv z (2 ^ n - 1) (c4 t) l j g y) ∧ (j = l → mg_i g 0 51 = nM) ∧ (j < l → j = 0 → mg_i g 0 51 = nI (dm z (2 ^ n - 1) l true (c4 t)).2)) → R71 (nI (16 ^ j)) (nI j + (-1)) g := by
      refine lpd (σ := mg_H) (R := fun j g => R71 (nI (16 ^ j)) (nI j + (-1)) g) (fun j g => j ≤ l ∧ md [50] [39, 51] h2 g ∧ (∀ y, y < 16 ^ j → CEv z (2 ^ n - 1) (c4 t) l j g y) ∧ (j = l → mg_i g 0 51 = nM) ∧ (j < l → j = 0 → mg_i g 0 51 = nI (dm z (2 ^ n - 1) l true (c4 t)).2)) ?_ ?_
      · rintro g ⟨_, e, hce, w1, w2⟩
        have es : mp_same h g := es2.tr (e.same (by decide))
        refine c71 _ _ _ (bq_t (by decide) ⟨fun c => ⟨mp_in0 (by decide) (by decide), ?_⟩, fun c => ?_⟩)
        · have e9 := (hce 0 (by decide)).1 trivial
          have := q g es
          rw [if_pos c] at this
          have e8 : LV z (2 ^ n - 1) (c4 t) l 0 0 = (dm z (2 ^ n - 1) l true (c4 t)).1 := by
            unfold LV
            simp [pst]
          rw [show ((0 : Int32).toNatClampNeg) = 0 from rfl, e9, e8]
          exact this
        · have := q g es
          rw [if_neg c] at this
          by_cases h0 : l = 0
          · rw [if_pos h0] at this
            rw [w1 h0.symm]; exact this
          · rw [if_neg h0] at this
            rw [w2 (by omega) rfl]; exact this
      · rintro j g ⟨hj, e, hce, w1, w2⟩ ih
        have hpj := p16 (j := j) (l := l) (by omega) hl
        have hps : 16 ^ (j + 1) = 16 * 16 ^ j := by rw [Nat.pow_succ, Nat.mul_comm]
        have hpj1 := p16 hj hl
        refine c71 _ _ _ ?_
        rw [← sub1, nI_pred]
        refine bq_f (nI_nlt (b := 0) (Nat.zero_le j) (by omega)) ?_
        rw [hps, nl_16, pk_div (by omega) (by decide) (by decide), Nat.mul_div_cancel_left _ (by decide)]
        rintro _ rfl
        refine lp (σ := mg_H) (R := fun x g => R86 (nI (16 ^ j)) (nI j) (nI x) g) (fun x g => md [50] [39, 51] h2 g ∧ (∀ y, y < x → CEv z (2 ^ n - 1) (c4 t) l j g y) ∧ (∀ y, 16 * x ≤ y → y < 16 ^ (j + 1) → CEv z (2 ^ n - 1) (c4 t) l (j + 1) g y) ∧ (0 < x → j = 0 → mg_i g 0 51 = nI (dm z (2 ^ n - 1) l true (c4 t)).2)) 0 (16 ^ j) (Nat.zero_le _) ?_ ?_ g ⟨e, fun y hy => absurd hy (Nat.not_lt_zero y), fun y _ hy => hce y hy, fun h => absurd h (Nat.lt_irrefl 0)⟩
        · rintro g ⟨e, a1, a2, a3⟩
          refine c86 _ _ _ _ (bq_t (nI_le (Nat.le_refl _) (by omega)) ?_)
          rintro _ rfl
          exact ih g ⟨by omega, e, a1, fun h => by omega, fun _ h => a3 (Nat.pow_pos (by decide)) h⟩
        · rintro x g _ hx ⟨e, a1, a2, a3⟩ ih2
          have fin : ∀ g2 v, md [] [51] g g2 → ((pvl (2 ^ n - 1) j x → v = nI (LV z (2 ^ n - 1) (c4 t) l j x)) ∧ (¬ pvl (2 ^ n - 1) j x → v = nM)) → (j = 0 → mg_i g2 0 51 = nI (dm z (2 ^ n - 1) l true (c4 t)).2) → vp_in (nI x) (mg_len 50) ∧ (∀ h18 : mg_H, h18 = mg_ui g2 50 (nI x).toNatClampNeg v → ∀ z19 : Int32, z19 = nI x + 1 → R86 (nI (16 ^ j)) (nI j) z19 h18) := by
            intro g2 v e2 hv2 hw
            refine ⟨vp_in_nI (show x < 65536 by omega) (by decide), ?_⟩
            rw [nI_clamp (by omega)]
            rintro _ rfl
            rw [nI_1]
            rintro _ rfl
            have e3 : md [50] [39, 51] h2 (mg_ui g2 50 x v) := (e.tr (e2.mono (fun c hc => absurd hc (by simp)) (by simp))).ui (by decide) (by decide)
            have oth : ∀ y, y ≠ x → mg_i (mg_ui g2 50 x v) 50 y = mg_i g 50 y := fun y hy => (mi_place hy).trans (e2.1 50 (by decide) (by decide) y)
            refine ih2 _ ⟨e3, fun y hy => ?_, fun y h1 h2 => ?_, fun _ h0 => (mi_cell (by decide)).trans (hw h0)⟩
            · rcases Nat.lt_or_ge y x with h9 | h9
              · have := a1 y h9
                unfold CEv at this ⊢
                rw [oth y (by omega)]; exact this
              · have e9 : y = x := by omega
                subst e9
                unfold CEv
                rw [mi_same]; exact hv2
            · have := a2 y (by omega) h2
              unfold CEv at this ⊢
              rw [oth y (by omega)]; exact this
          have fld : R117 (nI (16 ^ j)) (nI j) (nI x) (lt32 (j % 2 == 0)) (nI (16 * x)) (nI x) g := by
            refine c117 _ _ _ _ _ _ _ ?_
            by_cases hpv : pvl (2 ^ n - 1) j x
            · have lb := LV_bst (z := z) (c0 := c4 t) (x := x) hm (show j < l by omega)
              refine sp_fold (late := (j % 2 == 0)) (v := fun s => LV z (2 ^ n - 1) (c4 t) l (j + 1) (16 * x + s)) hm (by omega) (fun s _ => ?_) (fun s hs => ?_) (fun g2 e2 w => ?_)
              · have := LV_le (m := 2 ^ n - 1) (x := 16 * x + s) hz hc0 hj
                (try simp only); omega
              · have := a2 (16 * x + s) (by omega) (by omega)
                by_cases hsm : s ≤ 2 ^ n - 1
                · rw [if_pos hsm]
                  exact this.1 ⟨by rw [show (16 * x + s) / 16 = x by omega]; exact hpv, by omega⟩
                · rw [if_neg hsm]
                  exact this.2 (fun hq => hsm (by have := hq.2; omega))
              · refine fin g2 _ e2 ⟨fun _ => by rw [lb.1], fun hno => absurd hpv hno⟩ (fun h0 => ?_)
                rw [w]
                subst h0
                have := lb.2 rfl
                rw [this]
                rfl
            · refine sp_fold0 (by omega) (fun s hs => ?_) (fun g2 e2 => fin g2 nM e2 ⟨fun h => absurd h hpv, fun _ => rfl⟩ (fun h0 => ?_))
              · refine (a2 (16 * x + s) (by omega) (by omega)).2 (fun hq => hpv ?_)
                have := hq.1
                rw [show (16 * x + s) / 16 = x by omega] at this
                exact this
              · subst h0
                exact absurd trivial hpv
          refine c86 _ _ _ _ (bq_f (nI_ge hx (by omega)) ?_)
          rw [nl_2, pk_rem (by omega) (by decide) (by decide), nl_16, pk_mul]
          rcases Nat.mod_two_eq_zero_or_one j with h9 | h9
          · rw [h9] at fld ⊢
            exact bq_nf rfl fld
          · rw [h9] at fld ⊢
            exact bq_nt (by decide) fld
    exact start l _ ⟨Nat.le_refl l, e.u0 (by decide), fun y hy => by
      have := hce y hy
      unfold CEv at this ⊢
      rw [mi_cell (by decide)]; exact this, fun _ => mi_same, fun h => absurd h (Nat.lt_irrefl l)⟩
  · rintro x g _ hx ⟨e, hce⟩ ih
    have fin : ∀ g2 v, md [] [39] g g2 → ((pvl (2 ^ n - 1) l x → v = nI (LV z (2 ^ n - 1) (c4 t) l l x)) ∧ (¬ pvl (2 ^ n - 1) l x → v = nM)) → vp_in (nI x) (mg_len 50) ∧ (∀ h12 : mg_H, h12 = mg_ui g2 50 (nI x).toNatClampNeg v → ∀ z13 : Int32, z13 = nI x + 1 → R34 (nI (16 ^ l)) z13 h12) := by
      intro g2 v e2 hv2
      refine ⟨vp_in_nI (show x < 65536 by omega) (by decide), ?_⟩
      rw [nI_clamp (by omega)]
      rintro _ rfl
      rw [nI_1]
      rintro _ rfl
      refine ih _ ⟨(e.tr (e2.mono (fun c hc => absurd hc (by simp)) (by simp))).ui (by decide) (by decide), fun y hy => ?_⟩
      rcases Nat.lt_or_ge y x with h9 | h9
      · have := hce y h9
        unfold CEv at this ⊢
        rw [mi_place (by omega), e2.1 50 (by decide) (by decide) y]; exact this
      · have e9 : y = x := by omega
        subst e9
        unfold CEv
        rw [mi_same]; exact hv2
    have eLV : LV z (2 ^ n - 1) (c4 t) l l x = (pst z (c4 t) l x).1 := by
      unfold LV
      rw [Nat.sub_self]
      simp [dm]
    refine c34 _ _ _ (bq_f (nI_ge hx (by omega)) ?_)
    exact sp_endOf hz hc0 hn4 (H2.mv e (by decide) (by decide) (by decide)) hl hx (fun g2 e2 hp => fin g2 _ e2 ⟨fun _ => by rw [eLV], fun hno => absurd hp hno⟩) (fun g2 e2 hp => fin g2 _ e2 ⟨fun hy => absurd hy hp, fun _ => rfl⟩)
