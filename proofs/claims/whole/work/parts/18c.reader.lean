/-! the class: Reader: numbers, lines -/
def XR (Y : xg_Y) (h : xg_H) (nm : Nat → Nat) : Prop := xg_is Y (nm 50) 6 ∧ (xg_o h (nm 50) 2 = some (nm 51) ∧ xk Y nm 51 27 4) ∧ (xg_o h (nm 50) 3 = some (nm 52) ∧ xk Y nm 52 22 4) ∧ (xg_o h (nm 50) 4 = some (nm 53) ∧ xk Y nm 53 22 2) ∧ ∀ s, s < 4 → xg_o h (nm 51) s = some (nm (60 + s)) ∧ xg_is Y (nm (60 + s)) 8 ∧ (xg_o h (nm (60 + s)) 1 = some (nm (70 + s)) ∧ xk Y nm (70 + s) 22 (xt_room s)) ∧ (xg_o h (nm (60 + s)) 2 = some (nm (80 + s)) ∧ xk Y nm (80 + s) 22 (xt_room s)) ∧ (xg_o h (nm (60 + s)) 3 = some (nm (90 + s)) ∧ xk Y nm (90 + s) 22 (if s = 0 then 4 else 0))
theorem XR.mv {Y : xg_Y} {h h2 : xg_H} {nm : Nat → Nat} {L : List Nat} (a : XR Y h nm) (e : xd nm L h h2) : XR Y h2 nm := by
  obtain ⟨a1, a2, a3, a4, a5⟩ := a
  refine ⟨a1, ⟨(e.2 _ _).trans a2.1, a2.2⟩, ⟨(e.2 _ _).trans a3.1, a3.2⟩, ⟨(e.2 _ _).trans a4.1, a4.2⟩, fun s hs => ?_⟩
  obtain ⟨b1, b2, b3, b4, b5⟩ := a5 s hs
  exact ⟨(e.2 _ _).trans b1, b2, ⟨(e.2 _ _).trans b3.1, b3.2⟩, ⟨(e.2 _ _).trans b4.1, b4.2⟩, ⟨(e.2 _ _).trans b5.1, b5.2⟩⟩
def nvp (f : Nat → Nat) (b : Nat) : Nat → Nat
  | 0 => 0
  | j + 1 => nvp f b j * 10 + (f (b + j) - 48)
theorem nvp_nv {f : Nat → Nat} {b e : Nat} (h1 : b < e) (h2 : e ≤ b + 2) : nvp f b (e - b) = nv f b e := by
  unfold nv
  by_cases h : e = b + 1
  · rw [if_pos h, show e - b = 1 by omega]
    show 0 * 10 + (f (b + 0) - 48) = _
    rw [Nat.zero_mul, Nat.zero_add, Nat.add_zero]
  · rw [if_neg h, show e - b = 2 by omega]
    show (0 * 10 + (f (b + 0) - 48)) * 10 + (f (b + 1) - 48) = _
    rw [Nat.zero_mul, Nat.zero_add, Nat.add_zero]
theorem nvp_b {f : Nat → Nat} {b : Nat} : ∀ j, (∀ i, i < j → f (b + i) ≤ 57) → nvp f b j < 10 ^ j
  | 0, _ => Nat.zero_lt_one
  | j + 1, h => by
    have h1 := nvp_b j (fun i hi => h i (by omega))
    have h2 := h j (by omega)
    rw [nvp, Nat.pow_succ]
    omega
theorem sp_X6_readNumber {Y : xg_Y} {Q : Int32 → xg_H → Prop} {h : xg_H} {nm : Nat → Nat} {L p w k v0 : Nat} {f : Nat → Nat} {u : fS} (hn : inj nm) (R : XR Y h nm) (T : XT Y h nm L f) (hp : xg_i h (nm 50) 7 = nI p) (hpL : p ≤ L) (hw : w < 10) (hk : k < 2) (F : FT h nm u) (h53 : k = 1 → xg_i h (nm 53) 0 = nI v0 ∧ v0 ≤ 99)
    (q0 : ∀ h', xd nm [50] h h' → (∀ j, j ≠ 7 → xg_i h' (nm 50) j = xg_i h (nm 50) j) → xg_i h' (nm 50) 7 = nI (nb f L p) → nok f L p = false → Q 0 h')
    (q1 : ∀ h', xd nm [50, 53] h h' → (∀ j, j ≠ 0 → j ≠ 1 → j ≠ 7 → xg_i h' (nm 50) j = xg_i h (nm 50) j) → nok f L p = true → xg_i h' (nm 50) 7 = nI (nE f L p) → FT h' nm (if bad w k (nV f L p) = true ∨ (w = 0 ∧ k = 1 ∧ v0 < nV f L p) then nte 2 (nb f L p) u else u) → xg_i h' (nm 53) k = nI (nV f L p) → (∀ j, j ≠ k → xg_i h' (nm 53) j = xg_i h (nm 53) j) → Q 1 h') : wp_X6_readNumber Y Q (nm 50) (nI w) (nI k) h := by
  obtain ⟨k6, _, _, ⟨o4, k53⟩, _⟩ := R
  unfold wp_X6_readNumber
  refine ⟨k6, fun R42 R96 R97 R132 R141 c42 c96 c97 c132 c141 => ?_⟩
  refine sp_X6_skip hn k6 T hp hpL (fun h1 e1 s1 a1 => ?_)
  have T1 : XT Y h1 nm L f := T.mv e1 (by decide) (s1 6 (by decide))
  have hb := nb_b (f := f) hpL
  have hE := nE_b (f := f) hpL
  have tL := T.2.2.2.1
  refine sp_X6_rowEnd (a := 48) (b := 57) k6 T1 a1 hb.2 (by decide) (by decide) ?_
  have a1 : xg_i h1 (nm 50) 7 = nI (nb f L p) := a1
  have eE : sce (rg2 48 57) f L (sce bl f L p) = nE f L p := rfl
  rw [eE, a1]
  by_cases c1 : nE f L p = nb f L p
  · exact bq_t (by rw [c1]) (q0 h1 e1 s1 a1 (Bool.eq_false_iff.mpr (fun c => by have := nok_iff.mp c; omega)))
  · refine bq_f (fun c => c1 ((nI_eq (by omega) (by omega)).mp c)) ?_
    by_cases c2 : nE f L p ≤ nb f L p + 2
    · have ok : nok f L p = true := nok_iff.mpr ⟨by omega, c2⟩
      have hV := nV_b ok
      have dig : ∀ x, nb f L p ≤ x → x < nE f L p → 48 ≤ f x ∧ f x ≤ 57 := fun x h1 h2 => isD_iff.mp (sce_all (p := isD) (f := f) (L := L) (i := nb f L p) h1 h2)
      refine bq_t (by rw [nl_2, nI_add]; exact nI_le c2 (by omega)) ?_
      rintro _ rfl
      -- the number is kept
      have g141 : ∀ s, xd nm [50] h1 s → (∀ j, j ≠ 0 → j ≠ 1 → xg_i s (nm 50) j = xg_i h1 (nm 50) j) → FT s nm (if bad w k (nV f L p) = true ∨ (w = 0 ∧ k = 1 ∧ v0 < nV f L p) then nte 2 (nb f L p) u else u) → R141 (nI (nE f L p)) (nI (nV f L p)) s := by
        intro s e2 s2 F2
        have e12 : xd nm [50, 53] h s := (e1.mono (by simp)).tr (e2.mono (by simp))
        refine c141 _ _ _ ⟨nm 53, (e12.2 _ _).trans o4, k53.1, ?_⟩
        rw [k53.2, nI_clamp (by omega)]
        refine ⟨vp_in_nI hk (by decide), ?_⟩
        rintro _ rfl _ rfl
        refine q1 _ (xd.ui hn (xd.ui hn e12 (by simp)) (by simp)) (fun j h0 h1' h7 => ?_) ok xi_same ⟨?_, F2.2.1, ?_⟩ ?_ (fun j hj => ?_)
        · rw [xu_p hn h7, xu_c hn (by decide), s2 j h0 h1', s1 j h7]
        · rw [xu_p hn (by decide), xu_c hn (by decide)]; exact F2.1
        · rw [xu_p hn (by decide), xu_c hn (by decide)]; exact F2.2.2
        · rw [xu_c hn (by decide), xi_same]
        · rw [xu_c hn (by decide), xu_p hn hj, e2.i 53 (by decide), e1.i 53 (by decide)]
      have F1 : FT h1 nm u := ⟨(s1 0 (by decide)).trans F.1, F.2.1, (s1 1 (by decide)).trans F.2.2⟩
      have g132 : (bad w k (nV f L p) = true ∨ (w = 0 ∧ k = 1 ∧ v0 < nV f L p)) → R132 (nI (nE f L p)) (nI (nV f L p)) h1 := fun hc => by
        refine c132 _ _ _ ?_
        rw [a1]
        refine sp_X6_note (c := 2) hn k6 F1 (by decide) (by decide) (fun s e2 s2 F2 => g141 s e2 s2 ?_)
        rw [if_pos hc]
        exact F2
      have f97 : ∀ tp : Bool, (tp = true ↔ (w = 0 ∧ k = 1 ∧ v0 < nV f L p)) → R97 (nI (nE f L p)) (nI (nV f L p)) (lt32 tp) h1 := by
        intro tp htp
        have hlh := kwlh_b w hw k hk
        refine c97 _ _ _ _ ?_
        rw [nl_2, pk_mul, nI_add, nI_clamp (by omega), kwlo_I w hw k hk, kwhi_I w hw k hk]
        refine ⟨vp_in_nI (show w * 2 + k < 20 by omega) (by decide), ?_⟩
        by_cases b1 : nV f L p < kwlo w k
        · exact bq_t (nI_lt b1 (by omega)) (g132 (Or.inl (bad_iff.mpr (Or.inl b1))))
        · refine bq_f (nI_nlt (by omega) (by omega)) ⟨vp_in_nI (show w * 2 + k < 20 by omega) (by decide), ?_⟩
          by_cases b2 : kwhi w k < nV f L p
          · exact bq_t (nI_lt b2 (by omega)) (g132 (Or.inl (bad_iff.mpr (Or.inr b2))))
          · refine bq_f (nI_nlt (by omega) (by omega)) ?_
            cases tp with
            | true => exact bq_f (by decide) (g132 (Or.inr (htp.mp rfl)))
            | false =>
              refine bq_t rfl (g141 h1 xd.rf (fun _ _ _ => rfl) ?_)
              rw [if_neg (fun c => c.elim (fun c => (bad_iff.mp c).elim b1 b2) (fun c => by have := htp.mpr c; cases this))]
              exact F1
      have f96 : ¬ (w = 0 ∧ k = 1 ∧ v0 < nV f L p) → R96 (nI (nE f L p)) (nI (nV f L p)) h1 := fun hc => c96 _ _ _ (f97 false ⟨fun c => (by cases c), fun c => absurd c hc⟩)
      -- the digits
      have main : R42 (nI (nE f L p)) (nI (nvp f (nb f L p) (nb f L p - nb f L p))) (nI (nb f L p)) h1 := by
        refine lp (σ := Unit) (R := fun j _ => R42 (nI (nE f L p)) (nI (nvp f (nb f L p) (j - nb f L p))) (nI j) h1) (fun _ _ => True) (nb f L p) (nE f L p) hE.1 ?_ ?_ () trivial
        · intro _ _
          rw [nvp_nv (by omega) c2]
          show R42 _ (nI (nV f L p)) _ _
          refine c42 _ _ _ _ (bq_t (nI_le (Nat.le_refl _) (by omega)) ?_)
          by_cases w0 : w = 0
          · refine bq_nf (by rw [w0]; rfl) ?_
            by_cases k1 : k = 1
            · refine bq_nf (by rw [k1]; rfl) ⟨nm 53, (e1.2 _ _).trans o4, k53.1, ?_⟩
              have g53 : xg_i h1 (nm 53) 0 = nI v0 := (e1.i 53 (by decide) 0).trans (h53 k1).1
              have gb := (h53 k1).2
              rw [k53.2]
              refine ⟨mp_in0 (by decide) (by decide), ?_⟩
              have g53' : xg_i h1 (nm 53) (0 : Int32).toNatClampNeg = nI v0 := g53
              rw [g53']
              by_cases g1 : nV f L p ≤ v0
              · exact bq_t (nI_le g1 (by omega)) (f96 (fun c => by omega))
              · exact bq_f (nI_ge (by omega) (by omega)) (f97 true ⟨fun _ => ⟨w0, k1, by omega⟩, fun _ => rfl⟩)
            · exact bq_nt (fun c => k1 ((nI_eq (b := 1) (by omega) (by decide)).mp c)) (f96 (fun c => k1 c.2.1))
          · exact bq_nt (fun c => w0 ((nI_eq (b := 0) (by omega) (by decide)).mp c)) (f96 (fun c => w0 c.1))
        · intro j _ hj1 hj2 _ ih
          have hd := dig j hj1 hj2
          refine c42 _ _ _ _ (bq_f (nI_ge hj2 (by omega)) ⟨nm 101, T1.1, T1.2.1.1, ?_⟩)
          rw [T1.2.1.2, nI_clamp (by omega), (T1.2.2.2.2 j (by omega)).1]
          refine ⟨vp_in_nI (by omega) (by decide), ?_⟩
          rintro _ rfl _ rfl
          have z := ih () trivial
          rw [show j + 1 - nb f L p = (j - nb f L p) + 1 by omega, nvp, show nb f L p + (j - nb f L p) = j by omega] at z
          rw [nI_1, nl_10, pk_mul, nI_add, nl_48, pk_sub (by omega), show nvp f (nb f L p) (j - nb f L p) * 10 + f j - 48 = nvp f (nb f L p) (j - nb f L p) * 10 + (f j - 48) by omega]
          exact z
      rw [Nat.sub_self] at main
      exact main
    · exact bq_f (by rw [nl_2, nI_add]; exact nI_ge (by omega) (by omega)) (q0 h1 e1 s1 a1 (Bool.eq_false_iff.mpr (fun c => by have := nok_iff.mp c; omega)))
/-- what is told so far, in the reader -/
def RD (h : xg_H) (nm : Nat → Nat) (s n : Nat) (D : dS) : Prop := xg_i h (nm 50) 10 = nI D.2.2.2 ∧ D.2.2.2 < 16 ∧ (∀ g, g < 4 → xg_i h (nm 52) g = nI (D.2.2.1 g)) ∧ ∀ q, q < n → xg_i h (nm (70 + s)) q = D.1 q ∧ xg_i h (nm (80 + s)) q = D.2.1 q
theorem RD_two {h : xg_H} {nm : Nat → Nat} {s n : Nat} {D : dS} {a b : Int32} (hn : inj nm) (hs : s < 4) (d : RD h nm s n D) : RD (xg_ui (xg_ui h (nm (70 + s)) n a) (nm (80 + s)) n b) nm s (n + 1) (fun q => if q = n then a else D.1 q, fun q => if q = n then b else D.2.1 q, D.2.2) := by
  obtain ⟨d1, d2, d3, d4⟩ := d
  refine ⟨?_, d2, fun g hg => ?_, fun q hq => ?_⟩
  · rw [xu_c hn (by omega), xu_c hn (by omega)]; exact d1
  · rw [xu_c hn (by omega), xu_c hn (by omega)]; exact d3 g hg
  · by_cases e : q = n
    · rw [e, xi_same, xu_c hn (by omega), xi_same]
      show a = (if n = n then a else D.1 n) ∧ b = (if n = n then b else D.2.1 n)
      rw [if_pos rfl, if_pos rfl]
      exact ⟨rfl, rfl⟩
    · have h9 := d4 q (by omega)
      show _ = (if q = n then a else D.1 q) ∧ _ = (if q = n then b else D.2.1 q)
      rw [if_neg e, if_neg e, xu_c hn (by omega), xu_p hn e, xu_p hn e, xu_c hn (by omega)]
      exact h9
/-- the cells of the reader of the sort s that a line may change -/
def lR (s : Nat) : List Nat := [50, 52, 53, 70 + s, 80 + s]
theorem lR_m {s : Nat} : 50 ∈ lR s ∧ 52 ∈ lR s ∧ 53 ∈ lR s ∧ 70 + s ∈ lR s ∧ 80 + s ∈ lR s := by unfold lR; simp
theorem kw_s1 : ∀ w, w < 10 → kwS w = 1 → 2 ≤ w ∧ w ≤ 6 := by decide +kernel
theorem kw_s2 : ∀ w, w < 10 → kwS w = 2 → w = 7 ∨ w = 8 := by decide +kernel
theorem kw_s0 : ∀ w, w < 10 → kwS w = 0 → w = 0 ∨ w = 1 := by decide +kernel
theorem kw_s3 : ∀ w, w < 10 → kwS w = 3 → w = 9 := by decide +kernel
theorem sp_X6_take {Y : xg_Y} {Q : xg_H → Prop} {h : xg_H} {nm : Nat → Nat} {s w n v0 v1 : Nat} {D : dS} (hn : inj nm) (R : XR Y h nm) (hs : s < 4) (h8 : xg_i h (nm 50) 8 = nI s) (hw : w < 10) (hsw : kwS w = s) (h9 : xg_i h (nm 50) 9 = nI (lnN w n)) (hnr : w ≠ 1 → n < xt_room s) (g0 : xg_i h (nm 53) 0 = nI v0) (hv0 : v0 ≤ 99) (g1 : kwN w = 2 → xg_i h (nm 53) 1 = nI v1) (d : RD h nm s n D)
    (q : ∀ h', xd nm (lR s) h h' → (∀ j, j ≠ 10 → xg_i h' (nm 50) j = xg_i h (nm 50) j) → RD h' nm s (lnN w n) (tkD s w n v0 v1 D) → Q h') : wp_X6_take Y Q (nm 50) (nI w) h := by
  obtain ⟨k6, ⟨o2, k51⟩, ⟨o3, k52⟩, ⟨o4, k53⟩, dr⟩ := R
  obtain ⟨r1, r2, ⟨r3, k70⟩, ⟨r4, k80⟩, r5⟩ := dr s hs
  have hrm := rm_b s hs
  have lm := lR_m (s := s)
  unfold wp_X6_take
  refine ⟨k6, fun R154 R211 R176 c154 c211 c176 => ?_⟩
  by_cases w1 : w = 1
  · have s0 : s = 0 := by rw [← hsw, w1]; rfl
    have g1' := g1 (by rw [w1]; rfl)
    obtain ⟨d1, d2, d3, d4⟩ := d
    refine bq_nf (by rw [w1]; rfl) ⟨nm 53, o4, k53.1, ?_⟩
    rw [k53.2]
    refine ⟨mp_in0 (by decide) (by decide), vp_in_nI (n := 1) (by decide) (by decide), nm 52, o3, k52.1, ?_⟩
    have g00 : xg_i h (nm 53) (0 : Int32).toNatClampNeg = nI v0 := g0
    rw [g00, nl_3, m3, k52.2]
    refine ⟨vp_in_nI (by omega) (by decide), ?_⟩
    rintro _ rfl
    rw [nI_clamp (by omega)]
    refine ⟨nm 53, o4, k53.1, ?_⟩
    rw [k53.2]
    refine ⟨mp_in0 (by decide) (by decide), ?_⟩
    have e0 : xg_i (xg_ui h (nm 52) (v0 % 4) (xg_i h (nm 53) (1 : Int32).toNatClampNeg)) (nm 53) (0 : Int32).toNatClampNeg = nI v0 := by rw [xu_c hn (by decide)]; exact g0
    rw [e0, m3, xu_c hn (by decide), d1, bit_I (by omega), fa_or]
    rintro _ rfl
    have eD : tkD s w n v0 v1 D = (D.1, D.2.1, fun g => if g = v0 % 4 then v1 else D.2.2.1 g, D.2.2.2 ||| 2 ^ (v0 % 4)) := if_pos w1
    refine q _ (xd.ui hn (xd.ui hn xd.rf lm.2.1) lm.1) (fun j hj => by rw [xu_p hn hj, xu_c hn (by decide)]) ?_
    rw [eD]
    have en : lnN w n = n := if_pos w1
    rw [en]
    refine ⟨xi_same, ?_, fun g hg => ?_, fun q hq => ?_⟩
    · show D.2.2.2 ||| 2 ^ (v0 % 4) < 2 ^ 4
      refine Nat.or_lt_two_pow d2 ?_
      exact Nat.pow_lt_pow_right (by decide) (by omega)
    · rw [xu_c hn (by decide)]
      show _ = nI (if g = v0 % 4 then v1 else D.2.2.1 g)
      by_cases e : g = v0 % 4
      · rw [if_pos e, e, xi_same]; exact g1'
      · rw [if_neg e, xu_p hn e]; exact d3 g hg
    · rw [xu_c hn (by omega), xu_c hn (by omega), xu_c hn (by omega), xu_c hn (by omega)]
      exact d4 q hq
  · have hnr := hnr w1
    have en : lnN w n = n + 1 := if_neg w1
    rw [en] at h9 q
    have eD : tkD s w n v0 v1 D = (fun q => if q = n then tk1 s w v0 v1 else D.1 q, fun q => if q = n then tk2 s w v0 v1 else D.2.1 q, D.2.2) := if_neg w1
    rw [eD] at q
    -- two numbers are kept
    have two : ∀ a b, a = tk1 s w v0 v1 → b = tk2 s w v0 v1 → Q (xg_ui (xg_ui h (nm (70 + s)) n a) (nm (80 + s)) n b) := by
      intro a b ea eb
      rw [ea, eb]
      exact q _ (xd.ui hn (xd.ui hn xd.rf lm.2.2.2.1) lm.2.2.2.2) (fun j hj => by rw [xu_c hn (by omega), xu_c hn (by omega)]) (RD_two hn hs d)
    refine bq_nt (fun c => w1 ((nI_eq (b := 1) (by omega) (by decide)).mp c)) ?_
    rw [h9, nI_pred, h8]
    rintro _ rfl
    refine ⟨nm 51, o2, k51.1, ?_⟩
    rw [k51.2, nI_clamp (n := s) (by omega), r1]
    refine ⟨vp_in_nI hs (by decide), ?_⟩
    rintro _ rfl
    refine bq_f (nI_pos (by omega)) ⟨nm (60 + s), rfl, r2, nm (70 + s), r3, k70.1, ?_⟩
    rw [k70.2]
    refine bq_t (nI_lt hnr (by omega)) ?_
    rintro _ rfl
    have inN : vp_in (nI n) (xt_room s) := vp_in_nI hnr (by omega)
    have g0' : ∀ a, xg_i (xg_ui h (nm (70 + s)) n a) (nm 53) (0 : Int32).toNatClampNeg = nI v0 := fun a => by rw [xu_c hn (by omega)]; exact g0
    refine ⟨fun c => ?_, fun c => ?_, fun c1 c2 => ?_⟩
    · have s1 : s = 1 := (nI_eq (b := 1) (by omega) (by decide)).mp c
      have hw2 := kw_s1 w hw (by rw [hsw, s1])
      refine ⟨inN, ?_⟩
      rintro _ rfl
      refine ⟨nm 53, o4, k53.1, ?_⟩
      rw [k53.2, nI_clamp (n := n) (by omega)]
      refine ⟨mp_in0 (by decide) (by decide), nm (80 + s), r4, k80.1, ?_⟩
      rw [k80.2, g0' _]
      refine ⟨inN, ?_⟩
      rintro _ rfl
      exact two _ _ (by unfold tk1; rw [if_pos s1, nl_2, pk_sub (by omega)]) (by unfold tk2; rw [if_pos s1])
    · have s2 : s = 2 := (nI_eq (b := 2) (by omega) (by decide)).mp c
      have hw2 := kw_s2 w hw (by rw [hsw, s2])
      have st1 : ¬ s = 1 := by omega
      have f154 : ∀ a b, a = tk1 s w v0 v1 → (w = 7 → b = nI v0) → (w ≠ 7 → b = nM) → R154 (nI n) (some (nm (60 + s))) a (nI n) (xg_o h (nm (60 + s)) 1) h := by
        intro a b ea eb1 eb2
        refine c154 _ _ _ _ _ _ ⟨nm (70 + s), r3, k70.1, ?_⟩
        rw [k70.2, nI_clamp (n := n) (by omega)]
        refine ⟨inN, ?_⟩
        rintro _ rfl
        have f176 : ∀ b2, b2 = tk2 s w v0 v1 → R176 b2 (nI n) (xg_o (xg_ui h (nm (70 + s)) n a) (nm (60 + s)) 2) (xg_ui h (nm (70 + s)) n a) := by
          intro b2 e2
          refine c176 _ _ _ _ ⟨nm (80 + s), r4, k80.1, ?_⟩
          rw [k80.2, nI_clamp (n := n) (by omega)]
          refine ⟨inN, ?_⟩
          rintro _ rfl
          exact two _ _ ea e2
        refine ⟨nm (60 + s), rfl, r2, ?_⟩
        by_cases w7 : w = 7
        · refine bq_nf (by rw [w7]; rfl) ⟨nm 53, o4, k53.1, ?_⟩
          rw [k53.2, g0' _]
          exact ⟨mp_in0 (by decide) (by decide), f176 _ (by unfold tk2; rw [if_neg st1, if_pos s2, if_pos w7])⟩
        · exact bq_nt (fun c => w7 ((nI_eq (b := 7) (by omega) (by decide)).mp c)) (f176 _ (by unfold tk2; rw [if_neg st1, if_pos s2, if_neg w7]; rfl))
      by_cases w7 : w = 7
      · have g1' := g1 (by rw [w7]; rfl)
        refine bq_nf (by rw [w7]; rfl) ⟨nm 53, o4, k53.1, ?_⟩
        rw [k53.2]
        refine ⟨vp_in_nI (n := 1) (by decide) (by decide), f154 _ (nI v0) ?_ (fun _ => rfl) (fun c => absurd w7 c)⟩
        unfold tk1; rw [if_neg st1, if_pos s2, if_pos w7]; exact g1'
      · refine bq_nt (fun c => w7 ((nI_eq (b := 7) (by omega) (by decide)).mp c)) ⟨nm 53, o4, k53.1, ?_⟩
        rw [k53.2]
        refine ⟨mp_in0 (by decide) (by decide), f154 _ nM ?_ (fun c => absurd c w7) (fun _ => rfl)⟩
        unfold tk1; rw [if_neg st1, if_pos s2, if_neg w7]; exact g0
    · have st1 : ¬ s = 1 := fun c => c1 (by rw [c]; rfl)
      have st2 : ¬ s = 2 := fun c => c2 (by rw [c]; rfl)
      refine ⟨nm 53, o4, k53.1, ?_⟩
      rw [k53.2, nI_clamp (n := n) (by omega)]
      refine ⟨mp_in0 (by decide) (by decide), inN, ?_⟩
      rintro _ rfl
      have ea : xg_i h (nm 53) (0 : Int32).toNatClampNeg = tk1 s w v0 v1 := by unfold tk1; rw [if_neg st1, if_neg st2]; exact g0
      have f211 : ∀ b2, b2 = tk2 s w v0 v1 → R211 b2 (nI n) (xg_o (xg_ui h (nm (70 + s)) n (xg_i h (nm 53) (0 : Int32).toNatClampNeg)) (nm (60 + s)) 2) (xg_ui h (nm (70 + s)) n (xg_i h (nm 53) (0 : Int32).toNatClampNeg)) := by
        intro b2 e2
        refine c211 _ _ _ _ ⟨nm (80 + s), r4, k80.1, ?_⟩
        rw [k80.2, nI_clamp (n := n) (by omega)]
        refine ⟨inN, ?_⟩
        rintro _ rfl
        exact two _ _ ea e2
      by_cases w0 : w = 0
      · have g1' := g1 (by rw [w0]; rfl)
        refine bq_nf (by rw [w0]; rfl) ⟨nm 53, o4, k53.1, ?_⟩
        rw [k53.2]
        refine ⟨vp_in_nI (n := 1) (by decide) (by decide), f211 _ ?_⟩
        unfold tk2; rw [if_neg st1, if_neg st2, if_pos w0, xu_c hn (by omega)]; exact g1'
      · refine bq_nt (fun c => w0 ((nI_eq (b := 0) (by omega) (by decide)).mp c)) (f211 _ ?_)
        unfold tk2; rw [if_neg st1, if_neg st2, if_neg w0]; rfl
