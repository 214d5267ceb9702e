/-! the reference: tokens -/
def TP (g : mg_H) (L : Nat) (f : Nat → Nat) : Prop := mg_i g 0 11 = nI L ∧ L ≤ 600 ∧ ∀ i, i < 600 → mg_i g 1 i &&& 255 = nI (f i) ∧ f i < 256
theorem TP.mv {g g2 : mg_H} {L : Nat} {f : Nat → Nat} {M S : List Nat} (a : TP g L f) (e : md M S g g2) (h1 : 1 ∉ M) (h11 : 11 ∉ S) : TP g2 L f := ⟨(e.2 11 h11).trans a.1, a.2.1, fun i hi => ⟨by rw [e.1 1 (by decide) h1 i]; exact (a.2.2 i hi).1, (a.2.2 i hi).2⟩⟩
theorem sp_see {Q : Int32 → mg_H → Prop} {h : mg_H} {L r : Nat} {f : Nat → Nat} (T : TP h L f) (hr : mg_i h 0 10 = nI r) (hrL : r ≤ L) (q1 : r < L → Q (nI (f r)) h) (q0 : r = L → Q nM h) : wp_see Q h := by
  have tL := T.2.1
  unfold wp_see
  rw [T.1, hr]
  by_cases g : r = L
  · exact bq_t (nI_le (by omega) (by omega)) (q0 g)
  · refine bq_f (nI_ge (by omega) (by omega)) ⟨vp_in_nI (show r < 2400 by omega) (by decide), ?_⟩
    rw [nI_clamp (by omega), (T.2.2 r (by omega)).1]
    exact q1 (by omega)
/-- a row of bytes as a number -/
def pkn (f : Nat → Nat) (b : Nat) : Nat → Nat
  | 0 => 0
  | n + 1 => pkn f b n * 256 + f (b + n)
def wpk (f : Nat → Nat) (b : Nat) : Nat → Int64
  | 0 => 0
  | n + 1 => (wpk f b n <<< ((8 : Int32).toInt64 &&& 63)) ||| (nI (f (b + n))).toInt64
theorem e8L : (8 : Int32).toInt64 = lN 8 := by decide
theorem wpk_pkn {f : Nat → Nat} {b : Nat} : ∀ n, (∀ i, i < n → f (b + i) < 256) → wpk f b n = lN (pkn f b n)
  | 0, _ => rfl
  | n + 1, h => by
    have ih := wpk_pkn n (fun i hi => h i (by omega))
    have hb := h n (by omega)
    rw [wpk, ih, e8L, sl_L (by decide), nI_l (by omega), Nat.mul_comm (pkn f b n) (2 ^ 8), fb_or_sumL (k := 8) _ hb, Nat.mul_comm (2 ^ 8) (pkn f b n)]
    rfl
theorem pkn_lt {f : Nat → Nat} {b : Nat} : ∀ n, (∀ i, i < n → f (b + i) < 128) → 2 * pkn f b n < 256 ^ n
  | 0, _ => (by decide : 2 * 0 < 256 ^ 0)
  | n + 1, h => by
    have ih := pkn_lt n (fun i hi => h i (by omega))
    have hb := h n (by omega)
    rw [pkn, Nat.pow_succ]
    omega
theorem pkn_inj {f g : Nat → Nat} {b c : Nat} : ∀ n m, (∀ i, i < n → 0 < f (b + i) ∧ f (b + i) < 256) → (∀ i, i < m → 0 < g (c + i) ∧ g (c + i) < 256) → pkn f b n = pkn g c m → n = m ∧ ∀ i, i < n → f (b + i) = g (c + i)
  | 0, 0, _, _, _ => ⟨rfl, fun i hi => absurd hi (Nat.not_lt_zero i)⟩
  | 0, m + 1, _, h2, e => by have := h2 m (by omega); rw [pkn, pkn] at e; omega
  | n + 1, 0, h1, _, e => by have := h1 n (by omega); rw [pkn, pkn] at e; omega
  | n + 1, m + 1, h1, h2, e => by
    have a := h1 n (by omega)
    have d := h2 m (by omega)
    rw [pkn, pkn] at e
    have e1 : pkn f b n = pkn g c m := by omega
    have e2 : f (b + n) = g (c + m) := by omega
    obtain ⟨r1, r2⟩ := pkn_inj n m (fun i hi => h1 i (by omega)) (fun i hi => h2 i (by omega)) e1
    refine ⟨by omega, fun i hi => ?_⟩
    rcases Nat.lt_or_ge i n with h9 | h9
    · exact r2 i h9
    · rw [show i = n by omega, e2, r1]
def kwK (w : Nat) : Nat := ([444199957363, 482955846501, 2002872692, 1953854062, 7102841, 495873781348, 1818583403, 7496046, 487301145972, 1936744814] : List Nat).getD w 0
theorem kwK_pkn : ∀ w, w < 10 → pkn (kwB w) 0 (kwL w) = kwK w := by decide +kernel
theorem kwK_b : ∀ w, w < 10 → 0 < kwK w ∧ kwK w < 2 ^ 62 := by decide +kernel
/-- the word as the reference holds it -/
def wk (f : Nat → Nat) (b e : Nat) : Int64 := if e - b ≤ 8 then wpk f b (e - b) else 0
theorem wk_iff {f : Nat → Nat} {b e w : Nat} (hw : w < 10) (hl : ∀ x, b ≤ x → x < e → isL (f x) = true) : wk f b e = lN (kwK w) ↔ isW f b e w := by
  have hk := kwK_b w hw
  have hL := kwL_b w hw
  unfold wk
  by_cases h8 : e - b ≤ 8
  · have dg : ∀ i, i < e - b → 97 ≤ f (b + i) ∧ f (b + i) ≤ 122 := fun i hi => isL_iff.mp (hl (b + i) (by omega) (by omega))
    have kb : ∀ i, i < kwL w → 97 ≤ kwB w (0 + i) ∧ kwB w (0 + i) ≤ 122 := fun i hi => by rw [Nat.zero_add]; exact isL_iff.mp (kwB_l w hw i hi)
    have b1 := pkn_lt (f := f) (b := b) (e - b) (fun i hi => by have := dg i hi; omega)
    have b2 : 256 ^ (e - b) ≤ 256 ^ 8 := Nat.pow_le_pow_right (by decide) h8
    rw [if_pos h8, wpk_pkn _ (fun i hi => by have := dg i hi; omega), fb_lN_inj (by omega) (by omega)]
    constructor
    · intro c
      rw [← kwK_pkn w hw] at c
      obtain ⟨c1, c2⟩ := pkn_inj _ _ (fun i hi => by have := dg i hi; omega) (fun i hi => by have := kb i hi; omega) c
      exact ⟨c1, fun i hi => by have := c2 i (by omega); rw [Nat.zero_add] at this; exact this⟩
    · intro c
      rw [← kwK_pkn w hw, ← c.1]
      have go : ∀ n, n ≤ kwL w → pkn f b n = pkn (kwB w) 0 n := by
        intro n
        induction n with
        | zero => exact fun _ => rfl
        | succ n ih => intro hn; rw [pkn, pkn, ih (by omega), c.2 n (by omega), Nat.zero_add]
      have c1 := c.1
      exact go _ (by omega)
  · rw [if_neg h8]
    constructor
    · intro c
      have : lN 0 = lN (kwK w) := c
      rw [fb_lN_inj (by decide) (by omega)] at this
      omega
    · intro c
      have := c.1
      omega
/-- a token that begins at b -/
def TK (g : mg_H) (L : Nat) (f : Nat → Nat) (b : Nat) : Prop := mg_i g 0 12 = nI b ∧ b ≤ L ∧
  (b = L → mg_i g 0 13 = nI 0) ∧
  (b < L → isL (f b) = true → mg_i g 0 13 = nI 2 ∧ mg_i g 0 10 = nI (sce isL f L b) ∧ mg_l g 0 15 = wk f b (sce isL f L b)) ∧
  (b < L → isD (f b) = true → mg_i g 0 10 = nI (sce isD f L b) ∧ (sce isD f L b ≤ b + 2 → mg_i g 0 13 = nI 3 ∧ mg_i g 0 14 = nI (nv f b (sce isD f L b))) ∧ (b + 2 < sce isD f L b → mg_i g 0 13 = nI 1)) ∧
  (b < L → isL (f b) = false → isD (f b) = false → mg_i g 0 10 = nI (b + 1) ∧ mg_i g 0 13 = if f b = 59 then nI 4 else nI 1)
theorem sp_inR {Q : Int32 → mg_H → Prop} {h : mg_H} {v a b : Nat} (hv : v < 2 ^ 31) (ha : a < 2 ^ 31) (hb : b < 2 ^ 31) (q1 : rg2 a b v = true → Q 1 h) (q0 : rg2 a b v = false → Q 0 h) : wp_in Q (nI v) (nI a) (nI b) h := by
  refine sp_in (fun h1 h2 => q1 (decide_eq_true ⟨(nI_leI ha hv).mp h1, (nI_leI hv hb).mp h2⟩)) (fun c => q0 (decide_eq_false (fun c2 => ?_)))
  rcases c with c | c
  · have := (nI_ltI hv ha).mp c; omega
  · have := (nI_ltI hb hv).mp c; omega
theorem sp_inM {Q : Int32 → mg_H → Prop} {h : mg_H} {a b : Nat} (ha : a < 2 ^ 31) (q0 : Q 0 h) : wp_in Q nM (nI a) (nI b) h := by
  unfold wp_in
  exact bq_t (by rw [nM_ltI ha]; trivial) q0
/-- places that a token changes -/
abbrev sK : List Nat := [10, 12, 13, 14]
set_option maxHeartbeats 1000000 in
theorem sp_token {Q : mg_H → Prop} {h : mg_H} {L r : Nat} {f : Nat → Nat} (T : TP h L f) (hr : mg_i h 0 10 = nI r) (hrL : r ≤ L) (q : ∀ h', md [] sK h h' → TK h' L f (sce bl f L r) → Q h') : wp_token Q h := by
  have tL := T.2.1
  unfold wp_token
  intro R0 R18 R263 R163 R74 R235 R205 R136 c0 c18 c263 c163 c74 c235 c205 c136
  refine lp (σ := mg_H) (R := fun _ s => R0 s) (fun k s => md [] sK h s ∧ mg_i s 0 10 = nI k ∧ sce bl f L k = sce bl f L r) r L hrL ?_ ?_ h ⟨md.rf, hr, rfl⟩
  · rintro s ⟨e, e10, es⟩
    have Ts := T.mv e (by decide) (by decide)
    refine c0 _ (sp_see Ts e10 (Nat.le_refl L) (fun c => absurd c (Nat.lt_irrefl L)) (fun _ => bq_f (by decide) (sp_see Ts e10 (Nat.le_refl L) (fun c => absurd c (Nat.lt_irrefl L)) (fun _ => bq_nt (by decide) ?_))))
    rintro _ rfl
    have e2 : md [] sK h (mg_ui s 0 12 (mg_i s 0 10)) := e.u0 (by decide)
    refine sp_see (T.mv e2 (by decide) (by decide)) (show mg_i (mg_ui s 0 12 (mg_i s 0 10)) 0 10 = nI L by rw [mi_place (by decide)]; exact e10) (Nat.le_refl L) (fun c => absurd c (Nat.lt_irrefl L)) (fun _ => ?_)
    rintro _ rfl
    refine bq_f (by decide) ?_
    rintro _ rfl
    rw [← es, sce_no (fun c => absurd c.1 (Nat.lt_irrefl L))] at q
    refine q _ (md.u0 (md.ul e2) (by decide)) ⟨?_, Nat.le_refl L, fun _ => mi_same, fun c => absurd c (Nat.lt_irrefl L), fun c => absurd c (Nat.lt_irrefl L), fun c => absurd c (Nat.lt_irrefl L)⟩
    rw [mi_place (by decide), mi_ul, mi_same]; exact e10
  · rintro k s _ hk ⟨e, e10, es⟩ ih
    have Ts := T.mv e (by decide) (by decide)
    have hf := (T.2.2 k (by omega)).2
    have no : ∀ c : k = L, False := fun c => by omega
    have go : bl (f k) = true → R18 s := fun hb => by
      refine c18 _ ?_
      rintro _ rfl
      rw [e10, nI_1]
      exact ih _ ⟨e.u0 (by decide), mi_same, by rw [← es, sce_go hk hb]⟩
    refine c0 _ (sp_see Ts e10 (by omega) (fun _ => ?_) (fun c => absurd c no))
    by_cases h1 : f k = 10
    · exact bq_t (by rw [h1]; rfl) (go (bl_iff.mpr (Or.inl h1)))
    refine bq_f (fun c => h1 ((nI_eq (b := 10) (by omega) (by decide)).mp c)) (sp_see Ts e10 (by omega) (fun _ => ?_) (fun c => absurd c no))
    by_cases h2 : f k = 32
    · exact bq_nf (by rw [h2]; rfl) (go (bl_iff.mpr (Or.inr h2)))
    refine bq_nt (fun c => h2 ((nI_eq (b := 32) (by omega) (by decide)).mp c)) ?_
    have nbl : bl (f k) = false := Bool.eq_false_iff.mpr (fun c => (bl_iff.mp c).elim h1 h2)
    rw [← es, sce_no (fun c => by rw [nbl] at c; cases c.2)] at q
    rintro _ rfl
    have e2 : md [] sK h (mg_ui s 0 12 (mg_i s 0 10)) := e.u0 (by decide)
    have g10 : mg_i (mg_ui s 0 12 (mg_i s 0 10)) 0 10 = nI k := by rw [mi_place (by decide)]; exact e10
    have g12 : mg_i (mg_ui s 0 12 (mg_i s 0 10)) 0 12 = nI k := by rw [mi_same]; exact e10
    refine sp_see (T.mv e2 (by decide) (by decide)) g10 (by omega) (fun _ => ?_) (fun c => absurd c no)
    rintro _ rfl
    have e3 : md [] sK h (mg_ul (mg_ui s 0 12 (mg_i s 0 10)) 0 15 0) := md.ul e2
    have g10 : mg_i (mg_ul (mg_ui s 0 12 (mg_i s 0 10)) 0 15 0) 0 10 = nI k := by rw [mi_ul]; exact g10
    have g12 : mg_i (mg_ul (mg_ui s 0 12 (mg_i s 0 10)) 0 15 0) 0 12 = nI k := by rw [mi_ul]; exact g12
    have g15 : mg_l (mg_ul (mg_ui s 0 12 (mg_i s 0 10)) 0 15 0) 0 15 = 0 := by rw [ml_ul, if_pos ⟨rfl, rfl⟩]
    generalize mg_ul (mg_ui s 0 12 (mg_i s 0 10)) 0 15 0 = s3 at e3 g10 g12 g15
    refine bq_t (nI_pos' (by omega)) (sp_inR (a := 97) (b := 122) (by omega) (by decide) (by decide) (fun hl => bq_f (by decide) ?_) (fun hl => bq_t rfl (sp_inR (a := 48) (b := 57) (by omega) (by decide) (by decide) (fun hd => bq_f (by decide) ?_) (fun hd => bq_t rfl ?_))))
    · -- a word
      have nD : isD (f k) = false := decide_eq_false (fun c => by have := isL_iff.mp hl; omega)
      have hge := sce_ge (p := isL) (f := f) (L := L) (i := k)
      have hle := sce_le (p := isL) (f := f) (L := L) (i := k) (by omega)
      refine lp (σ := mg_H) (R := fun j s4 => R74 (nI (j - k)) s4) (fun j s4 => md [] sK h s4 ∧ mg_i s4 0 10 = nI j ∧ mg_i s4 0 12 = nI k ∧ mg_l s4 0 15 = wpk f k (j - k)) k (sce isL f L k) hge ?_ ?_ s3 ⟨e3, g10, g12, by rw [Nat.sub_self]; exact g15⟩ |> fun z => by rw [Nat.sub_self] at z; exact z
      · rintro s4 ⟨e4, k10, k12, k15⟩
        have T4 := T.mv e4 (by decide) (by decide)
        have last : ∀ v, v = wk f k (sce isL f L k) → R136 v s4 := by
          intro v ev
          refine c136 _ _ ?_
          rintro _ rfl _ rfl
          refine q _ (md.u0 (md.ul e4) (by decide)) ⟨?_, by omega, fun c => by omega, fun _ _ => ⟨mi_same, ?_, ?_⟩, fun _ c => (by rw [nD] at c; cases c), fun _ c => by rw [show isL (f k) = true from hl] at c; cases c⟩
          · rw [mi_place (by decide), mi_ul]; exact k12
          · rw [mi_place (by decide), mi_ul]; exact k10
          · rw [ml_ui, ml_ul, if_pos ⟨rfl, rfl⟩]; exact ev
        have fin : ∀ s5, s5 = s4 → ((nI (sce isL f L k - k) ≤ 8 → R136 (mg_l s5 0 15) s5) ∧ (¬ nI (sce isL f L k - k) ≤ 8 → R136 0 s5)) := by
          intro s5 e5
          rw [e5]
          by_cases g8 : sce isL f L k - k ≤ 8
          · exact bq_t (nI_le (b := 8) g8 (by decide)) (last _ (by unfold wk; rw [if_pos g8]; exact k15))
          · exact bq_f (nI_ge (a := 8) (by omega) (by omega)) (last _ (by unfold wk; rw [if_neg g8]))
        refine c74 _ _ (sp_see T4 k10 hle (fun c => ?_) (fun _ => sp_inM (a := 97) (b := 122) (by decide) (bq_t rfl (fin s4 rfl))))
        have hf2 := (T.2.2 (sce isL f L k) (by omega)).2
        have nl := sce_end (p := isL) (f := f) (L := L) (i := k) c
        exact sp_inR (a := 97) (b := 122) (by omega) (by decide) (by decide) (fun c2 => by rw [show rg2 97 122 (f (sce isL f L k)) = false from nl] at c2; cases c2) (fun _ => bq_t rfl (fin s4 rfl))
      · rintro j s4 hj1 hj2 ⟨e4, k10, k12, k15⟩ ih2
        have T4 := T.mv e4 (by decide) (by decide)
        have hfj := (T.2.2 j (by omega)).2
        have hlj := sce_all (p := isL) (f := f) (L := L) hj1 hj2
        refine c74 _ _ (sp_see T4 k10 (by omega) (fun _ => sp_inR (a := 97) (b := 122) (by omega) (by decide) (by decide) (fun _ => bq_f (by decide) (sp_see T4 k10 (by omega) (fun _ => ?_) (fun c => by omega))) (fun c => by rw [show rg2 97 122 (f j) = true from hlj] at c; cases c)) (fun c => by omega))
        rintro _ rfl _ rfl _ rfl
        rw [nI_1, mi_ul, k10, nI_1, show j - k + 1 = j + 1 - k by omega]
        refine ih2 _ ⟨md.u0 (md.ul e4) (by decide), mi_same, ?_, ?_⟩
        · rw [mi_place (by decide), mi_ul]; exact k12
        · rw [ml_ui, ml_ul, if_pos ⟨rfl, rfl⟩, k15, show j + 1 - k = (j - k) + 1 by omega, wpk, show k + (j - k) = j by omega]
    · -- a number
      rintro _ rfl
      have nL : isL (f k) = false := decide_eq_false (fun c => by have := isD_iff.mp hd; omega)
      have hge := sce_ge (p := isD) (f := f) (L := L) (i := k)
      have hle := sce_le (p := isD) (f := f) (L := L) (i := k) (by omega)
      have hgt : k < sce isD f L k := by rw [sce_go hk hd]; exact sce_ge
      have dig : ∀ x, k ≤ x → x < sce isD f L k → 48 ≤ f x ∧ f x ≤ 57 := fun x h1 h2 => isD_iff.mp (sce_all (p := isD) (f := f) (L := L) (i := k) h1 h2)
      have bnd : nvp f k (min 2 (sce isD f L k - k)) < 2 ^ 31 := by
        have := nvp_b (f := f) (b := k) (min 2 (sce isD f L k - k)) (fun i hi => (dig (k + i) (by omega) (by omega)).2)
        have h2 : 10 ^ min 2 (sce isD f L k - k) ≤ 10 ^ 2 := Nat.pow_le_pow_right (by decide) (Nat.min_le_left _ _)
        omega
      refine lp (σ := mg_H) (R := fun j s4 => R163 (nI (j - k)) s4) (fun j s4 => md [] sK h s4 ∧ mg_i s4 0 10 = nI j ∧ mg_i s4 0 12 = nI k ∧ mg_i s4 0 14 = nI (nvp f k (min 2 (j - k)))) k (sce isD f L k) hge ?_ ?_ (mg_ui s3 0 14 0) ⟨e3.u0 (by decide), by rw [mi_place (by decide)]; exact g10, by rw [mi_place (by decide)]; exact g12, by rw [Nat.sub_self, mi_same]; rfl⟩ |> fun z => by rw [Nat.sub_self] at z; exact z
      · rintro s4 ⟨e4, k10, k12, k14⟩
        have T4 := T.mv e4 (by decide) (by decide)
        have last : ∀ v, (sce isD f L k ≤ k + 2 → v = nI 3) → (k + 2 < sce isD f L k → v = nI 1) → R235 v s4 := by
          intro v ev1 ev2
          refine c235 _ _ ?_
          rintro _ rfl
          refine q _ (md.u0 e4 (by decide)) ⟨?_, by omega, fun c => by omega, fun _ c => (by rw [nL] at c; cases c), fun _ _ => ⟨?_, fun c => ⟨?_, ?_⟩, fun c => ?_⟩, fun _ _ c => by rw [show isD (f k) = true from hd] at c; cases c⟩
          · rw [mi_place (by decide)]; exact k12
          · rw [mi_place (by decide)]; exact k10
          · rw [mi_same]; exact ev1 c
          · rw [mi_place (by decide), k14, Nat.min_eq_right (by omega), nvp_nv hgt c]
          · rw [mi_same]; exact ev2 c
        have fin : ((nI (sce isD f L k - k) ≤ 2 → R235 3 s4) ∧ (¬ nI (sce isD f L k - k) ≤ 2 → R235 1 s4)) := by
          by_cases g8 : sce isD f L k - k ≤ 2
          · exact bq_t (nI_le (b := 2) g8 (by decide)) (last _ (fun _ => rfl) (fun c => by omega))
          · exact bq_f (nI_ge (a := 2) (by omega) (by omega)) (last _ (fun c => by omega) (fun _ => rfl))
        refine c163 _ _ (sp_see T4 k10 hle (fun c => ?_) (fun _ => sp_inM (a := 48) (b := 57) (by decide) (bq_t rfl fin)))
        have hf2 := (T.2.2 (sce isD f L k) (by omega)).2
        have nl := sce_end (p := isD) (f := f) (L := L) (i := k) c
        exact sp_inR (a := 48) (b := 57) (by omega) (by decide) (by decide) (fun c2 => by rw [show rg2 48 57 (f (sce isD f L k)) = false from nl] at c2; cases c2) (fun _ => bq_t rfl fin)
      · rintro j s4 hj1 hj2 ⟨e4, k10, k12, k14⟩ ih2
        have T4 := T.mv e4 (by decide) (by decide)
        have hfj := (T.2.2 j (by omega)).2
        have hdj := sce_all (p := isD) (f := f) (L := L) hj1 hj2
        have hd9 := dig j hj1 hj2
        have next : ∀ v, v = nI (nvp f k (min 2 (j + 1 - k))) → R205 (nI (j - k)) v s4 := by
          intro v ev
          refine c205 _ _ _ ?_
          rintro _ rfl _ rfl _ rfl
          rw [nI_1, mi_place (by decide), k10, nI_1, show j - k + 1 = j + 1 - k by omega]
          refine ih2 _ ⟨md.u0 (md.u0 e4 (by decide)) (by decide), mi_same, ?_, ?_⟩
          · rw [mi_place (by decide), mi_place (by decide)]; exact k12
          · rw [mi_place (by decide), mi_same]; exact ev
        refine c163 _ _ (sp_see T4 k10 (by omega) (fun _ => sp_inR (a := 48) (b := 57) (by omega) (by decide) (by decide) (fun _ => bq_f (by decide) ?_) (fun c => by rw [show rg2 48 57 (f j) = true from hdj] at c; cases c)) (fun c => by omega))
        by_cases g2 : 2 ≤ j - k
        · refine bq_t (nI_le (a := 2) g2 (by omega)) (next _ ?_)
          rw [k14, Nat.min_eq_left g2, Nat.min_eq_left (by omega)]
        · refine bq_f (nI_ge (b := 2) (by omega) (by decide)) (sp_see T4 k10 (by omega) (fun _ => next _ ?_) (fun c => by omega))
          rw [k14, Nat.min_eq_right (by omega), Nat.min_eq_right (by omega), show j + 1 - k = (j - k) + 1 by omega, nvp, show k + (j - k) = j by omega, nl_10, pk_mul, nI_add, nl_48, pk_sub (by omega)]
          congr 1
          omega
    · -- a sign
      have nD : isD (f k) = false := hd
      have nL : isL (f k) = false := hl
      rintro _ rfl
      rw [g10, nI_1]
      have last : ∀ v, v = (if f k = 59 then nI 4 else nI 1) → R263 v (mg_ui s3 0 10 (nI (k + 1))) := by
        intro v ev
        refine c263 _ _ ?_
        rintro _ rfl
        refine q _ (md.u0 (md.u0 e3 (by decide)) (by decide)) ⟨?_, by omega, fun c => by omega, fun _ c => (by rw [nL] at c; cases c), fun _ c => (by rw [nD] at c; cases c), fun _ _ _ => ⟨?_, ?_⟩⟩
        · rw [mi_place (by decide), mi_place (by decide)]; exact g12
        · rw [mi_place (by decide), mi_same]
        · rw [mi_same]; exact ev
      by_cases g : f k = 59
      · exact bq_nf (by rw [g]; rfl) (last _ (by rw [if_pos g]; rfl))
      · exact bq_nt (fun c => g ((nI_eq (b := 59) (by omega) (by decide)).mp c)) (last _ (by rw [if_neg g]; rfl))
