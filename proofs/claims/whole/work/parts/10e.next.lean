/-! the reference: next, costOf, clear, offer -/
/-- nothing but the cells L and the object's places S has changed -/
def md (L S : List Nat) (g g2 : mg_H) : Prop := (∀ c, c ≠ 0 → c ∉ L → ∀ j, mg_i g2 c j = mg_i g c j) ∧ (∀ j, j ∉ S → mg_i g2 0 j = mg_i g 0 j)
theorem md.rf {L S : List Nat} {g : mg_H} : md L S g g := ⟨fun _ _ _ _ => rfl, fun _ _ => rfl⟩
theorem md.tr {L S : List Nat} {g g2 g3 : mg_H} (h1 : md L S g g2) (h2 : md L S g2 g3) : md L S g g3 := ⟨fun c a b j => (h2.1 c a b j).trans (h1.1 c a b j), fun j a => (h2.2 j a).trans (h1.2 j a)⟩
theorem md.mono {L S L' S' : List Nat} {g g2 : mg_H} (h : md L S g g2) (hL : ∀ c ∈ L, c ∈ L') (hS : ∀ c ∈ S, c ∈ S') : md L' S' g g2 := ⟨fun c a b j => h.1 c a (fun q => b (hL c q)) j, fun j a => h.2 j (fun q => a (hS j q))⟩
theorem md.ui {L S : List Nat} {g g2 : mg_H} {c j : Nat} {v : Int32} (h : md L S g g2) (h0 : c ≠ 0) (hc : c ∈ L) : md L S g (mg_ui g2 c j v) :=
  ⟨fun d a b k => (mi_cell (d := d) (c := c) (fun e => b (by rw [e]; exact hc))).trans (h.1 d a b k), fun k a => (mi_cell (d := 0) (c := c) (fun e => h0 e.symm)).trans (h.2 k a)⟩
theorem md.u0 {L S : List Nat} {g g2 : mg_H} {j : Nat} {v : Int32} (h : md L S g g2) (hj : j ∈ S) : md L S g (mg_ui g2 0 j v) :=
  ⟨fun d a b k => (mi_cell a).trans (h.1 d a b k), fun k a => (mi_place (k := k) (j := j) (fun e => a (by rw [e]; exact hj))).trans (h.2 k a)⟩
theorem md.ul {L S : List Nat} {g g2 : mg_H} {c j : Nat} {v : Int64} (h : md L S g g2) : md L S g (mg_ul g2 c j v) := ⟨fun d a b k => h.1 d a b k, fun k a => h.2 k a⟩
theorem md.same {L S : List Nat} {g g2 : mg_H} (h : md L S g g2) (hL : ∀ c ∈ L, ¬ (c < 10 ∧ c ≠ 0 ∨ c = 60)) : mp_same g g2 := fun c hc j => h.1 c (fun e => by omega) (fun q => hL c q hc) j
theorem ui_ui {g : mg_H} {c j : Nat} {u v : Int32} : mg_ui (mg_ui g c j u) c j v = mg_ui g c j v := by
  unfold mg_ui mg_u
  refine Prod.ext ?_ rfl
  funext b k
  by_cases h : b = c ∧ k = j
  · simp only [if_pos h]
  · simp only [if_neg h]
theorem p28 {k : Nat} : 2 ^ (3 * k) = 8 ^ k := by rw [Nat.pow_mul]
theorem p8_le {k : Nat} (hk : k < 4) : 8 ^ k ≤ 512 := Nat.le_trans (Nat.pow_le_pow_right (by decide) (show k ≤ 3 by omega)) (by decide)
theorem dg_I {c k : Nat} (hc : c < 2 ^ 31) (hk : k < 4) : (nI c >>> ((3 * nI k) &&& 31)) &&& 7 = nI (dg c k) := by
  rw [nl_3, pk_mul, nl_31, m31 (by omega), sr_I hc (by omega), nl_7, m7, p28]; rfl
theorem or_I {a b k : Nat} (ha : a < 8 ^ k) (hb : b ≤ 7) (hk : k < 4) : nI a ||| (nI b <<< ((3 * nI k) &&& 31)) = nI (a + b * 8 ^ k) := by
  have h8 := p8_le hk
  have hm := Nat.mul_le_mul hb h8
  rw [nl_3, pk_mul, nl_31, m31 (by omega), sl_I (by omega) (by rw [p28]; omega), fa_or, p28]
  have h1 := Nat.two_pow_add_eq_or_of_lt (i := 3 * k) (b := a) (by rw [p28]; exact ha) b
  rw [p28] at h1
  rw [Nat.or_comm, Nat.mul_comm b, ← h1, Nat.add_comm]
theorem gr_I {a b : Nat} (ha : a < 2 ^ 30) (hb : b < 2 ^ 30) : (if (0 : Int32) ≤ nI a - nI b then nI a - nI b else 0) = nI (a - b) := by
  have e := pk_sub_toInt ha hb
  by_cases h : b ≤ a
  · rw [if_pos (Int32.le_iff_toInt_le.mpr (by rw [e]; show (0 : Int) ≤ _; omega)), pk_sub h]
  · rw [if_neg (fun q => by have := Int32.le_iff_toInt_le.mp q; rw [e] at this; have e0 : (0 : Int32).toInt = 0 := rfl; omega), show a - b = 0 by omega]; rfl
theorem sp_next {Q : Int32 → mg_H → Prop} {h : mg_H} {z : Nat → Nat} {c s : Nat} (hz : zok z) (hs : ∀ j, j < 4 → mg_i h 27 j = nI (z j)) (hc : okc z c) (hset : s < 16) (q0 : dl z c s = 0 → Q (nI 0) h) (q1 : 0 < dl z c s → Q (nI (dl z c s)) (mg_ui h 0 39 (nI (nc z c s)))) : wp_next Q (nI c) (nI s) h := by
  unfold wp_next
  intro R10 R106 R51 R69 R70 c10 c106 c51 c69 c70
  have hck : ck z c s 4 < 4096 := ck_lt hz 4 (by decide)
  have l2 : ∀ d, d ≤ 7 → Q (nI d) (mg_ui h 0 39 (nI (bk z c s d 4))) → R106 (nI d) (nI (ck z c s 4)) (nI 0) (mg_ui h 0 39 (nI 0)) := by
    intro d hd q
    refine mp_up (P := fun k => R106 (nI d) (nI (ck z c s 4)) (nI k) (mg_ui h 0 39 (nI (bk z c s d k)))) (n := 4) ?_ ?_
    · exact c106 _ _ _ _ (bq_t (by decide) q)
    · intro k hk ih
      have ht := tn_le (c := c) (s := s) hz hk
      refine c106 _ _ _ _ (bq_f (nI_ge hk (by decide)) (fun z5 e5 => ?_))
      rw [dg_I (by omega) hk, dg_ck hz k hk] at e5
      subst e5
      refine sp_greater ?_
      rw [gr_I (by omega) (by omega)]
      rintro h8 rfl z9 rfl
      rw [mi_same, or_I (bk_lt hz k (by omega)) (by omega) hk, ui_ui, nI_1]
      exact ih
  refine mp_up (P := fun k => R10 (nI (lk z c s k)) (nI (ck z c s k)) (nI k) h) (n := 4) ?_ ?_
  · have hlk : lk z c s 4 ≤ 1000000 := by
      rcases lk_spec z c s 4 with ⟨e, _⟩ | ⟨g, _, _, e, h, _⟩ <;> omega
    refine c10 _ _ _ _ (bq_t (by decide) ?_)
    by_cases e : lk z c s 4 = 1000000
    · refine bq_nf (by rw [e]; rfl) (q0 ?_)
      unfold dl; rw [if_pos e]
    · refine bq_nt (fun e9 => e ((nI_eq (by omega) (by decide)).mp e9)) (fun h1 e1 => ?_)
      subst e1
      have ed : dl z c s = lk z c s 4 := by unfold dl; rw [if_neg e]
      have hd := dl_le (c := c) (s := s) hz
      rw [← ed]
      refine l2 (dl z c s) hd (q1 ?_)
      rcases lk_spec z c s 4 with ⟨e, _⟩ | ⟨g, _, hp, e, h, _⟩ <;> omega
  · intro k hk ih
    have ht := tn_le (c := c) (s := s) hz hk
    have hlk : lk z c s k ≤ 1000000 := by
      rcases lk_spec z c s k with ⟨e, _⟩ | ⟨g, _, _, e, h, _⟩ <;> omega
    refine c10 _ _ _ _ (bq_f (nI_ge hk (by decide)) (fun z2 e2 => ?_))
    rw [dg_I (by have := hc.1; omega) hk] at e2
    subst e2
    have j : R51 (nI (lk z c s k)) (nI (ck z c s k)) (nI k) (nI (tn z c s k)) h := by
      have join : ∀ l, l = lk z c s (k + 1) → R70 (nI (ck z c s k)) (nI k) (nI (tn z c s k)) (nI l) h := by
        rintro l rfl
        refine c70 _ _ _ _ _ ?_
        rintro _ rfl _ rfl
        rw [or_I (ck_lt hz k (by omega)) ht hk, nI_1]
        exact ih
      refine c51 _ _ _ _ _ ⟨fun a => c69 _ _ _ _ _ (join _ ?_), fun a => ⟨fun b => c69 _ _ _ _ _ (join _ ?_), fun b => join _ ?_⟩⟩
      · have a := (nI_leI (a := tn z c s k) (b := 0) (by omega) (by omega)).mp a
        simp only [lk]; rw [if_neg (by omega)]
      · have b := (nI_leI (by omega) (by omega)).mp b
        simp only [lk]; rw [if_neg (by omega)]
      · have a : ¬ tn z c s k ≤ 0 := fun q => a ((nI_leI (a := tn z c s k) (b := 0) (by omega) (by omega)).mpr q)
        have b : ¬ lk z c s k ≤ tn z c s k := fun q => b ((nI_leI (by omega) (by omega)).mpr q)
        simp only [lk]; rw [if_pos (by omega)]
    refine lb_has (by omega) (by omega) (fun hb => ⟨fun c => absurd c (by decide), fun _ => ⟨vp_in_nI (show k < mg_len 27 from hk) (by decide), ?_⟩⟩) (fun hb => ⟨fun _ => ?_, fun c => absurd rfl c⟩)
    · rw [nI_clamp (by omega), hs k hk, pk_sub (hc.2 k hk)]
      have e : tn z c s k = z k - dg c k := by unfold tn; rw [if_pos hb]
      rw [← e]; exact j
    · have e : tn z c s k = dg c k := by unfold tn; rw [if_neg (by rw [hb]; decide)]
      rw [← e]; exact j
/-- the sum of v over the set s -/
def sw (v : Nat → Nat) (s : Nat) : Nat → Nat
  | 0 => 0
  | k + 1 => sw v s k + (if s.testBit k then v k else 0)
theorem sw_le {v : Nat → Nat} {s B : Nat} : ∀ k, (∀ g, g < k → v g ≤ B) → sw v s k ≤ k * B
  | 0, _ => by simp only [sw]; omega
  | k + 1, h => by
    have h1 := sw_le (v := v) (s := s) (B := B) k (fun g hg => h g (by omega))
    have h2 := h k (by omega)
    simp only [sw]
    rw [Nat.add_mul]
    split <;> omega
theorem sp_cost1 {Q : Int32 → mg_H → Prop} {s : Int32} {h : mg_H} (q : Q (nI 1) h) : wp_costOf Q s 1 h := by
  unfold wp_costOf
  intro R12 R49 c12 c49
  exact bq_nf rfl q
theorem sp_costV {Q : Int32 → mg_H → Prop} {s : Nat} {x : Int32} {h : mg_H} {v : Nat → Nat} (hs : s < 16) (hx : ¬ x = 1) (hv : ∀ g, g < 4 → v g < 1000) (hv2 : ∀ g, g < 4 → s.testBit g = true → (x = 0 ∧ v g = 1) ∨ (¬ x = 0 ∧ ∀ Q : Int32 → mg_H → Prop, Q (nI (v g)) h → wp_of Q (9 + nI g) h)) (q : Q (nI (sw v s 4)) h) : wp_costOf Q (nI s) x h := by
  unfold wp_costOf
  intro R12 R49 c12 c49
  refine bq_nt hx ?_
  refine mp_up (P := fun k => R12 (nI (sw v s k)) (nI k) h) (n := 4) (c12 _ _ _ (bq_t (by decide) q)) (fun k hk ih => ?_)
  have join : ∀ u, u = (if s.testBit k then v k else 0) → R49 (nI k) (nI u) (nI (sw v s k)) h := by
    rintro u rfl
    refine c49 _ _ _ _ ?_
    rintro _ rfl _ rfl
    rw [nI_add, nI_1]
    exact ih
  refine c12 _ _ _ (bq_f (nI_ge hk (by decide)) (lb_has (by omega) (by omega) (fun hb => ⟨fun c => absurd c (by decide), fun _ => ?_⟩) (fun hb => ⟨fun _ => join 0 (by rw [if_neg (by rw [hb]; decide)]), fun c => absurd rfl c⟩)))
  rcases hv2 k hk hb with ⟨e, e1⟩ | ⟨e, e1⟩
  · exact bq_nf e (join 1 (by rw [if_pos hb, e1]))
  · exact bq_nt e (e1 _ (join _ (by rw [if_pos hb])))
theorem sp_clear {Q : mg_H → Prop} {h : mg_H} {a b : Nat} (hab : a ≤ b + 1) (hb : b ≤ 30) (q : ∀ h2, md [40] [] h h2 → (∀ j, mg_i h2 40 j = if 4096 * a ≤ j ∧ j < 4096 * (b + 1) then nM else mg_i h 40 j) → Q h2) : wp_clear Q (nI a) (nI b) h := by
  unfold wp_clear
  intro R6 c6 z1 e1
  have e2 : z1 = nI (4096 * a) := by rw [e1, nl_4096, pk_mul]
  have e3 : 4096 * (nI b + 1) = nI (4096 * (b + 1)) := by rw [nI_1, nl_4096, pk_mul]
  rw [e2]
  refine lp (σ := mg_H) (R := fun k s => R6 (nI k) s) (fun k s => md [40] [] h s ∧ ∀ j, mg_i s 40 j = if 4096 * a ≤ j ∧ j < k then nM else mg_i h 40 j) (4096 * a) (4096 * (b + 1)) (by omega) ?_ ?_ h ⟨md.rf, fun j => by rw [if_neg (by omega)]⟩
  · rintro s ⟨i1, i2⟩
    refine c6 _ _ (bq_t ?_ (q s i1 i2))
    rw [e3]; exact nI_le (Nat.le_refl _) (by omega)
  · rintro k s hak hk ⟨i1, i2⟩ ih
    refine c6 _ _ (bq_f ?_ ⟨vp_in_nI (show k < 126976 by omega) (by decide), ?_⟩)
    · rw [e3]; exact nI_ge hk (by omega)
    · rintro h2 rfl z3 rfl
      rw [nI_clamp (by omega), nI_1]
      refine ih _ ⟨md.ui i1 (by decide) (by decide), fun j => ?_⟩
      rw [mi_ui]
      by_cases hj : j = k
      · rw [if_pos ⟨rfl, hj⟩, if_pos (by omega)]; rfl
      · rw [if_neg (fun q => hj q.2), i2 j]
        by_cases h9 : 4096 * a ≤ j ∧ j < k
        · rw [if_pos h9, if_pos (by omega)]
        · rw [if_neg h9, if_neg (by omega)]
/-- the lesser of what is there (-1: nothing) and x -/
def off (v : Int32) (x : Nat) : Int32 := if v = nM then nI x else if v ≤ nI x then v else nI x
theorem sp_offer {Q : mg_H → Prop} {h : mg_H} {i x : Nat} (hi : i < 126976) (q : Q (mg_ui h 40 i (off (mg_i h 40 i) x))) : wp_offer Q (nI i) (nI x) h := by
  unfold wp_offer
  intro R25 R35 c25 c35
  have hin : vp_in (nI i) (mg_len 40) := vp_in_nI (show i < 126976 from hi) (by decide)
  have last : ∀ v : Int32, v = off (mg_i h 40 i) x → R35 v (nI i) h := by
    rintro v rfl
    refine c35 _ _ _ ⟨hin, ?_⟩
    rintro h1 rfl
    rw [nI_clamp (by omega)]
    exact q
  rw [nI_clamp (by omega)]
  unfold off at last
  refine ⟨hin, fun c => c25 _ _ (last _ ?_), fun c => ⟨hin, fun c2 => ⟨hin, last _ ?_⟩, fun c2 => c25 _ _ (last _ ?_)⟩⟩
  · rw [if_pos (show _ = nM from c)]
  · rw [if_neg (show ¬ _ = nM from c), if_pos c2]
  · rw [if_neg (show ¬ _ = nM from c), if_neg c2]
theorem lst_offer {P A : Nat → Prop} {v : Int32} {m0 y : Nat} (hP : lst P v) (hPb : ∀ m, P m → m < 2 ^ 30) (ha : A m0) (hl : ∀ j, A j → m0 ≤ j) (hb : m0 + y < 2 ^ 30) : lst (fun w => P w ∨ ∃ w0, A w0 ∧ w = w0 + y) (off v (m0 + y)) := by
  unfold off
  rcases hP with ⟨e1, n1⟩ | ⟨m, e1, p1, l1⟩
  · rw [if_pos e1]
    refine Or.inr ⟨m0 + y, rfl, Or.inr ⟨m0, ha, rfl⟩, fun j hj => ?_⟩
    rcases hj with hj | ⟨w0, h0, rfl⟩
    · exact absurd hj (n1 j)
    · have := hl w0 h0
      omega
  · have hm := hPb m p1
    rw [e1, if_neg (by rw [nI_eqM (by omega)]; exact id)]
    by_cases h : m ≤ m0 + y
    · rw [if_pos (nI_le h (by omega))]
      refine Or.inr ⟨m, rfl, Or.inl p1, fun j hj => ?_⟩
      rcases hj with hj | ⟨w0, h0, rfl⟩
      · exact l1 j hj
      · have := hl w0 h0
        omega
    · rw [if_neg (nI_ge (by omega) (by omega))]
      refine Or.inr ⟨m0 + y, rfl, Or.inr ⟨m0, ha, rfl⟩, fun j hj => ?_⟩
      rcases hj with hj | ⟨w0, h0, rfl⟩
      · have := l1 j hj
        omega
      · have := hl w0 h0
        omega
