/-! the reference under the cloth: what is asked -/
theorem sp_askWhen {Q : Int32 → mg_H → Prop} {h : mg_H} {f : Nat} {u : Nat → Nat} (h53 : mg_i h 0 53 = nI f) (hf : f < 5000) (hh : ∀ x, 1 ≤ x → x ≤ 40 → mg_i h 58 x = nI (u x) ∧ u x ≤ f) (q : ∀ v, BMv f u v → Q v h) : wp_askWhen Q h := by
  unfold wp_askWhen
  intro R4 R65 R70 R80 c4' c65 c70 c80
  by_cases f0 : f = 0
  · refine c4' _ _ _ (bq_f (by decide) ?_)
    rw [h53, f0]
    exact bq_t (by decide) (q _ (Or.inl ⟨f0, rfl⟩))
  have gm : ∀ x, 1 ≤ x → x ≤ 40 → ∀ P : Int32 → mg_H → Prop, P (nI (bmx f u x)) h → wp_greater P (mg_i h 58 x) (mg_i h 0 53 - mg_i h 58 x) h := by
    intro x h1 h2 P p
    obtain ⟨w1, w2⟩ := hh x h1 h2
    refine sp_greater ?_
    rw [h53, w1, pk_sub w2]
    have e : (if nI (u x) ≤ nI (f - u x) then nI (f - u x) else nI (u x)) = nI (bmx f u x) := by
      unfold bmx
      by_cases g : u x ≤ f - u x
      · rw [if_pos (nI_le g (by omega)), Nat.max_eq_right g]
      · rw [if_neg (nI_ge (by omega) (by omega)), Nat.max_eq_left (by omega)]
    rw [e]
    exact p
  have key : R4 (if 1 = 1 then nM else nI (bmn f u (1 - 1))) (nI 1) h := by
    refine lp (σ := Unit) (R := fun x _ => R4 (if x = 1 then nM else nI (bmn f u (x - 1))) (nI x) h) (fun _ _ => True) 1 41 (by decide) ?_ ?_ () trivial
    · intro _ _
      rw [if_neg (by decide)]
      exact c4' _ _ _ (bq_t (by decide) (q _ (Or.inr ⟨by omega, rfl⟩)))
    · intro x _ h1 hx _ ih
      have ih := ih () trivial
      rw [if_neg (by omega), Nat.add_sub_cancel] at ih
      have bx : bmx f u x ≤ f := bmx_b (hh x h1 (by omega)).2
      refine c4' _ _ _ (bq_f (nI_ge (b := 41) hx (by decide)) (bq_f (by rw [h53]; exact nI_ge (a := 0) (by omega) (by omega)) ?_))
      have next : ∀ s0, s0 = nI (bmn f u x) → R80 (nI x) s0 h := fun s0 e0 => c80 _ _ _ (by
        rintro _ rfl
        rw [nI_1, e0]
        exact ih)
      have take : bmn f u x = x → ∀ y, R65 y (nI x) h := fun e y => c65 _ _ _ (c70 _ _ _ _ (bq_f (by decide) (next _ (by rw [e]))))
      by_cases x1 : x = 1
      · rw [if_pos x1]
        exact bq_t rfl (take (by rw [x1]; rfl) _)
      · rw [if_neg x1]
        have hb := bmn_b (f := f) (u := u) (x - 1)
        have hb2 := bmx_b (f := f) (u := u) (hh (bmn f u (x - 1)) (hb.2 (by omega)) (by omega)).2
        have ex : bmn f u x = if (x - 1) = 0 ∨ bmx f u x < bmx f u (bmn f u (x - 1)) then x else bmn f u (x - 1) := by
          have := (show bmn f u ((x - 1) + 1) = if (x - 1) = 0 ∨ bmx f u ((x - 1) + 1) < bmx f u (bmn f u (x - 1)) then (x - 1) + 1 else bmn f u (x - 1) from rfl)
          rw [show x - 1 + 1 = x by omega] at this
          exact this
        refine bq_f (by rw [nl_m1, nI_eqM (by omega)]; exact id) ⟨vp_in_nI (show x < 41 from hx) (by decide), vp_in_nI (show x < 41 from hx) (by decide), ?_⟩
        rw [nI_clamp (by omega), nI_clamp (by omega)]
        refine gm x h1 (by omega) _ ?_
        refine ⟨vp_in_nI (show bmn f u (x - 1) < 41 by omega) (by decide), vp_in_nI (show bmn f u (x - 1) < 41 by omega) (by decide), ?_⟩
        refine gm (bmn f u (x - 1)) (hb.2 (by omega)) (by omega) _ ?_
        by_cases g : bmx f u x < bmx f u (bmn f u (x - 1))
        · rw [if_pos (Or.inr g)] at ex
          exact bq_f (nI_ge g (by omega)) (take ex _)
        · rw [if_neg (fun c => c.elim (fun c => by omega) g)] at ex
          exact bq_t (nI_le (by omega) (by omega)) (c70 _ _ _ _ (bq_t rfl (next _ (by rw [ex]))))
  exact key
theorem sp_sure {Q : Int32 → mg_H → Prop} {h : mg_H} {g : Nat} {p : Nat → Prop} (hg : g < 4) (hs : isB (mg_i h 57 g) p) (hp : ∀ u, p u → u < 8) (q : ∀ v, SUv p v → Q v h) : wp_sure Q (nI g) h := by
  obtain ⟨B, eB, hB⟩ := hs
  have hB8 := bs_small hB hp
  unfold wp_sure
  intro R2 c2
  refine lp (σ := Unit) (R := fun x _ => R2 (nI x) h) (fun x _ => ∀ u, u < x → ¬ B = 2 ^ u) 0 8 (by decide) ?_ ?_ () (fun u hu => absurd hu (Nat.not_lt_zero u))
  · intro _ no
    refine c2 _ _ (bq_t (by decide) (q _ (Or.inr ⟨?_, rfl⟩)))
    rintro ⟨u, hu⟩
    exact no u (hp u hu.1) ((bs_pow hB).mpr hu)
  · intro x _ _ hx no ih
    refine c2 _ _ (bq_f (nI_ge (b := 8) hx (by decide)) ⟨vp_in_nI (show g < 4 from hg) (by decide), ?_⟩)
    rw [nI_clamp (by omega), eB, bit_K x (by omega)]
    have h2 : 2 ^ x ≤ 2 ^ 8 := Nat.pow_le_pow_right (by decide) (by omega)
    have h3 : 2 ^ 8 = 256 := rfl
    by_cases e : B = 2 ^ x
    · refine bq_nf (by rw [e]) (q _ (Or.inl ⟨x, ?_⟩))
      have := (bs_pow hB).mp e
      exact ⟨this.1, this.2, rfl⟩
    · refine bq_nt (fun c => e ((nI_eq (by omega) (by omega)).mp c)) ?_
      rintro _ rfl
      rw [nI_1]
      refine ih () (fun u hu => ?_)
      by_cases eu : u = x
      · rw [eu]; exact e
      · exact no u (by omega)
theorem WNT_one {F : Nat → Prop} {n i : Nat} {z : Nat → Nat} {x4 v v' : Int32} (hi : i < 5000) (h : WNT F n z x4 i v) (h' : WNT F n z x4 i v') : v = v' := by
  rcases h with ⟨a1, a2⟩ | ⟨j, a1, a2, a3, a4⟩ <;> rcases h' with ⟨b1, b2⟩ | ⟨j', b1, b2, b3, b4⟩
  · rw [a1, b1]
  · exact absurd b3 (a2 j' b1 b2)
  · exact absurd a3 (b2 j a1 a2)
  · have l1 := fb_ct_le (fun k => dcd (F k)) j
    have l2 := fb_ct_le (fun k => dcd (F k)) j'
    have e := (nI_eq (by omega) (by omega)).mp (a3.trans b3.symm)
    have ej := fb_ct_kth_one (p := fun k => dcd (F k)) (dcd_iff.mpr a2) (dcd_iff.mpr b2) e
    rw [a4, b4, ej]
/-- what is asked of the rows that fit -/
def FSv (n m c : Nat) (z kd yy mi gl : Nat → Nat) (x4 v : Int32) : Prop :=
  (x4 = 0 → v = nI (fb_ct (fun j => dcd (cFt n m c z kd yy mi gl j)) (PBk z n))) ∧
  (x4 = 1 → BMv (fb_ct (fun j => dcd (cFt n m c z kd yy mi gl j)) (PBk z n)) (fun x => fb_ct (fun j => dcd (cFt n m c z kd yy mi gl j ∧ cAn n m z kd yy j x)) (PBk z n)) v) ∧
  (x4 = 2 → isB v (fun g => g < n ∧ ∃ j, j < PBk z n ∧ cFt n m c z kd yy mi gl j ∧ tpr z j g = z g)) ∧
  (x4 = 3 → isB v (fun g => g < n ∧ ∃ j, j < PBk z n ∧ cFt n m c z kd yy mi gl j ∧ tpr z j g = 0)) ∧
  (∀ g, g < 4 → x4 = nI (4 + g) → SUv (fun u => g < n ∧ ∃ j, j < PBk z n ∧ cFt n m c z kd yy mi gl j ∧ tpr z j g = u) v) ∧
  (¬ x4 < 10 → WNT (cFt n m c z kd yy mi gl) n z (x4 - 10) (PBk z n) v) ∧
  (x4 < 10 → ¬ (0 ≤ x4 ∧ x4 ≤ 7) → v = nM2)
theorem x07 {x : Int32} (a : 0 ≤ x) (b : x ≤ 7) : x = 0 ∨ x = 1 ∨ x = 2 ∨ x = 3 ∨ ∃ g, g < 4 ∧ x = nI (4 + g) := by
  obtain ⟨k, hk, e⟩ := mp_rng (m := 8) (by decide) a (show x ≤ nI 8 - 1 from (show nI 8 - 1 = 7 from by decide) ▸ b)
  rcases (show k = 0 ∨ k = 1 ∨ k = 2 ∨ k = 3 ∨ 4 ≤ k by omega) with c | c | c | c | c
  · rw [c] at e; exact Or.inl e
  · rw [c] at e; exact Or.inr (Or.inl e)
  · rw [c] at e; exact Or.inr (Or.inr (Or.inl e))
  · rw [c] at e; exact Or.inr (Or.inr (Or.inr (Or.inl e)))
  · exact Or.inr (Or.inr (Or.inr (Or.inr ⟨k - 4, by omega, by rw [show 4 + (k - 4) = k by omega]; exact e⟩)))
theorem FSv_one {n m c : Nat} {z kd yy mi gl : Nat → Nat} {x4 v v' : Int32} (hP : PBk z n < 5000) (h : FSv n m c z kd yy mi gl x4 v) (h' : FSv n m c z kd yy mi gl x4 v') : v = v' := by
  obtain ⟨a0, a1, a2, a3, a4, a5, a6⟩ := h
  obtain ⟨b0, b1, b2, b3, b4, b5, b6⟩ := h'
  by_cases c10 : x4 < 10
  · by_cases c7 : 0 ≤ x4 ∧ x4 ≤ 7
    · rcases x07 c7.1 c7.2 with e | e | e | e | ⟨g, hg, e⟩
      · rw [a0 e, b0 e]
      · exact BMv_one (fun _ _ _ => rfl) (a1 e) (b1 e)
      · exact isB_one (a2 e) (b2 e) (fun _ => Iff.rfl)
      · exact isB_one (a3 e) (b3 e) (fun _ => Iff.rfl)
      · exact SUv_one (fun _ => Iff.rfl) (a4 g hg e) (b4 g hg e)
    · rw [a6 c10 c7, b6 c10 c7]
  · exact WNT_one hP (a5 c10) (b5 c10)
theorem sp_hasLog {Q : Int32 → mg_H → Prop} {h : mg_H} {x : Int32} (q1 : ∀ k, okN (mg_i h) 2 x k → Q 1 (mg_ui h 0 52 x)) (q0 : noN (mg_i h) 2 x → Q 0 (mg_ui h 0 52 x)) (ok : mp_logs h) : wp_hasLog Q x h := by
  unfold wp_hasLog
  rintro _ rfl
  obtain ⟨⟨m, hm, e⟩, _⟩ := ok
  refine sp_is (vp_in_nI (n := 2) (N := 16) (by decide) (by decide)) (fun a b => ⟨Or.inr rfl, ?_⟩) (fun c => ⟨Or.inl rfl, q0 (mp_not c)⟩)
  have b' : x ≤ nI m - 1 := by rw [← e]; exact b
  obtain ⟨k, h3, h4⟩ := mp_rng (m := m) (by omega) a b'
  subst h4
  exact q1 k ⟨rfl, by omega, a, b⟩
theorem nlt8 {k : Nat} (hk : k < 8) : nI k < 10 := nI_lt (b := 10) (by omega) (by decide)
theorem sp_fitsV {Q : Int32 → mg_H → Prop} {h : mg_H} {x y w x4 : Int32} {k n o m l c : Nat} {z t pr kd yy mi gl : Nat → Nat} (okd : mp_days h) (oks : mp_shs h) (okl : mp_logs h) (hx : okN (mg_i h) 0 x k) (hy : okN (mg_i h) 1 y o) (hw : okN (mg_i h) 2 w l) (S : SR (mg_i h) k n z t pr) (D : DY (mg_i h) o m kd yy) (L : LGr (mg_i h) l c mi gl) (q : ∀ v h', mp_same h h' → FSv n m c z kd yy mi gl x4 v → Q v h') : wp_fits Q x y w x4 h := by
  have SHh := S.sh
  have hn4 := S.1
  have hz7 : ∀ j, z j ≤ 7 := fun j => (SHh.le j).1
  have hPB := PBk_b hz7 n
  have h84 : 8 ^ n ≤ 8 ^ 4 := Nat.pow_le_pow_right (by decide) hn4
  unfold wp_fits
  rintro _ rfl
  refine sp_hasDay (h := mg_ui h 0 0 0) (fun d' hd => bq_f (by decide) ?_) (fun cc => absurd (show 0 ≤ y ∧ y ≤ mg_i h 5 1 - 1 from by rw [hy.1]; exact hy.2.2) cc) okd
  refine sp_hasLog (h := mg_ui (mg_ui h 0 0 0) 0 29 y) (fun l' hl => bq_f (by decide) ?_) (fun cc => absurd (show 0 ≤ w ∧ w ≤ mg_i h 5 2 - 1 from by rw [hw.1]; exact hw.2.2) cc) okl
  obtain ⟨ex, hk2, hv⟩ := hx
  rw [ex]
  refine sp_handS (h := mg_ui (mg_ui (mg_ui h 0 0 0) 0 29 y) 0 52 w) oks hv hk2 S (fun h2 e2 H2 f23 f24 f28 => bq_nt (by decide) ?_)
  have e0 : mp_same h h2 := (((mp_ui mp_same.rf (by decide)).tr (mp_ui mp_same.rf (by decide))).tr (mp_ui mp_same.rf (by decide))).tr (e2.same (by decide))
  have f29 : mg_i h2 0 29 = nI o := by rw [e2.2 29 (by decide), mi_place (by decide), mi_same]; exact hy.1
  have f52 : mg_i h2 0 52 = nI l := by rw [e2.2 52 (by decide), mi_same]; exact hw.1
  refine sp_findTops (SRx S e0) hk2 f23 f24 H2.2.1 f29 hy.2.1 (DYx D e0) f52 hw.2.1 (LGx L e0) (fun h3 e3 B => ?_)
  have e03 : mp_same h h3 := e0.tr (e3.same (by decide))
  obtain ⟨b53, b57, b58, b54, b55, b56⟩ := B
  have cnt := fb_ct_le (fun j => dcd (cFt n m c z kd yy mi gl j)) (PBk z n)
  by_cases c10 : x4 < 10
  · refine bq_t c10 ?_
    have nW : ¬ x4 < 10 → WNT (cFt n m c z kd yy mi gl) n z (x4 - 10) (PBk z n) nM2 := fun cc => absurd c10 cc
    refine sp_in (fun a b => bq_f (by decide) ?_) (fun cc => bq_t rfl ?_)
    · obtain ⟨k9, hk9, e9⟩ := mp_rng (m := 8) (by decide) (show 0 ≤ x4 from by
        have h1 := Int32.le_iff_toInt_le.mp a
        refine Int32.le_iff_toInt_le.mpr ?_
        have h2 : (0 : Int32).toInt = 0 := by decide
        have h3 : (4 : Int32).toInt = 4 := by decide
        omega) (show x4 ≤ nI 8 - 1 from (show nI 8 - 1 = 7 from by decide) ▸ b)
      have h4 : 4 ≤ k9 := Nat.le_of_not_lt (fun cc => by rw [e9] at a; exact nI_ge (b := 4) cc (by decide) a)
      have ne : ∀ j, j < 8 → x4 = nI j → j = k9 := fun j hj ej => ((nI_eq (by omega) (by omega)).mp (e9.symm.trans ej)).symm
      have e4 : x4 - 4 = nI (k9 - 4) := by rw [e9, nl_4, pk_sub h4]
      rw [e4]
      refine sp_sure (by omega) (b57 (k9 - 4) (by omega)) (fun u hu => by
        obtain ⟨_, j, _, _, hj⟩ := hu
        have h1 := tpr_le (z := z) (row := j) (g := k9 - 4)
        have h2 := hz7 (k9 - 4)
        omega) (fun v hv => q v h3 e03 ⟨fun cc => ?_, fun cc => ?_, fun cc => ?_, fun cc => ?_, fun g hg cc => ?_, fun cc => absurd c10 cc, fun _ cc => absurd ⟨?_, b⟩ cc⟩)
      · have := ne 0 (by decide) cc; omega
      · have := ne 1 (by decide) cc; omega
      · have := ne 2 (by decide) cc; omega
      · have := ne 3 (by decide) cc; omega
      · have := ne (4 + g) (by omega) cc
        rw [show g = k9 - 4 by omega]
        exact hv
      · rw [e9]; exact nI_le (a := 0) (Nat.zero_le _) (by omega)
    · have nog : ∀ g, g < 4 → ¬ x4 = nI (4 + g) := fun g hg e => mp_not cc ⟨by rw [e]; exact nI_le (a := 4) (by omega) (by omega), by rw [e]; exact nI_le (b := 7) (by omega) (by decide)⟩
      refine ⟨fun e => ?_, fun e => ?_, fun e => ?_, fun e => ?_, fun n0 n1 n2 n3 => ?_⟩
      · exact q _ h3 e03 ⟨fun _ => b53, fun e' => absurd (e.symm.trans e') (by decide), fun e' => absurd (e.symm.trans e') (by decide), fun e' => absurd (e.symm.trans e') (by decide), fun g hg e' => absurd e' (nog g hg), fun e' => absurd c10 e', fun _ e' => absurd (by rw [e]; decide) e'⟩
      · exact sp_askWhen b53 (by omega) (fun x h1 h2 => ⟨b58 x h1 h2, fb_ct_sub (fun k _ hk => dcd_iff.mpr (dcd_iff.mp hk).1)⟩) (fun v hv => q v h3 e03 ⟨fun e' => absurd (e.symm.trans e') (by decide), fun _ => hv, fun e' => absurd (e.symm.trans e') (by decide), fun e' => absurd (e.symm.trans e') (by decide), fun g hg e' => absurd e' (nog g hg), fun e' => absurd c10 e', fun _ e' => absurd (by rw [e]; decide) e'⟩)
      · exact q _ h3 e03 ⟨fun e' => absurd (e.symm.trans e') (by decide), fun e' => absurd (e.symm.trans e') (by decide), fun _ => b55, fun e' => absurd (e.symm.trans e') (by decide), fun g hg e' => absurd e' (nog g hg), fun e' => absurd c10 e', fun _ e' => absurd (by rw [e]; decide) e'⟩
      · exact q _ h3 e03 ⟨fun e' => absurd (e.symm.trans e') (by decide), fun e' => absurd (e.symm.trans e') (by decide), fun e' => absurd (e.symm.trans e') (by decide), fun _ => b56, fun g hg e' => absurd e' (nog g hg), fun e' => absurd c10 e', fun _ e' => absurd (by rw [e]; decide) e'⟩
      · exact q _ h3 e03 ⟨fun e' => absurd e' n0, fun e' => absurd e' n1, fun e' => absurd e' n2, fun e' => absurd e' n3, fun g hg e' => absurd e' (nog g hg), fun e' => absurd c10 e', fun _ _ => rfl⟩
  · refine bq_f c10 (q _ h3 e03 ?_)
    have big : ∀ j, j < 10 → ¬ x4 = nI j := fun j hj e => c10 (by rw [e]; exact nI_lt (b := 10) hj (by decide))
    exact ⟨fun e => absurd e (big 0 (by decide)), fun e => absurd e (big 1 (by decide)), fun e => absurd e (big 2 (by decide)), fun e => absurd e (big 3 (by decide)), fun g hg e => absurd e (big (4 + g) (by omega)), fun _ => b54, fun e => absurd e c10⟩
theorem sp_fits0 {Q : Int32 → mg_H → Prop} {h : mg_H} {x y w x4 : Int32} (okd : mp_days h) (oks : mp_shs h) (okl : mp_logs h) (hxy : noN (mg_i h) 0 x ∨ noN (mg_i h) 1 y ∨ noN (mg_i h) 2 w) (q : ∀ h', mp_same h h' → Q (-2) h') : wp_fits Q x y w x4 h := by
  unfold wp_fits
  rintro _ rfl
  have s1 : mp_same h (mg_ui (mg_ui h 0 0 0) 0 29 y) := (mp_ui mp_same.rf (by decide)).tr (mp_ui mp_same.rf (by decide))
  have s2 : mp_same h (mg_ui (mg_ui (mg_ui h 0 0 0) 0 29 y) 0 52 w) := s1.tr (mp_ui mp_same.rf (by decide))
  refine sp_hasDay (h := mg_ui h 0 0 0) (fun d' hd => bq_f (by decide) ?_) (fun _ => bq_t rfl (q _ s1)) okd
  refine sp_hasLog (h := mg_ui (mg_ui h 0 0 0) 0 29 y) (fun l' hl => bq_f (by decide) ?_) (fun _ => bq_t rfl (q _ s2)) okl
  rcases hxy with cc | cc | cc
  · exact sp_hand1 (h := mg_ui (mg_ui (mg_ui h 0 0 0) 0 29 y) 0 52 w) oks cc (bq_nf rfl (q _ s2))
  · refine absurd ?_ cc
    have := hd.2.2
    rw [← hd.1] at this
    exact this
  · refine absurd ?_ cc
    have := hl.2.2
    rw [← hl.1] at this
    exact this
