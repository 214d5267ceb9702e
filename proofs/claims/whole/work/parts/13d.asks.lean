/-! the reference: purse, apart, need, couples, crowd, same -/
theorem T_I {T : Nat} {lo hi : Nat} (h1 : lo ≤ T) (h2 : T ≤ hi) (hh : hi < 2 ^ 31) : nI lo ≤ nI T ∧ nI T ≤ nI hi := ⟨(nI_leI (by omega) (by omega)).mpr h1, (nI_leI (by omega) (by omega)).mpr h2⟩
theorem sp_inT {Q : Int32 → mg_H → Prop} {h : mg_H} {T lo hi : Nat} (h1 : lo ≤ T) (h2 : T ≤ hi) (hh : hi < 2 ^ 31) (q : Q 1 h) : wp_in Q (nI T) (nI lo) (nI hi) h := sp_in (fun _ _ => q) (fun c => absurd (T_I h1 h2 hh) (mp_not c))
/-- a shelf is at hand -/
theorem sp_hand0 {Q : Int32 → mg_H → Prop} {h : mg_H} {k n : Nat} {z t pr : Nat → Nat} (ok : mp_shs h) (hv : 0 ≤ nI k ∧ nI k ≤ mg_i h 5 0 - 1) (hk : k < 2) (S : SR (mg_i h) k n z t pr) (q : ∀ h2, mp_same h h2 → HS h2 z (2 ^ n - 1) (c4 t) → mg_i h2 0 23 = nI k → mg_i h2 0 24 = nI n → (∀ j, j < 4 → mg_i h2 28 j = nI (t j)) → SR (mg_i h2) k n z t pr → Q 1 h2) : wp_hand Q (nI k) (mg_ui h 0 0 0) :=
  sp_handS (h := mg_ui h 0 0 0) ok hv hk S (fun h2 e2 H2 f23 f24 f28 => q h2 ((mp_ui (c := 0) mp_same.rf (by decide)).tr (e2.same (by decide))) H2 f23 f24 f28 (SR_md (g := mg_ui h 0 0 0) S e2 (by decide)))
def PU (n : Nat) (z t pr : Nat → Nat) (m T : Nat) : Prop := (1 ≤ T ∧ T ≤ 30) ∧ ∃ w, w ≤ m ∧ TL z (2 ^ n - 1) (c4 t) (fun s => sw pr s 4) T w
theorem sp_purse {Q : Int32 → mg_H → Prop} {h : mg_H} {k n m : Nat} {z t pr : Nat → Nat} (ok : mp_shs h) (hv : 0 ≤ nI k ∧ nI k ≤ mg_i h 5 0 - 1) (hk : k < 2) (S : SR (mg_i h) k n z t pr) (hm : m ≤ 99) (q : ∀ v h', mp_same h h' → isB v (PU n z t pr m) → Q v h') : wp_purse Q (nI k) (nI m) h := by
  have SHh := S.sh
  unfold wp_purse
  rintro _ rfl
  refine sp_inT (lo := 0) (hi := 99) (Nat.zero_le m) hm (by decide) (bq_f (by decide) (sp_hand0 ok hv hk S (fun h2 es2 H2 f23 f24 _ S2 => bq_nt (by decide) ?_)))
  refine sp_layOut (wt := fun s => sw pr s 4) H2 SHh.zok SHh.m SHh.ok (fun h' e s hs hsb Q q => sp_costP ((e.2 23 (by decide)).trans f23) hk (SR_md S2 e (by decide)) hs hsb q) (fun s _ => sw_b S s) (fun h3 e3 C3 => ?_)
  exact sp_bitsC SHh.zok SHh.ok (fun s _ => sw_b S s) (by omega) C3 (fun v hv => q v h3 (es2.tr (e3.same (by decide))) hv)
theorem isB_diff {v v' : Int32} {p p' : Nat → Prop} (h : isB v p) (h' : isB v' p') : isB (v &&& (v' ^^^ (-1))) (fun T => p T ∧ ¬ p' T) := by
  obtain ⟨a, rfl, ha⟩ := h
  obtain ⟨b, rfl, hb⟩ := h'
  refine ⟨a ^^^ (a &&& b), ?_, Nat.xor_lt_two_pow ha.1 (Nat.lt_of_le_of_lt Nat.and_le_left ha.1), fun i => ?_⟩
  · apply b_ext
    intro i hi
    rw [b_and, bt_not _ hi, bt_nI _ hi, bt_nI _ hi, bt_nI _ hi, Nat.testBit_xor, Nat.testBit_and]
    cases a.testBit i <;> cases b.testBit i <;> rfl
  · show (a ^^^ (a &&& b)).testBit i = true ↔ (p i ∧ ¬ p' i)
    rw [Nat.testBit_xor, Nat.testBit_and, ← ha.2 i, ← hb.2 i]
    cases a.testBit i <;> cases b.testBit i <;> simp
theorem md.c0 {h : mg_H} {L S : List Nat} : md L (0 :: S) h (mg_ui h 0 0 0) := md.u0 md.rf (by simp)
theorem sp_apart {Q : Int32 → mg_H → Prop} {h : mg_H} {k k2 n n2 : Nat} {z t pr z2 t2 pr2 : Nat → Nat} (ok : mp_shs h) (hv : 0 ≤ nI k ∧ nI k ≤ mg_i h 5 0 - 1) (hk : k < 2) (S : SR (mg_i h) k n z t pr) (hv2 : 0 ≤ nI k2 ∧ nI k2 ≤ mg_i h 5 0 - 1) (hk2 : k2 < 2) (S2 : SR (mg_i h) k2 n2 z2 t2 pr2) (q : ∀ v h', mp_same h h' → isB v (fun T => TB n z t (2 ^ n - 1) T ∧ ¬ TB n2 z2 t2 (2 ^ n2 - 1) T) → Q v h') : wp_apart Q (nI k) (nI k2) h := by
  unfold wp_apart
  rintro _ rfl
  have full : ∀ n, sb (2 ^ n - 1) (2 ^ n - 1) := fun n => by unfold sb; rw [Nat.and_self]
  refine sp_is (mp_in0 (by decide) (by decide)) (fun _ _ => bq_f (by decide) ?_) (fun c => absurd hv2 (mp_not c))
  refine sp_hand0 ok hv hk S (fun h2 es2 H2 f23 f24 _ Sa => bq_nt (by decide) ?_)
  rw [H2.2.1]
  refine sp_timesOf f23 hk Sa (full n) (fun v1 h3 e3 hv1 => ?_)
  have es3 : mp_same h h3 := es2.tr (e3.same (by decide))
  have ok3 : mp_shs h3 := by
    obtain ⟨⟨m, a, b⟩, c⟩ := ok
    exact ⟨⟨m, a, by rw [es3 5 (by decide)]; exact b⟩, fun d hd => by rw [es3 6 (by decide)]; exact c d hd⟩
  have S3 : SR (mg_i h3) k2 n2 z2 t2 pr2 := by
    have E : ∀ j, mg_i h3 6 j = mg_i h 6 j := es3 6 (by decide)
    unfold SR at *
    simp only [E]
    exact S2
  refine sp_handS ok3 (by rw [es3 5 (by decide)]; exact hv2) hk2 S3 (fun h4 e4 H4 g23 g24 _ => ?_)
  rw [H4.2.1]
  have S4 : SR (mg_i h4) k2 n2 z2 t2 pr2 := SR_md S3 e4 (by decide)
  refine sp_timesOf g23 hk2 S4 (full n2) (fun v2 h5 e5 hv2 => ?_)
  exact q _ h5 ((es3.tr (e4.same (by decide))).tr (e5.same (by decide))) (isB_diff hv1 hv2)
theorem mp_ones_I {s : Nat} (hs : s < 2 ^ 31) : ∀ k, k ≤ 4 → mp_ones (nI s) k = nI (sw (fun _ => 1) s k)
  | 0, _ => rfl
  | k + 1, hk => by
    have ih := mp_ones_I hs k (by omega)
    simp only [mp_ones, sw]
    rw [ih]
    cases e : s.testBit k
    · rw [if_neg (fun c => by rw [(has_I hs (by omega)).mp c] at e; cases e), nl_0, nI_add]; rfl
    · rw [if_pos ((has_I hs (by omega)).mpr e), nl_1, nI_add]; rfl
theorem sp_ones4 {Q : Int32 → mg_H → Prop} {h : mg_H} {s : Nat} (hs : s < 16) (q : Q (nI (on4 s)) h) : wp_ones Q (nI s) h := by
  refine sp_ones ?_
  rw [mp_ones_I (by omega) 4 (Nat.le_refl 4)]; exact q
/-- the frame of the searches of one shelf -/
def fs (h h' : mg_H) : Prop := md [27, 28, 40] [25, 26, 39] h h'
theorem sp_fewest {Q : Int32 → mg_H → Prop} {h : mg_H} {k n T : Nat} {z t pr : Nat → Nat} (h23 : mg_i h 0 23 = nI k) (h25 : mg_i h 0 25 = nI (2 ^ n - 1)) (hk : k < 2) (S : SR (mg_i h) k n z t pr) (h1 : 1 ≤ T) (h30 : T ≤ 30) (q : ∀ v h', md [27, 28, 40] [25, 26, 39] h h' → NE n z t T v → Q v h') : wp_fewest Q (nI T) h := by
  have hn4 := S.1
  have hp := pow_n hn4
  have hp1 := Nat.two_pow_pos n
  unfold wp_fewest
  intro R10 R33 R38 R63 R64 c10 c33 c38 c63 c64 z1 e1
  rw [h25] at e1
  subst e1
  have P : ∃ P : Nat → Int32 → Prop, ∀ k v, P k v ↔ ((v = nM ∧ ∀ s, s < k → sb s (2 ^ n - 1) → ¬ TB n z t s T) ∨ ∃ s, v = nI s ∧ s < k ∧ sb s (2 ^ n - 1) ∧ TB n z t s T ∧ ∀ s', s' < k → sb s' (2 ^ n - 1) → TB n z t s' T → on4 s ≤ on4 s' ∧ (on4 s' = on4 s → s ≤ s')) := ⟨_, fun _ _ => Iff.rfl⟩
  obtain ⟨P, hP⟩ := P
  refine lp (σ := Int32 × mg_H) (R := fun k u => R10 u.1 (nI (2 ^ n - 1)) (nI k) u.2) (fun k u => md [27, 28, 40] [25, 26, 39] h u.2 ∧ P k u.1) 0 (2 ^ n) (Nat.zero_le _) ?_ ?_ (-1, h) ⟨md.rf, (hP _ _).mpr (Or.inl ⟨rfl, fun s hs => absurd hs (Nat.not_lt_zero s)⟩)⟩
  · rintro ⟨v, h'⟩ ⟨e, hv⟩
    refine c10 _ _ _ _ (bq_t (nI_lt (by omega) (by omega)) (q v h' e ?_))
    rcases (hP _ _).mp hv with ⟨a, b⟩ | ⟨s, a, a0, b, c, d⟩
    · exact Or.inl ⟨a, fun s hs => b s (by have := sb_le hs; omega) hs⟩
    · exact Or.inr ⟨s, a, b, c, fun s' hs' => d s' (by have := sb_le hs'; omega) hs'⟩
  · rintro j ⟨v, h'⟩ _ hj ⟨e, hv⟩ ih
    simp only at e hv ih ⊢
    have hsb : sb j (2 ^ n - 1) := sb_full.mpr (by omega)
    have nxt : ∀ v' h2, md [27, 28, 40] [25, 26, 39] h h2 → P (j + 1) v' → R64 (nI (2 ^ n - 1)) (nI j) v' h2 := by
      intro v' h2 a1 a3
      refine c64 _ _ _ _ ?_
      rintro _ rfl
      rw [nI_1]
      exact ih (v', h2) ⟨a1, a3⟩
    have keep : ((∀ s, v = nI s → s < 16 → ¬ on4 j < on4 s) ∧ v ≠ nM ∨ ¬ TB n z t j T) → P (j + 1) v := by
      intro hx
      refine (hP _ _).mpr ?_
      rcases (hP _ _).mp hv with ⟨a, b⟩ | ⟨s, a, a0, b, c, d⟩
      · refine Or.inl ⟨a, fun s hs hs2 ht => ?_⟩
        rcases Nat.lt_or_ge s j with h9 | h9
        · exact b s h9 hs2 ht
        · rw [show s = j by omega] at ht
          rcases hx with ⟨_, hx⟩ | hx
          · exact hx a
          · exact hx ht
      · refine Or.inr ⟨s, a, by omega, b, c, fun s' hs hs2 ht => ?_⟩
        rcases Nat.lt_or_ge s' j with h9 | h9
        · exact d s' h9 hs2 ht
        · rw [show s' = j by omega] at ht ⊢
          rcases hx with ⟨hx, _⟩ | hx
          · have h8 := hx s a (by omega)
            exact ⟨by omega, fun _ => by omega⟩
          · exact absurd ht hx
    have go : (v = nM ∨ ∃ s, v = nI s ∧ s < 16 ∧ on4 j < on4 s) → R38 v (nI (2 ^ n - 1)) (nI j) 1 h' := by
      intro hfew
      refine c38 _ _ _ _ _ (bq_f (by decide) (sp_timesOf ((e.2 23 (by decide)).trans h23) hk (SR_md S e (by decide)) hsb (fun w h2 e2 hw => ?_)))
      obtain ⟨Bw, rfl, hBw⟩ := hw
      refine lb_has hBw.1 (by omega) (fun hb => ⟨fun c => absurd c (by decide), fun _ => nxt _ _ (e.tr e2) ?_⟩) (fun hb => ⟨fun _ => c63 _ _ _ _ (nxt _ _ (e.tr e2) (keep (Or.inr (fun ht => ?_)))), fun c => absurd rfl c⟩)
      · refine (hP _ _).mpr (Or.inr ⟨j, rfl, by omega, hsb, (hBw.2 T).mp hb, fun s' hs hs2 ht => ?_⟩)
        rcases Nat.lt_or_ge s' j with h9 | h9
        · rcases (hP _ _).mp hv with ⟨a, b⟩ | ⟨s, a, a0, b, c, d⟩
          · exact absurd ht (b s' h9 hs2)
          · have h8 := d s' h9 hs2 ht
            rcases hfew with hf | ⟨s2, f1, f2, f3⟩
            · rw [a, nI_eqM (by omega)] at hf; exact hf.elim
            · have := (nI_eq (a := s) (b := s2) (by omega) (by omega)).mp (a.symm.trans f1)
              subst this
              omega
        · rw [show s' = j by omega]; exact ⟨Nat.le_refl _, fun _ => Nat.le_refl _⟩
      · have := (hBw.2 T).mpr ht
        rw [hb] at this; cases this
    refine c10 _ _ _ _ (bq_f (nI_nlt (by omega) (by omega)) ?_)
    by_cases hvM : v = nM
    · exact bq_t hvM (c33 _ _ _ _ (go (Or.inl hvM)))
    · refine bq_f hvM ?_
      obtain ⟨s, a, a0, b, c, d⟩ : ∃ s, v = nI s ∧ s < j ∧ sb s (2 ^ n - 1) ∧ TB n z t s T ∧ ∀ s', s' < j → sb s' (2 ^ n - 1) → TB n z t s' T → on4 s ≤ on4 s' ∧ (on4 s' = on4 s → s ≤ s') := ((hP _ _).mp hv).elim (fun q => absurd q.1 hvM) id
      have ho1 := on4_le s
      have ho2 := on4_le j
      rw [a]
      refine sp_ones4 (by omega) (sp_ones4 (by omega) ⟨fun c9 => ?_, fun c9 => ?_⟩)
      · have h9 := (nI_leI (by omega) (by omega)).mp c9
        rw [← a]
        exact c38 _ _ _ _ _ (bq_t rfl (c63 _ _ _ _ (nxt v h' e (keep (Or.inl ⟨fun s2 f1 f2 => (by have := (nI_eq (a := s) (b := s2) (by omega) (by omega)).mp (a.symm.trans f1); subst this; omega), hvM⟩)))))
      · rw [← a]
        exact c33 _ _ _ _ (go (Or.inr ⟨s, a, by omega, Nat.lt_of_not_le (fun h9 => c9 (nI_le h9 (by omega)))⟩))
/-- what need answers: how many, or which -/
def ND (n : Nat) (z t : Nat → Nat) (T : Nat) (which : Prop) (v : Int32) : Prop := ∃ u, NE n z t T u ∧ ((u = nM ∧ v = nM) ∨ ∃ s, u = nI s ∧ s < 16 ∧ (which → v = nI s) ∧ (¬ which → v = nI (on4 s)))
theorem ND_one {n : Nat} {z t : Nat → Nat} {T : Nat} {which : Prop} {v v' : Int32} (h : ND n z t T which v) (h' : ND n z t T which v') : v = v' := by
  obtain ⟨u, a, b⟩ := h
  obtain ⟨u', a', b'⟩ := h'
  have e := NE_one a a'
  subst e
  rcases b with ⟨b1, b2⟩ | ⟨s, b1, b2, b3, b4⟩ <;> rcases b' with ⟨d1, d2⟩ | ⟨s', d1, d2, d3, d4⟩
  · rw [b2, d2]
  · rw [b1, nM_eqI (by omega)] at d1; exact d1.elim
  · rw [d1, nM_eqI (by omega)] at b1; exact b1.elim
  · have e := (nI_eq (a := s) (b := s') (by omega) (by omega)).mp (b1.symm.trans d1)
    subst e
    by_cases w : which
    · rw [b3 w, d3 w]
    · rw [b4 w, d4 w]
theorem sp_need {Q : Int32 → mg_H → Prop} {h : mg_H} {k n T : Nat} {x3 : Int32} {z t pr : Nat → Nat} (ok : mp_shs h) (hv : 0 ≤ nI k ∧ nI k ≤ mg_i h 5 0 - 1) (hk : k < 2) (S : SR (mg_i h) k n z t pr) (h1 : 1 ≤ T) (h30 : T ≤ 30) (q : ∀ v h', mp_same h h' → ND n z t T (¬ x3 = 0) v → Q v h') : wp_need Q (nI k) (nI T) x3 h := by
  have hp := pow_n S.1
  have hp1 := Nat.two_pow_pos n
  unfold wp_need
  intro R42 c42
  rintro _ rfl
  refine sp_inT (lo := 1) (hi := 30) h1 h30 (by decide) (bq_f (by decide) (sp_hand0 ok hv hk S (fun h2 es2 H2 f23 f24 _ S2 => bq_nt (by decide) ?_)))
  refine sp_fewest f23 H2.2.1 hk S2 h1 h30 (fun v h3 e3 hne => ?_)
  have es3 := es2.tr (e3.same (by decide))
  rcases id hne with ⟨e, _⟩ | ⟨s, e, hs, _⟩
  · exact bq_t e (c42 _ _ (q v h3 es3 ⟨v, hne, Or.inl ⟨e, e⟩⟩))
  · have hl := sb_le hs
    rw [e] at hne ⊢
    refine bq_f (by rw [nl_m1, nI_eqM (by omega)]; exact id) ?_
    by_cases hx : x3 = 0
    · exact bq_t hx (sp_ones4 (by omega) (q _ h3 es3 ⟨nI s, hne, Or.inr ⟨s, rfl, by omega, fun h9 => absurd hx h9, fun _ => rfl⟩⟩))
    · exact bq_f hx (c42 _ _ (q _ h3 es3 ⟨nI s, hne, Or.inr ⟨s, rfl, by omega, fun _ => rfl, fun h9 => absurd hx h9⟩⟩))
/-- couples of glasses of which P is so -/
noncomputable def cpl (n : Nat) (P : Nat → Nat → Prop) : Nat := fb_sm (fun a => fb_sm (fun b => if dcd (P a b) then 1 else 0) a) n
theorem sp_couples {Q : Int32 → mg_H → Prop} {h : mg_H} {k n T : Nat} {z t pr : Nat → Nat} (ok : mp_shs h) (hv : 0 ≤ nI k ∧ nI k ≤ mg_i h 5 0 - 1) (hk : k < 2) (S : SR (mg_i h) k n z t pr) (h1 : 1 ≤ T) (h30 : T ≤ 30) (q : ∀ h', mp_same h h' → Q (nI (cpl n (fun a b => TB n z t (2 ^ a ||| 2 ^ b) T))) h') : wp_couples Q (nI k) (nI T) h := by
  have hn4 := S.1
  unfold wp_couples
  intro R30 R42 R75 c30 c42 c75
  rintro _ rfl
  refine sp_inT (lo := 1) (hi := 30) h1 h30 (by decide) (bq_f (by decide) (sp_hand0 ok hv hk S (fun h2 es2 H2 f23 f24 _ S2 => bq_nt (by decide) ?_)))
  refine lp (σ := mg_H) (R := fun a s => R30 (nI (fb_sm (fun a => fb_sm (fun b => if dcd (TB n z t (2 ^ a ||| 2 ^ b) T) then 1 else 0) a) a)) (nI a) s) (fun a s => md [27, 28, 40] [25, 26, 39] h2 s) 0 n (Nat.zero_le n) ?_ ?_ h2 md.rf
  · intro s e
    exact c30 _ _ _ (bq_t (by rw [(e.2 24 (by decide)).trans f24]; exact nI_le (Nat.le_refl n) (by omega)) (q s (es2.tr (e.same (by decide)))))
  · intro a s _ ha e ih
    refine c30 _ _ _ (bq_f (by rw [(e.2 24 (by decide)).trans f24]; exact nI_ge ha (by omega)) ?_)
    refine lp (σ := mg_H) (R := fun b s => R42 (nI (fb_sm (fun a => fb_sm (fun b => if dcd (TB n z t (2 ^ a ||| 2 ^ b) T) then 1 else 0) a) a + fb_sm (fun b => if dcd (TB n z t (2 ^ a ||| 2 ^ b) T) then 1 else 0) b)) (nI a) (nI b) s) (fun b s => md [27, 28, 40] [25, 26, 39] h2 s) 0 a (Nat.zero_le a) ?_ ?_ s e
    · intro s e
      refine c42 _ _ _ _ (bq_t (nI_le (Nat.le_refl a) (by omega)) ?_)
      rintro _ rfl
      rw [nI_1]
      exact ih s e
    · intro b s _ hb e ih2
      have join : ∀ u s2, md [27, 28, 40] [25, 26, 39] h2 s2 → u = (if dcd (TB n z t (2 ^ a ||| 2 ^ b) T) then 1 else 0) → R75 (nI a) (nI b) (nI u) (nI (fb_sm (fun a => fb_sm (fun b => if dcd (TB n z t (2 ^ a ||| 2 ^ b) T) then 1 else 0) a) a + fb_sm (fun b => if dcd (TB n z t (2 ^ a ||| 2 ^ b) T) then 1 else 0) b)) s2 := by
        rintro u s2 e2 rfl
        refine c75 _ _ _ _ _ ?_
        rintro _ rfl _ rfl
        rw [nI_add, nI_1, Nat.add_assoc]
        exact ih2 s2 e2
      refine c42 _ _ _ _ (bq_f (nI_ge hb (by omega)) ?_)
      rw [bit_I (by omega), bit_I (by omega), fa_or]
      have hset : sb (2 ^ a ||| 2 ^ b) (2 ^ n - 1) := by
        unfold sb
        apply Nat.eq_of_testBit_eq
        intro i
        rw [Nat.testBit_and, full_bit, Nat.testBit_or, Nat.testBit_two_pow, Nat.testBit_two_pow]
        by_cases e1 : a = i
        · subst e1; simp [ha]
        · by_cases e2 : b = i
          · subst e2; simp; omega
          · simp [e1, e2]
      refine sp_timesOf ((e.2 23 (by decide)).trans f23) hk (SR_md S2 e (by decide)) hset (fun w h3 e3 hw => ?_)
      obtain ⟨Bw, rfl, hBw⟩ := hw
      refine lb_has hBw.1 (by omega) (fun hb => ⟨fun c => absurd c (by decide), fun _ => join 1 h3 (e.tr e3) ?_⟩) (fun hb => ⟨fun _ => join 0 h3 (e.tr e3) ?_, fun c => absurd rfl c⟩)
      · have ht : TB n z t (2 ^ a ||| 2 ^ b) T := (hBw.2 T).mp hb
        rw [dcd_iff.mpr ht]; rfl
      · have ht : ¬ TB n z t (2 ^ a ||| 2 ^ b) T := fun ht => by
          have := (hBw.2 T).mpr ht
          rw [hb] at this; cases this
        rw [dcd_f.mpr ht]; rfl
theorem CL_rc {z : Nat → Nat} {m c0 t c : Nat} {wt : Nat → Nat} {g : mg_H} (hB : ∀ s, s ≤ m → wt s ≤ 40) (C : CL z m wt (fun a => a = c0) 0 30 g) (ht : t ≤ 30) (hc : c < 4096) : mg_i g 40 (4096 * t + c) = nM ↔ ¬ rc z m c0 t c := by
  rcases C t c (Nat.zero_le t) ht hc with ⟨a, b⟩ | ⟨m0, a, b, _⟩
  · refine ⟨fun _ hr => ?_, fun _ => a⟩
    obtain ⟨k, w, hp⟩ := rc_to (wt := wt) hr
    exact b w (PF_one.mpr ⟨k, hp⟩)
  · have := CL_b hB ht b
    refine ⟨fun e => ?_, fun hno => ?_⟩
    · rw [a, nI_eqM (by omega)] at e; exact e.elim
    · obtain ⟨k, hp⟩ := PF_one.mp b
      exact absurd (rc_of hp) hno
theorem sp_crowd {Q : Int32 → mg_H → Prop} {h : mg_H} {k n T : Nat} {z t pr : Nat → Nat} (ok : mp_shs h) (hv : 0 ≤ nI k ∧ nI k ≤ mg_i h 5 0 - 1) (hk : k < 2) (S : SR (mg_i h) k n z t pr) (h30 : T ≤ 30) (q : ∀ h', mp_same h h' → Q (nI (cntc (fun c => rc z (2 ^ n - 1) (c4 t) T c))) h') : wp_crowd Q (nI k) (nI T) h := by
  have SHh := S.sh
  have hB : ∀ s, s ≤ 2 ^ n - 1 → on4 s ≤ 40 := fun s _ => Nat.le_trans (on4_le s) (by decide)
  unfold wp_crowd
  intro R35 R66 c35 c66
  rintro _ rfl
  refine sp_inT (lo := 0) (hi := 30) (Nat.zero_le T) h30 (by decide) (bq_f (by decide) (sp_hand0 ok hv hk S (fun h2 es2 H2 f23 f24 _ S2 => bq_nt (by decide) ?_)))
  refine sp_layOut (wt := on4) H2 SHh.zok SHh.m SHh.ok (fun h' _ s hs _ Q q => sp_cost0 hs q) hB (fun h3 e3 C3 => ?_)
  refine mp_up (P := fun c => R35 (nI (fb_ct (fun c => dcd (rc z (2 ^ n - 1) (c4 t) T c)) c)) (nI c) h3) (n := 4096) (c35 _ _ _ (bq_t (by decide) (q h3 (es2.tr (e3.same (by decide)))))) (fun c hc ih => ?_)
  have join : ∀ u, u = (if dcd (rc z (2 ^ n - 1) (c4 t) T c) then 1 else 0) → R66 (nI c) (nI u) (nI (fb_ct (fun c => dcd (rc z (2 ^ n - 1) (c4 t) T c)) c)) h3 := by
    rintro u rfl
    refine c66 _ _ _ _ ?_
    rintro _ rfl _ rfl
    rw [nI_add, nI_1]
    rw [fb_ct_succ] at ih
    exact ih
  refine c35 _ _ _ (bq_f (nI_ge hc (by decide)) ?_)
  rw [nl_4096, pk_mul, nI_add, nI_clamp (by omega)]
  have hr := CL_rc hB C3 h30 hc
  refine ⟨vp_in_nI (show 4096 * T + c < 126976 by omega) (by decide), fun e => join 0 ?_, fun e => join 1 ?_⟩
  · rw [dcd_f.mpr (hr.mp e)]; rfl
  · rw [dcd_iff.mpr (Classical.byContradiction (fun hno => e (hr.mpr hno)))]; rfl
theorem sp_same {Q : Int32 → mg_H → Prop} {h : mg_H} {k n T : Nat} {z t pr : Nat → Nat} (ok : mp_shs h) (hv : 0 ≤ nI k ∧ nI k ≤ mg_i h 5 0 - 1) (hk : k < 2) (S : SR (mg_i h) k n z t pr) (h1 : 1 ≤ T) (h30 : T ≤ 30) (q1 : ∀ h', mp_same h h' → SM z (2 ^ n - 1) (c4 t) T → Q 1 h') (q0 : ∀ h', mp_same h h' → ¬ SM z (2 ^ n - 1) (c4 t) T → Q 0 h') : wp_same Q (nI k) (nI T) h := by
  have H := S.sh
  have hz := H.zok
  have hc := H.ok
  have hm := H.m
  unfold wp_same
  intro R33 c33
  rintro _ rfl
  refine sp_inT (lo := 1) (hi := 30) h1 h30 (by decide) (bq_f (by decide) (sp_hand0 ok hv hk S (fun h2 es2 H2 f23 f24 _ S2 => bq_nt (by decide) ?_)))
  rintro _ rfl
  rw [H2.2.2]
  refine lp (σ := mg_H) (R := fun i s => R33 (nI (ft z (2 ^ n - 1) (c4 t) i)) (nI (fc z (2 ^ n - 1) (c4 t) i)) s) (fun i s => md [] [39] h2 s ∧ (i = 0 ∨ 0 < dl z (c4 t) (2 ^ n - 1)) ∧ ∀ j, j < i → ft z (2 ^ n - 1) (c4 t) j < T) 0 (T + 1) (Nat.zero_le _) ?_ ?_ h2 ⟨md.rf, Or.inl rfl, fun j hj => absurd hj (Nat.not_lt_zero j)⟩
  · rintro s ⟨e, hd, hlt⟩
    have hd : 0 < dl z (c4 t) (2 ^ n - 1) := hd.elim (fun h => by omega) id
    have h2 := ft_mono H hc hd (i := 0) T
    rw [Nat.zero_add] at h2
    have := hlt T (by omega)
    omega
  · rintro i s _ hi ⟨e, hd, hlt⟩ ih
    have h4 := ft_le (m := 2 ^ n - 1) (c0 := c4 t) hz i
    have es : mp_same h s := es2.tr (e.same (by decide))
    by_cases hT : T ≤ ft z (2 ^ n - 1) (c4 t) i
    · have hd : 0 < dl z (c4 t) (2 ^ n - 1) := hd.elim (fun h => by subst h; have : ft z (2 ^ n - 1) (c4 t) 0 = 0 := rfl; omega) id
      refine c33 _ _ _ (bq_t (nI_le hT (by omega)) ⟨fun c => q0 s es (fun ⟨_, k', ek⟩ => c ?_), fun c => q1 s es ⟨hd, i, (nI_eq (by omega) (by omega)).mp c⟩⟩)
      rcases Nat.lt_trichotomy k' i with h9 | h9 | h9
      · have := hlt k' h9; omega
      · rw [← h9, ek]
      · have := ft_mono H hc hd (i := i) (k' - i)
        rw [show i + (k' - i) = k' by omega] at this
        omega
    · refine c33 _ _ _ (bq_f (nI_ge (by omega) (by omega)) ?_)
      rw [(e.2 25 (by decide)).trans H2.2.1]
      refine sp_next hz (fun j hj => (e.1 27 (by decide) (by decide) j).trans (H2.1 j hj)) (fc_ok hz hc i) hm (fun d0 => bq_nf rfl (q0 s es (fun ⟨a, _⟩ => ?_))) (fun d0 => ?_)
      · have := dl_all H hc a i
        omega
      · have hd7 := dl_le (c := fc z (2 ^ n - 1) (c4 t) i) (s := 2 ^ n - 1) hz
        refine bq_nt (fun e9 => by have := (nI_eq (a := dl z (fc z (2 ^ n - 1) (c4 t) i) (2 ^ n - 1)) (b := 0) (by omega) (by decide)).mp e9; omega) ?_
        rintro _ rfl _ rfl
        rw [nI_add, mi_same]
        refine ih _ ⟨md.u0 e (by decide), Or.inr ?_, fun j hj => ?_⟩
        · rcases hd with rfl | hd
          · exact d0
          · exact hd
        · rcases Nat.lt_or_ge j i with h9 | h9
          · exact hlt j h9
          · rw [show j = i by omega]; omega
