/-! Book: fewestTurns, leastSpan, findRow, usedInRow, rowAt -/
def RZ (h : xg_H) (nm : Nat → Nat) : Prop := ∀ c, c < 4096 → xg_i h (nm 31) c = nI 0
def ST (Y : xg_Y) (h : xg_H) (nm : Nat → Nat) : Prop := LSt Y h nm ∧ KN h nm ∧ RZ h nm
/-- nothing has changed but in the book at B and what Steps knows -/
def bf (nm : Nat → Nat) (B : Nat) (h h2 : xg_H) : Prop := (∀ c, (c < B ∨ B + 100 ≤ c) → c ∉ [31, 32] → ∀ j, xg_i h2 (nm c) j = xg_i h (nm c) j ∧ xg_l h2 (nm c) j = xg_l h (nm c) j) ∧ ∀ c j, xg_o h2 (nm c) j = xg_o h (nm c) j
theorem bf.rf {nm : Nat → Nat} {B : Nat} {h : xg_H} : bf nm B h h := ⟨fun _ _ _ _ => ⟨rfl, rfl⟩, fun _ _ => rfl⟩
theorem bf.tr {nm : Nat → Nat} {B : Nat} {h h2 h3 : xg_H} (a : bf nm B h h2) (b : bf nm B h2 h3) : bf nm B h h3 := ⟨fun c h1 h2 j => ⟨(b.1 c h1 h2 j).1.trans (a.1 c h1 h2 j).1, (b.1 c h1 h2 j).2.trans (a.1 c h1 h2 j).2⟩, fun c j => (b.2 c j).trans (a.2 c j)⟩
theorem bf.of {nm : Nat → Nat} {B : Nat} {P L K : List Nat} {h h2 : xg_H} (a : xe nm B P L K h h2) (hK : ∀ c ∈ K, c ∈ [31, 32]) : bf nm B h h2 := ⟨fun c h1 h2 j => a.2.2.1 c h1 (fun q => h2 (hK c q)) j, a.2.2.2⟩
theorem ST.mv {Y : xg_Y} {nm : Nat → Nat} {B : Nat} {P L : List Nat} {h h2 : xg_H} (a : ST Y h nm) (e : xe nm B P L [] h h2) (hB : 500 ≤ B) : ST Y h2 nm := by
  obtain ⟨a1, a2, a3⟩ := a
  refine ⟨⟨a1.1, (e.2.2.2 30 0).trans a1.2.1, a1.2.2.1, (e.2.2.2 30 1).trans a1.2.2.2.1, a1.2.2.2.2⟩, fun c hc => ?_, fun c hc => ?_⟩
  · rw [(e.2.2.1 32 (by omega) (by decide) c).1]; exact a2 c hc
  · rw [(e.2.2.1 31 (by omega) (by decide) c).1]; exact a3 c hc
def BJ (Y : xg_Y) (h : xg_H) (nm : Nat → Nat) (B N N2 n : Nat) (z t : Nat → Nat) : Prop := LB Y h nm B N N2 ∧ ST Y h nm ∧ BI h nm B N n z t ∧ ∀ i c0, sb i (2 ^ n - 1) → i ≠ 2 ^ n - 1 → cap i c0 N2
theorem lsG_one {P : Nat → Prop} {x y : Nat} (h : lsG P x) (hy : lsN P y) : x = y := by
  rcases h with ⟨_, b⟩ | ⟨_, b, c⟩
  · exact absurd hy.1 (b y)
  · have := c y hy.1
    have := hy.2 x b
    omega
theorem lsG_lsN {P : Nat → Prop} {x : Nat} (h : lsG P x) (hex : ∃ y, P y) : x < 1000000 ∧ lsN P x := by
  rcases h with ⟨_, b⟩ | ⟨a, b, c⟩
  · obtain ⟨y, hy⟩ := hex; exact absurd hy (b y)
  · exact ⟨a, b, c⟩
/-- turns are known behind this -/
theorem BJ.turns {Y : xg_Y} {Q : xg_H → Prop} {h : xg_H} {nm : Nat → Nat} {B N N2 n : Nat} {z t : Nat → Nat} (hn : inj nm) (J : BJ Y h nm B N N2 n z t) (q : ∀ h', BJ Y h' nm B N N2 n z t → bf nm B h h' → xg_i h' (nm B) 17 = nI 1 → xg_i h' (nm B) 19 = nI 1 → (∀ k, k ≠ 17 → k ≠ 19 → xg_i h' (nm B) k = xg_i h (nm B) k) → Q h') : wp_X1_knowTurns Y Q (nm B) h := by
  obtain ⟨L, S, ⟨r, cs, C, b1, b2, b3, b4, b5, b6⟩, hc⟩ := J
  refine sp_X1_knowTurns hn L C (fun h' e f2 f3 => ?_)
  refine q h' ⟨L.mv e (by decide), S.mv e L.2.2.2.2.2.2.2.2.2.2.2, ⟨r, cs, C.mv e (by decide) (by decide) (by decide) (by decide) (by decide) (by decide) (by decide) (by decide) (by decide), b1.mv e (by decide), f2.2, f3.2, b4.mv e (by decide) (by decide), b5.mv e (by decide) (by decide) (by decide) (by decide), b6.mv e (by decide) (by decide)⟩, hc⟩ (bf.of e (by simp)) f2.1 f3.1 (fun k h1 h2 => e.1 k (by simp <;> omega))
theorem one_ne : ¬ (nI 1 = (0 : Int32)) := by decide
theorem sp_X1_fewestTurns {Y : xg_Y} {Q : Int32 → xg_H → Prop} {h : xg_H} {nm : Nat → Nat} {B N N2 n T : Nat} {z t : Nat → Nat} (hn : inj nm) (J : BJ Y h nm B N N2 n z t) (h1 : 1 ≤ T) (h30 : T ≤ 30) (q : ∀ h' x, BJ Y h' nm B N N2 n z t → bf nm B h h' → x ≤ 1000000 → lsG (TL z (2 ^ n - 1) (c4 t) on4 T) x → Q (nI x) h') : wp_X1_fewestTurns Y Q (nm B) (nI T) h := by
  unfold wp_X1_fewestTurns
  refine ⟨J.1.1, fun R11 c11 => ?_⟩
  have fin : ∀ h', BJ Y h' nm B N N2 n z t → bf nm B h h' → xg_i h' (nm B) 17 = nI 1 → R11 h' := by
    intro h' J' e f
    obtain ⟨L0, S, ⟨r, cs, C, b1, b2, b3, b4, b5, b6⟩, hc⟩ := J'
    obtain ⟨k1, ⟨o0, LWw⟩, ⟨o1, LWp⟩, ⟨o2, LCc⟩, ⟨o3, k4⟩, _⟩ := id L0
    have b2' := b2
    rcases b2' with b2' | ⟨_, b2'⟩
    · rw [f] at b2'; exact absurd b2' one_ne
    · obtain ⟨⟨x, x1, x2, x3⟩, _⟩ := b2' T h1 h30
      refine c11 _ ⟨nm (B + 4), o3, k4.1, ?_⟩
      rw [k4.2, nI_clamp (by omega), x1]
      exact ⟨vp_in_nI (by omega) (by decide), q h' x ⟨L0, S, ⟨r, cs, C, b1, b2, b3, b4, b5, b6⟩, hc⟩ e x2 x3⟩
  obtain ⟨L, S, ⟨r, cs, C, b1, b2, b3, b4, b5, b6⟩, hc⟩ := J
  rcases id b2 with e0 | ⟨e1, _⟩
  · rw [e0]
    exact bq_nf rfl (BJ.turns hn ⟨L, S, ⟨r, cs, C, b1, b2, b3, b4, b5, b6⟩, hc⟩ (fun h' J' e f _ _ => fin h' J' e f))
  · rw [e1]
    exact bq_nt one_ne (fin h ⟨L, S, ⟨r, cs, C, b1, b2, b3, b4, b5, b6⟩, hc⟩ bf.rf e1)
theorem sp_X1_leastSpan {Y : xg_Y} {Q : Int32 → xg_H → Prop} {h : xg_H} {nm : Nat → Nat} {B N N2 n T : Nat} {z t : Nat → Nat} (hn : inj nm) (J : BJ Y h nm B N N2 n z t) (h1 : 1 ≤ T) (h30 : T ≤ 30) (q : ∀ h' v, BJ Y h' nm B N N2 n z t → bf nm B h h' → lst (fun w => w ≤ 30 ∧ SPN z (2 ^ n - 1) (c4 t) T w) v → Q v h') : wp_X1_leastSpan Y Q (nm B) (nI T) h := by
  unfold wp_X1_leastSpan
  refine ⟨J.1.1, fun R11 c11 => ?_⟩
  have fin : ∀ h', BJ Y h' nm B N N2 n z t → bf nm B h h' → xg_i h' (nm B) 17 = nI 1 → R11 h' := by
    intro h' J' e f
    obtain ⟨L0, S, ⟨r, cs, C, b1, b2, b3, b4, b5, b6⟩, hc⟩ := J'
    obtain ⟨k1, ⟨o0, LWw⟩, ⟨o1, LWp⟩, ⟨o2, LCc⟩, ⟨o3, k4⟩, ⟨o4, k5⟩, ⟨o5, k6⟩, _⟩ := id L0
    rcases id b2 with b2' | ⟨_, b2'⟩
    · rw [f] at b2'; exact absurd b2' one_ne
    · obtain ⟨_, x, x1, x2, x3⟩ := b2' T h1 h30
      refine c11 _ ⟨nm (B + 6), o5, k6.1, ?_⟩
      rw [k6.2, nI_clamp (by omega), x1]
      have J' : BJ Y h' nm B N N2 n z t := ⟨L0, S, ⟨r, cs, C, b1, b2, b3, b4, b5, b6⟩, hc⟩
      refine ⟨vp_in_nI (by omega) (by decide), ?_⟩
      by_cases hx : 30 < x
      · refine bq_t (nI_lt hx (by omega)) (q h' _ J' e (Or.inl ⟨rfl, fun m hm => ?_⟩))
        rcases x3 with ⟨_, b⟩ | ⟨_, _, c⟩
        · exact b m hm.2
        · have := c m hm.2; omega
      · refine bq_f (nI_nlt (b := x) (a := 30) (by omega) (by decide)) ⟨vp_in_nI (by omega) (by decide), q h' _ J' e ?_⟩
        rcases x3 with ⟨a, _⟩ | ⟨_, b, c⟩
        · omega
        · exact Or.inr ⟨x, rfl, ⟨by omega, b⟩, fun j hj => c j hj.2⟩
  obtain ⟨L, S, ⟨r, cs, C, b1, b2, b3, b4, b5, b6⟩, hc⟩ := J
  rcases id b2 with e0 | ⟨e1, _⟩
  · rw [e0]
    exact bq_nf rfl (BJ.turns hn ⟨L, S, ⟨r, cs, C, b1, b2, b3, b4, b5, b6⟩, hc⟩ (fun h' J' e f _ _ => fin h' J' e f))
  · rw [e1]
    exact bq_nt one_ne (fin h ⟨L, S, ⟨r, cs, C, b1, b2, b3, b4, b5, b6⟩, hc⟩ bf.rf e1)
/-- of a row that tells T there is a best set -/
theorem OPT_ex {z : Nat → Nat} {m c T : Nat} (hT : 1 ≤ T) (hex : ∃ b, rc z m c T b) : ∃ s, s ≤ m ∧ OPT z m c T s := by
  obtain ⟨w, hw⟩ := TL_rc (wt := on4) |>.mpr hex
  obtain ⟨x, hx, hl⟩ := pk_least (fun w => TL z m c on4 T w) ⟨w, hw⟩
  have hls : lsN (TL z m c on4 T) x := ⟨hx, fun j hj => Nat.le_of_not_lt (fun h9 => hl j h9 hj)⟩
  obtain ⟨k, b, hp⟩ := hx
  cases k with
  | zero => obtain ⟨e, _⟩ := hp; omega
  | succ k =>
    obtain ⟨s, t', w', g1, g2, rfl, rfl, g5⟩ := hp
    refine ⟨s, sb_le g1, g1, g2, by omega, w', ⟨?_, fun j hj => ?_⟩, hls⟩
    · rw [Nat.add_sub_cancel_left]; exact ⟨k, b, g5⟩
    · rw [Nat.add_sub_cancel_left] at hj
      obtain ⟨k2, b2, h2⟩ := hj
      have := hls.2 (on4 s + j) ⟨k2 + 1, b2, s, t', j, g1, g2, rfl, rfl, h2⟩
      omega
/-- by and of are alike just at the best sets -/
theorem OPT_by {z : Nat → Nat} {m c T s x x' : Nat} (hx : lsN (TL z m c on4 T) x) (hx' : lsG (fun w => (sb s m ∧ 0 < dl z c s ∧ dl z c s ≤ T) ∧ ∃ w', TL z m (nc z c s) on4 (T - dl z c s) w' ∧ w = on4 s + w') x') (hlt : x < 1000000) : x' = x ↔ OPT z m c T s := by
  constructor
  · rintro rfl
    rcases hx' with ⟨a, _⟩ | ⟨_, ⟨⟨a1, a2, a3⟩, w', a4, a5⟩, b⟩
    · omega
    · refine ⟨a1, a2, a3, w', ⟨a4, fun j hj => ?_⟩, by rw [← a5]; exact hx⟩
      have := b (on4 s + j) ⟨⟨a1, a2, a3⟩, j, hj, rfl⟩
      omega
  · rintro ⟨a1, a2, a3, y, a4, a5⟩
    have e1 : x = on4 s + y := by
      have := hx.2 _ a5.1
      have := a5.2 _ hx.1
      omega
    rcases hx' with ⟨_, b⟩ | ⟨_, ⟨_, w', b1, b2⟩, b3⟩
    · exact absurd ⟨⟨a1, a2, a3⟩, y, a4.1, rfl⟩ (b (on4 s + y))
    · have := b3 (on4 s + y) ⟨⟨a1, a2, a3⟩, y, a4.1, rfl⟩
      have := a4.2 w' b1
      omega
theorem sp_X1_findRow {Y : xg_Y} {Q : xg_H → Prop} {h : xg_H} {nm : Nat → Nat} {B N N2 n T : Nat} {z t : Nat → Nat} (hn : inj nm) (J : BJ Y h nm B N N2 n z t) (h1 : 1 ≤ T) (h30 : T ≤ 30) (hex : ∃ b, rc z (2 ^ n - 1) (c4 t) T b) (q : ∀ h' Ln rs rm, BJ Y h' nm B N N2 n z t → bf nm B h h' → xg_i h' (nm B) 10 = nI Ln → Ln ≤ 30 → ROW z (2 ^ n - 1) (c4 t) T Ln rs rm → (∀ k, k < Ln → (xg_i h' (nm (B + 9)) k = nI (rs k) ∧ rs k ≤ 2 ^ n - 1) ∧ xg_i h' (nm (B + 10)) k = nI (rm k) ∧ rm k ≤ 30) → Q h') : wp_X1_findRow Y Q (nm B) (nI T) h := by
  unfold wp_X1_findRow
  refine ⟨J.1.1, fun R20 R37 R63 R110 c20 c37 c63 c110 => ?_⟩
  -- the search itself
  have go : ∀ h1, BJ Y h1 nm B N N2 n z t → bf nm B h h1 → xg_i h1 (nm B) 19 = nI 1 → R20 h1 := by
    intro h1 J1 e1 f1
    have J10 := J1
    obtain ⟨L, S, ⟨r, cs, C, b1, b2, b3, b4, b5, b6⟩, hcp⟩ := J1
    have L0 := L
    obtain ⟨k1, ⟨o0, LWw⟩, ⟨o1, LWp⟩, ⟨o2, LCc⟩, ⟨o3, k4⟩, ⟨o4, k5⟩, ⟨o5, k6⟩, ⟨o6, k7⟩, ⟨o7, k8⟩, ⟨o8, k9⟩, ⟨o9, k10⟩, hB⟩ := L
    have C0 := C
    obtain ⟨C0', C1, C2, C3, D, M, C6⟩ := C
    have hz := C0'.zok
    have hm := C0'.m
    have hr1 := D.1.1
    have hrN := D.1.2.1
    have hNb : N ≤ 1696 := LWw.2.2.2.2.2.2.2.2.1
    rcases id b3 with b3' | ⟨_, hE, hT⟩
    · rw [f1] at b3'; exact absurd b3' one_ne
    refine c20 _ ?_
    rintro _ rfl _ rfl
    have I : ∃ I : Nat → (Nat × Nat × xg_H) → Prop, ∀ k u, I k u ↔ (xe nm B [10, 11] [9, 10] [] h1 u.2.2 ∧ u.1 < r ∧ xg_i u.2.2 (nm B) 10 = nI k ∧ xg_i u.2.2 (nm B) 11 = nI T ∧ ∃ rs rm cc : Nat → Nat, (cc 0 = c4 t ∧ rm 0 = 0) ∧ (∀ k', k' < k → rm k' < T ∧ OPT z (2 ^ n - 1) (cc k') (T - rm k') (rs k') ∧ (∀ s, s < rs k' → ¬ OPT z (2 ^ n - 1) (cc k') (T - rm k') s) ∧ cc (k' + 1) = nc z (cc k') (rs k') ∧ rm (k' + 1) = rm k' + dl z (cc k') (rs k')) ∧ cs u.1 = cc k ∧ u.2.1 = rm k ∧ rm k ≤ T ∧ k ≤ rm k ∧ (∃ b, rc z (2 ^ n - 1) (cc k) (T - rm k) b) ∧ ∀ k', k' < k → (xg_i u.2.2 (nm (B + 9)) k' = nI (rs k') ∧ rs k' ≤ 2 ^ n - 1) ∧ xg_i u.2.2 (nm (B + 10)) k' = nI (rm k') ∧ rm k' ≤ 30) := ⟨_, fun _ _ => Iff.rfl⟩
    obtain ⟨I, hI⟩ := I
    have out : ∀ k u, k ≤ 30 → I k u → T ≤ u.2.1 → Q u.2.2 := by
      intro k u hk hu hT9
      obtain ⟨e, hi, g10, g11, rs, rm, cc, g0, g1, g2, g3, g4, g5, g6, g7⟩ := (hI _ _).mp hu
      have hrow : ROW z (2 ^ n - 1) (c4 t) T k rs rm := ⟨cc, g0.1, g0.2, by omega, g1⟩
      exact q u.2.2 k rs rm ⟨L0.mv e (by decide), S.mv e hB, ⟨r, cs, C0.mv e (by decide) (by decide) (by decide) (by decide) (by decide) (by decide) (by decide) (by decide) (by decide), b1.mv e (by decide), b2.mv e (by decide) (by decide) (by decide), b3.mv e (by decide) (by decide) (by decide) (by decide), b4.mv e (by decide) (by decide), Or.inr ⟨T, k, rs, rm, ⟨by omega, h30⟩, g11, g10, hk, hrow, g7⟩, b6.mv e (by decide) (by decide)⟩, hcp⟩ (e1.tr (bf.of e (by simp))) g10 hk hrow g7
    refine lp (σ := Nat × Nat × xg_H) (R := fun k u => R37 (nI u.1) (nI u.2.1) (nI k) u.2.2) I 0 30 (by decide) ?_ ?_ (0, 0, xg_ui (xg_ui h1 (nm B) 11 (nI T)) (nm B) 10 0) ?_
    · intro u hu
      refine c37 _ _ _ _ (bq_t (by decide) (out 30 u (by decide) hu ?_))
      obtain ⟨e, hi, g10, g11, rs, rm, cc, g0, g1, g2, g3, g4, g5, g6, g7⟩ := (hI _ _).mp hu
      omega
    · intro k u _ hk hu ih
      by_cases hTm : T ≤ u.2.1
      · have : u.2.1 ≤ T := by
          obtain ⟨e, hi, g10, g11, rs, rm, cc, g0, g1, g2, g3, g4, g5, g6, g7⟩ := (hI _ _).mp hu
          omega
        exact c37 _ _ _ _ (bq_f (nI_ge hk (by decide)) (bq_t (nI_le hTm (by omega)) (out k u (by omega) hu hTm)))
      · obtain ⟨i, mi, s⟩ := u
        obtain ⟨e, hi, g10, g11, rs, rm, cc, g0, g1, g2, g3, g4, g5, g6, g7⟩ := (hI _ _).mp hu
        simp only at e hi g10 g11 g2 g3 g7 hTm ⊢
        subst g3
        have Ls := L0.mv e (by decide)
        have Cs := C0.mv e (by decide) (by decide) (by decide) (by decide) (by decide) (by decide) (by decide) (by decide) (by decide)
        have Ds := Cs.2.2.2.2.1
        have Es : CE s nm (B + 40) r (2 ^ n - 1) 4 on4 (fun _ => 0) ∧ ∀ T j, 1 ≤ T → T ≤ 30 → j < r → CT z (2 ^ n - 1) on4 (fun _ => 0) r cs s nm (B + 40) N T j := by
          rcases b3.mv e (by decide) (by decide) (by decide) (by decide) with b3' | ⟨_, a, b⟩
          · rw [e.1 19 (by decide), f1] at b3'; exact absurd b3' one_ne
          · exact ⟨a, b⟩
        have o0s : xg_o s (nm B) 0 = some (nm (B + 20)) := (e.2.2.2 _ _).trans o0
        refine c37 _ _ _ _ (bq_f (nI_ge hk (by decide)) (bq_f (nI_ge (by omega) (by omega)) ⟨nm (B + 20), o0s, LWw.1, bq_f ?_ ?_⟩))
        · rw [Ds.2.1]; exact nI_ge hi (by omega)
        -- a set is taken
        have take : ∀ sx, sx ≤ 2 ^ n - 1 → OPT z (2 ^ n - 1) (cs i) (T - rm k) sx → (∀ s', s' < sx → ¬ OPT z (2 ^ n - 1) (cs i) (T - rm k) s') → R110 (nI i) (nI (rm k)) (nI k) (nI sx) s := by
          intro sx hsx hopt hleast
          obtain ⟨j, hj, ej, ew⟩ := (Ds.2.2.2.2.2 i sx hi hsx).1 ⟨hopt.1, hopt.2.1⟩
          have hd7 := dl_le (c := cs i) (s := sx) hz
          have hdt := hopt.2.2.1
          refine c110 _ _ _ _ _ ⟨nm (B + 9), (e.2.2.2 _ _).trans o8, k9.1, ?_⟩
          rw [k9.2, nI_clamp (n := k) (by omega)]
          refine ⟨vp_in_nI (by omega) (by decide), ?_⟩
          rintro _ rfl
          refine ⟨nm (B + 10), (e.2.2.2 _ _).trans o9, k10.1, ?_⟩
          rw [k10.2]
          refine ⟨vp_in_nI (by omega) (by decide), ?_⟩
          rintro _ rfl _ rfl
          refine ⟨nm (B + 20), o0s, LWw.1, nm (B + 24), (e.2.2.2 _ _).trans LWw.2.2.2.2.1.1, LWw.2.2.2.2.1.2.1, ?_⟩
          have v10 : xg_i (xg_ui (xg_ui s (nm (B + 9)) k (nI sx)) (nm (B + 10)) k (nI (rm k))) (nm B) 10 = nI k := by
            rw [xu_c hn (by omega), xu_c hn (by omega)]; exact g10
          rw [show xg_n Y (nm (B + 24)) = N * 16 from LWw.2.2.2.2.1.2.2, nl_16, pk_mul, nI_add, nI_clamp (n := i * 16 + sx) (by omega), v10, nI_1]
          refine ⟨vp_in_nI (by omega) (by omega), ?_⟩
          rintro _ rfl _ rfl _ rfl _ rfl
          rw [xu_c hn (by omega), xu_c hn (by omega), xu_c hn (by omega), ew, nl_4095, m4095, sh12 (by omega), show (dl z (cs i) sx * 4096 + j) / 4096 = dl z (cs i) sx by omega, show (dl z (cs i) sx * 4096 + j) % 4096 = j by omega, nI_add]
          have fin9 : ∀ s9, s9 = xg_ui (xg_ui (xg_ui s (nm (B + 9)) k (nI sx)) (nm (B + 10)) k (nI (rm k))) (nm B) 10 (nI (k + 1)) → R37 (nI j) (nI (rm k + dl z (cs i) sx)) (nI (k + 1)) s9 := by
            intro s9 e9
            have q1 : xe nm B [10, 11] [9, 10] [] h1 s9 := by rw [e9]; exact xe.u0 hn (xe.ui hn (xe.ui hn e (by decide) (by decide) (by decide)) (by decide) (by decide) (by decide)) (by decide)
            have q2 : xg_i s9 (nm B) 10 = nI (k + 1) := by rw [e9, xu hn, if_pos ⟨rfl, rfl⟩]
            have q3 : xg_i s9 (nm B) 11 = nI T := by rw [e9, xu_p hn (by decide), xu_c hn (by omega), xu_c hn (by omega)]; exact g11
            have q4 : ∀ k', k' < k + 1 → (xg_i s9 (nm (B + 9)) k' = nI (if k' = k then sx else rs k') ∧ (if k' = k then sx else rs k') ≤ 2 ^ n - 1) ∧ xg_i s9 (nm (B + 10)) k' = nI (if k' = k + 1 then rm k + dl z (cs i) sx else rm k') ∧ (if k' = k + 1 then rm k + dl z (cs i) sx else rm k') ≤ 30 := by
              intro k' hk'
              rw [e9, xu_c hn (by omega), xu_c hn (by omega), xu hn, xu_c hn (by omega), xu hn, xu_c hn (by omega)]
              by_cases e8 : k' = k
              · subst e8
                have e7 : ¬ k' = k' + 1 := by omega
                simp only [e7, and_self, if_true, if_false, true_and]
                exact ⟨hsx, by omega⟩
              · have e7 : ¬ k' = k + 1 := by omega
                simp only [e7, e8, and_false, if_false]
                exact g7 k' (by omega)
            refine ih (j, rm k + dl z (cs i) sx, s9) ((hI _ _).mpr ⟨q1, hj, q2, q3, fun k' => if k' = k then sx else rs k', fun k' => if k' = k + 1 then rm k + dl z (cs i) sx else rm k', fun k' => if k' = k + 1 then nc z (cs i) sx else cc k', ⟨(if_neg (by omega)).trans g0.1, (if_neg (by omega)).trans g0.2⟩, fun k' hk' => ?_, ej.trans (if_pos rfl).symm, (if_pos rfl).symm, ?_, ?_, ?_, q4⟩)
            · simp only [if_neg (show ¬ k' = k + 1 by omega)]
              by_cases e8 : k' = k
              · subst e8
                simp only [if_true]
                rw [← g2]
                exact ⟨by omega, hopt, hleast, rfl, rfl⟩
              · simp only [if_neg e8, if_neg (show ¬ k' + 1 = k + 1 by omega)]
                exact g1 k' (by omega)
            · simp only [if_true]; omega
            · simp only [if_true]; have := hopt.2.1; omega
            · simp only [if_true]
              obtain ⟨x, hx, _⟩ := hopt.2.2.2
              rw [show T - (rm k + dl z (cs i) sx) = T - rm k - dl z (cs i) sx by omega]
              exact TL_rc.mp ⟨x, hx.1⟩
          exact fin9 _ rfl
        -- the first best set is looked for
        obtain ⟨s0, hs0, hopt0⟩ := OPT_ex (z := z) (m := 2 ^ n - 1) (c := cs i) (T := T - rm k) (by omega) (by rw [g2]; exact g6)
        refine lp (σ := Unit) (R := fun sx _ => R63 (nI i) (nI (rm k)) (nI k) (nI sx) s) (fun sx _ => ∀ s', s' < sx → ¬ OPT z (2 ^ n - 1) (cs i) (T - rm k) s') 0 (2 ^ n - 1) (Nat.zero_le _) ?_ ?_ () (fun s' hs' => absurd hs' (Nat.not_lt_zero s'))
        · intro _ hno
          have es : s0 = 2 ^ n - 1 := by
            rcases Nat.lt_or_ge s0 (2 ^ n - 1) with h9 | h9
            · exact absurd hopt0 (hno s0 h9)
            · omega
          refine c63 _ _ _ _ _ ⟨nm (B + 20), o0s, LWw.1, bq_t ?_ (take _ (Nat.le_refl _) (by rw [es] at hopt0; exact hopt0) hno)⟩
          rw [Ds.2.2.1, nI_pred]
          exact nI_le (Nat.le_refl _) (by omega)
        · intro sx _ _ hsx hno ih2
          refine c63 _ _ _ _ _ ⟨nm (B + 20), o0s, LWw.1, bq_f ?_ ⟨nm (B + 40), (e.2.2.2 _ _).trans o2, LCc.1, ?_⟩⟩
          · rw [Ds.2.2.1, nI_pred]; exact nI_ge hsx (by omega)
          rw [pk_sub (by omega)]
          refine sp_X3_by Ls.2.1.2 Ls.2.2.2.1.2 hz hm Ds Es.1 hi (by omega) (by omega) (by omega) (fun t' j a b d => Es.2 t' j a (by omega) d) (fun x' hx'b hx' => ⟨nm (B + 40), (e.2.2.2 _ _).trans o2, LCc.1, ?_⟩)
          refine sp_X3_of Ls.2.2.2.1.2 hNb hrN hi (by omega) (by omega) (Es.2 (T - rm k) i (by omega) (by omega) hi) (fun x hxb hx => ?_)
          have hx1 : lsG (TL z (2 ^ n - 1) (cs i) on4 (T - rm k)) x := lsG_congr hx (fun w => BW_TL Ds hi)
          obtain ⟨hx2, hx3⟩ := lsG_lsN hx1 (TL_rc.mpr (by rw [g2]; exact g6))
          have hx'1 : lsG (fun w => (sb sx (2 ^ n - 1) ∧ 0 < dl z (cs i) sx ∧ dl z (cs i) sx ≤ T - rm k) ∧ ∃ w', TL z (2 ^ n - 1) (nc z (cs i) sx) on4 (T - rm k - dl z (cs i) sx) w' ∧ w = on4 sx + w') x' := by
            refine lsG_congr hx' (fun w => ⟨fun ⟨a, w', b, d⟩ => ⟨a, w', ?_, d⟩, fun ⟨a, w', b, d⟩ => ⟨a, w', ?_, d⟩⟩)
            · obtain ⟨j, hj, ej, _⟩ := (Ds.2.2.2.2.2 i sx hi (by omega)).1 ⟨a.1, a.2.1⟩
              rw [← ej] at b ⊢
              exact (BW_TL Ds hj).mp b
            · obtain ⟨j, hj, ej, _⟩ := (Ds.2.2.2.2.2 i sx hi (by omega)).1 ⟨a.1, a.2.1⟩
              rw [← ej] at b ⊢
              exact (BW_TL Ds hj).mpr b
          have key := OPT_by hx3 hx'1 hx2
          refine ⟨fun c9 => take sx (by omega) (key.mp ((nI_eq (by omega) (by omega)).mp c9)) hno, fun c9 => ?_⟩
          rintro _ rfl
          rw [nI_1]
          refine ih2 () (fun s' hs' ho => ?_)
          rcases Nat.lt_or_ge s' sx with h9 | h9
          · exact hno s' h9 ho
          · rw [show s' = sx by omega] at ho
            exact c9 ((nI_eq (by omega) (by omega)).mpr (key.mpr ho))
    · have q2 : xg_i (xg_ui (xg_ui h1 (nm B) 11 (nI T)) (nm B) 10 0) (nm B) 10 = nI 0 := by rw [xu hn, if_pos ⟨rfl, rfl⟩]; rfl
      have q3 : xg_i (xg_ui (xg_ui h1 (nm B) 11 (nI T)) (nm B) 10 0) (nm B) 11 = nI T := by rw [xu_p hn (by decide), xu hn, if_pos ⟨rfl, rfl⟩]
      exact (hI _ _).mpr ⟨xe.u0 hn (xe.u0 hn xe.rf (by decide)) (by decide), by omega, q2, q3, fun _ => 0, fun _ => 0, fun _ => c4 t, ⟨rfl, rfl⟩, fun k' hk' => absurd hk' (Nat.not_lt_zero k'), D.1.2.2, rfl, Nat.zero_le _, Nat.le_refl _, hex, fun k' hk' => absurd hk' (Nat.not_lt_zero k')⟩
  obtain ⟨L, S, ⟨r, cs, C, b1, b2, b3, b4, b5, b6⟩, hcp⟩ := J
  have J : BJ Y h nm B N N2 n z t := ⟨L, S, ⟨r, cs, C, b1, b2, b3, b4, b5, b6⟩, hcp⟩
  by_cases hrt : xg_i h (nm B) 11 = nI T
  · refine bq_nf hrt ?_
    rcases id b5 with b5' | ⟨T', Ln, rs, rm, a1, a2, a3, a4, a5, a6⟩
    · rw [hrt] at b5'
      have := (nI_eq (a := T) (b := 0) (by omega) (by decide)).mp b5'
      omega
    · rw [hrt] at a2
      have e9 := (nI_eq (a := T) (b := T') (by omega) (by omega)).mp a2
      subst e9
      exact q h Ln rs rm J bf.rf a3 a4 a5 a6
  · refine bq_nt hrt ?_
    rcases id b3 with e0 | ⟨e1, _⟩
    · rw [e0]
      exact bq_nf rfl (BJ.turns hn J (fun h' J' e _ f _ => go h' J' e f))
    · rw [e1]
      exact bq_nt one_ne (go h J bf.rf e1)
theorem sp_X1_usedInRow {Y : xg_Y} {Q : Int32 → xg_H → Prop} {h : xg_H} {nm : Nat → Nat} {B N N2 n T g : Nat} {z t : Nat → Nat} (hn : inj nm) (J : BJ Y h nm B N N2 n z t) (h1 : 1 ≤ T) (h30 : T ≤ 30) (hg : g < 4) (hex : ∃ b, rc z (2 ^ n - 1) (c4 t) T b) (q : ∀ h' Ln rs rm, BJ Y h' nm B N N2 n z t → bf nm B h h' → ROW z (2 ^ n - 1) (c4 t) T Ln rs rm → Q (nI (fb_ct (fun k => (rs k).testBit g) Ln)) h') : wp_X1_usedInRow Y Q (nm B) (nI T) (nI g) h := by
  unfold wp_X1_usedInRow
  refine ⟨J.1.1, fun R10 R39 c10 c39 => ?_⟩
  refine sp_X1_findRow hn J h1 h30 hex (fun h' Ln rs rm J' e g10 hL hrow hd => ?_)
  have hm : 2 ^ n - 1 < 16 := by
    obtain ⟨_, _, ⟨r, cs, C, _⟩, _⟩ := J'
    exact C.1.m
  have o8 := J'.1.2.2.2.2.2.2.2.2.2.1
  refine mp_up (P := fun k => R10 (nI (fb_ct (fun k => (rs k).testBit g) k)) (nI k) h') (n := Ln) ?_ ?_
  · refine c10 _ _ _ (bq_t ?_ (q h' Ln rs rm J' e hrow))
    rw [g10]; exact nI_le (Nat.le_refl _) (by omega)
  · intro k hk ih
    obtain ⟨⟨d1, d2⟩, _⟩ := hd k hk
    have join : ∀ u, u = (if (rs k).testBit g then 1 else 0) → R39 (nI k) (nI u) (nI (fb_ct (fun k => (rs k).testBit g) k)) h' := by
      rintro u rfl
      refine c39 _ _ _ _ ?_
      rintro _ rfl _ rfl
      rw [nI_add, nI_1]
      rw [fb_ct_succ] at ih
      exact ih
    refine c10 _ _ _ (bq_f ?_ ⟨nm (B + 9), o8.1, o8.2.1, ?_⟩)
    · rw [g10]; exact nI_ge hk (by omega)
    rw [o8.2.2, nI_clamp (by omega), d1]
    refine ⟨vp_in_nI (by omega) (by decide), sp_X11_has (by omega) (by omega) (fun hb => ⟨fun c => absurd c (by decide), fun _ => join 1 (by rw [if_pos hb])⟩) (fun hb => ⟨fun _ => join 0 (by rw [if_neg (by rw [hb]; decide)]), fun c => absurd rfl c⟩)⟩
/-- what is asked of a row: its k-th set, its k-th minute -/
def RAT (Ln : Nat) (rs rm : Nat → Nat) (what v : Int32) : Prop := (∃ k, k < Ln ∧ what = nI (10 + k) ∧ v = nI (rs k)) ∨ (∃ k, k < Ln ∧ what = nI (50 + k) ∧ v = nI (rm k)) ∨ ((∀ k, k < Ln → what ≠ nI (10 + k) ∧ what ≠ nI (50 + k)) ∧ v = nM)
theorem sp_X1_rowAt {Y : xg_Y} {Q : Int32 → xg_H → Prop} {h : xg_H} {nm : Nat → Nat} {B N N2 n T : Nat} {what : Int32} {z t : Nat → Nat} (hn : inj nm) (J : BJ Y h nm B N N2 n z t) (h1 : 1 ≤ T) (h30 : T ≤ 30) (hex : ∃ b, rc z (2 ^ n - 1) (c4 t) T b) (q : ∀ h' Ln rs rm v, BJ Y h' nm B N N2 n z t → bf nm B h h' → Ln ≤ 30 → ROW z (2 ^ n - 1) (c4 t) T Ln rs rm → RAT Ln rs rm what v → Q v h') : wp_X1_rowAt Y Q (nm B) (nI T) what h := by
  unfold wp_X1_rowAt
  refine ⟨J.1.1, fun R32 c32 => ?_⟩
  refine sp_X1_findRow hn J h1 h30 hex (fun h' Ln rs rm J' e g10 hL hrow hd => ?_)
  have o8 := J'.1.2.2.2.2.2.2.2.2.2.1
  have o9 := J'.1.2.2.2.2.2.2.2.2.2.2.1
  rw [g10, nl_10, nI_add]
  -- neither a set ..
  have no1 : (∀ k, k < Ln → what ≠ nI (10 + k)) → R32 h' := by
    intro hno
    refine c32 _ ?_
    rw [g10, nl_50, nI_add]
    have none : (∀ k, k < Ln → what ≠ nI (50 + k)) → Q (-1) h' := fun hno2 => q h' Ln rs rm _ J' e hL hrow (Or.inr (Or.inr ⟨fun k hk => ⟨hno k hk, hno2 k hk⟩, rfl⟩))
    refine ⟨fun c => none (fun k hk e9 => ?_), fun c => ⟨fun c2 => none (fun k hk e9 => ?_), fun c2 => ⟨nm (B + 10), o9.1, o9.2.1, ?_⟩⟩⟩
    · rw [e9] at c
      have := (nI_ltI (by omega) (by omega)).mp c
      omega
    · rw [e9] at c2
      have := (nI_leI (by omega) (by omega)).mp c2
      omega
    · obtain ⟨v, hv, rfl⟩ := nI_of (x := what) (fun c9 => c (Int32.lt_trans c9 (by decide)))
      have a1 : 50 ≤ v := Nat.le_of_not_lt (fun h9 => c (nI_lt h9 (by decide)))
      have a2 : v < 50 + Ln := Nat.lt_of_not_le (fun h9 => c2 (nI_le h9 hv))
      rw [pk_sub a1, o9.2.2, nI_clamp (by omega), (hd (v - 50) (by omega)).2.1]
      refine ⟨vp_in_nI (by omega) (by decide), q h' Ln rs rm _ J' e hL hrow (Or.inr (Or.inl ⟨v - 50, by omega, ?_, rfl⟩))⟩
      rw [show 50 + (v - 50) = v by omega]
  refine ⟨fun c => no1 (fun k hk e9 => ?_), fun c => ⟨fun c2 => no1 (fun k hk e9 => ?_), fun c2 => ⟨nm (B + 9), o8.1, o8.2.1, ?_⟩⟩⟩
  · rw [e9] at c
    have := (nI_ltI (by omega) (by omega)).mp c
    omega
  · rw [e9] at c2
    have := (nI_leI (by omega) (by omega)).mp c2
    omega
  · obtain ⟨v, hv, rfl⟩ := nI_of (x := what) (fun c9 => c (Int32.lt_trans c9 (by decide)))
    have a1 : 10 ≤ v := Nat.le_of_not_lt (fun h9 => c (nI_lt h9 (by decide)))
    have a2 : v < 10 + Ln := Nat.lt_of_not_le (fun h9 => c2 (nI_le h9 hv))
    rw [pk_sub a1, o8.2.2, nI_clamp (by omega), (hd (v - 10) (by omega)).1.1]
    refine ⟨vp_in_nI (by omega) (by decide), q h' Ln rs rm _ J' e hL hrow (Or.inl ⟨v - 10, by omega, ?_, rfl⟩)⟩
    rw [show 10 + (v - 10) = v by omega]
