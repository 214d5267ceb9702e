/-! Book: luckOver; the greatest common divisor -/
theorem s_64 : ∀ k, k < 64 → ((lN k &&& 63).toBitVec.smod 64).toNat = k := by decide +kernel
theorem sl_L {a k : Nat} (hk : k < 64) : lN a <<< (lN k &&& 63) = lN (a * 2 ^ k) := by
  apply Int64.toBitVec_inj.mp
  rw [Int64.toBitVec_shiftLeft]
  show (BitVec.ofNat 64 a) <<< (((lN k &&& 63).toBitVec.smod 64).toNat) = BitVec.ofNat 64 (a * 2 ^ k)
  rw [s_64 k hk]
  apply BitVec.eq_of_toNat_eq
  rw [BitVec.toNat_shiftLeft, BitVec.toNat_ofNat, BitVec.toNat_ofNat, Nat.shiftLeft_eq, Nat.mul_mod, Nat.mod_mod, ← Nat.mul_mod]
theorem gcd_st (x y : Nat) : Nat.gcd x y = Nat.gcd y (x % y) := by rw [Nat.gcd_comm x y, Nat.gcd_rec y x, Nat.gcd_comm]
theorem half_mod {y r : Nat} (hr : 0 < r) (h : r < y) : 2 * (y % r) < y := by
  have h1 := Nat.mod_lt y hr
  have h2 := Nat.div_add_mod y r
  have h3 : 1 ≤ y / r := (Nat.one_le_div_iff hr).mpr (by omega)
  have h4 := Nat.mul_le_mul_left r h3
  omega
theorem sp_X11_common {Y : xg_Y} {Q : Int64 → xg_H → Prop} {h : xg_H} {a b : Nat} (ha : a < 2 ^ 63) (hb : b < 2 ^ 62) (q : Q (lN (Nat.gcd a b)) h) : wp_X11_common Y Q (lN a) (lN b) h := by
  unfold wp_X11_common
  intro R9 R45 c9 c45
  have key : ∀ d x y i, y < 2 ^ d → x < 2 ^ 63 → d ≤ 62 → i + 2 * d + 1 ≤ 200 → Q (lN (Nat.gcd x y)) h → R9 (lN x) (lN y) (nI i) h := by
    intro d
    induction d with
    | zero =>
      intro x y i hy hx hd hi q
      have e : y = 0 := by omega
      subst e
      rw [Nat.gcd_zero_right] at q
      exact c9 _ _ _ _ (bq_f (nI_ge (b := 200) (by omega) (by decide)) (bq_t (by decide) (c45 _ _ q)))
    | succ d ih =>
      intro x y i hy hx hd hi q
      have hp : 2 ^ (d + 1) = 2 * 2 ^ d := by rw [Nat.pow_succ]; omega
      have h62 : 2 ^ (d + 1) ≤ 2 ^ 62 := Nat.pow_le_pow_right (by decide) hd
      refine c9 _ _ _ _ (bq_f (nI_ge (b := 200) (by omega) (by decide)) ?_)
      by_cases y0 : y = 0
      · subst y0
        rw [Nat.gcd_zero_right] at q
        exact bq_t (by decide) (c45 _ _ q)
      · have hy0 : ¬ lN y = 0 := fun e => y0 ((pk_lEQ (a := y) (b := 0) (by omega) (by decide)).mp e)
        refine bq_f (fun e => hy0 ((lg_cmp_eq _ _).mp e)) ⟨hy0, ?_⟩
        rintro _ rfl _ rfl
        rw [pk_lRem hx (by omega) (by omega), nI_1]
        have hm := Nat.mod_lt x (show y > 0 by omega)
        rw [gcd_st] at q
        refine c9 _ _ _ _ (bq_f (nI_ge (b := 200) (by omega) (by decide)) ?_)
        by_cases r0 : x % y = 0
        · rw [r0] at q ⊢
          rw [Nat.gcd_zero_right] at q
          exact bq_t (by decide) (c45 _ _ q)
        · have hr0 : ¬ lN (x % y) = 0 := fun e => r0 ((pk_lEQ (a := x % y) (b := 0) (by omega) (by decide)).mp e)
          refine bq_f (fun e => hr0 ((lg_cmp_eq _ _).mp e)) ⟨hr0, ?_⟩
          rintro _ rfl _ rfl
          rw [pk_lRem (by omega) (by omega) (by omega), nI_1]
          rw [gcd_st] at q
          have := half_mod (y := y) (r := x % y) (by omega) hm
          exact ih _ _ _ (by omega) (by omega) (by omega) (by omega) q
  exact key 62 a b 0 hb ha (by decide) (by decide) q
theorem lkf_fuel {z : Nat → Nat} {m n : Nat} : ∀ f f' t c, t < f → t < f' → lkf z m n f t c = lkf z m n f' t c
  | 0, _, _, _, h, _ => absurd h (Nat.not_lt_zero _)
  | _ + 1, 0, _, _, _, h => absurd h (Nat.not_lt_zero _)
  | f + 1, f' + 1, 0, c, _, _ => rfl
  | f + 1, f' + 1, t + 1, c, h, h' => by
    simp only [lkf]
    refine fb_sm_cong (fun s _ => ?_)
    by_cases hd : 0 < dl z c s ∧ dl z c s ≤ t + 1
    · rw [if_pos hd, if_pos hd, lkf_fuel f f' _ _ (by omega) (by omega)]
    · rw [if_neg hd, if_neg hd]
def LK (z : Nat → Nat) (m n t c : Nat) : Nat := lkf z m n (t + 1) t c
theorem LK_0 {z : Nat → Nat} {m n c : Nat} : LK z m n 0 c = 1 := rfl
theorem LK_s {z : Nat → Nat} {m n t c : Nat} (ht : 1 ≤ t) : LK z m n t c = fb_sm (fun s => if 0 < dl z c s ∧ dl z c s ≤ t then LK z m n (t - dl z c s) (nc z c s) * 2 ^ (n * (dl z c s - 1)) else 0) (m + 1) := by
  obtain ⟨t, rfl⟩ : ∃ t', t = t' + 1 := ⟨t - 1, by omega⟩
  unfold LK
  show fb_sm _ _ = _
  refine fb_sm_cong (fun s _ => ?_)
  by_cases hd : 0 < dl z c s ∧ dl z c s ≤ t + 1
  · rw [if_pos hd, if_pos hd, lkf_fuel (t + 1) (t + 1 - dl z c s + 1) _ _ (by omega) (by omega)]
  · rw [if_neg hd, if_neg hd]
theorem LK_31 {z : Nat → Nat} {m n t c : Nat} (ht : t ≤ 30) : lkf z m n 31 t c = LK z m n t c := lkf_fuel 31 (t + 1) t c (by omega) (by omega)
theorem LK_le {z : Nat → Nat} {n : Nat} : ∀ t c, LK z (2 ^ n - 1) n t c ≤ 2 ^ (n * t) := by
  have key : ∀ d t c, t ≤ d → LK z (2 ^ n - 1) n t c ≤ 2 ^ (n * t) := by
    intro d
    induction d with
    | zero => intro t c h; rw [show t = 0 by omega, LK_0]; exact Nat.one_le_two_pow
    | succ d ih =>
      intro t c h
      rcases Nat.eq_zero_or_pos t with e | e
      · rw [e, LK_0]; exact Nat.one_le_two_pow
      · rw [LK_s e]
        have hp := Nat.two_pow_pos n
        have hb := fb_sm_bound (f := fun s => if 0 < dl z c s ∧ dl z c s ≤ t then LK z (2 ^ n - 1) n (t - dl z c s) (nc z c s) * 2 ^ (n * (dl z c s - 1)) else 0) (c := 2 ^ (n * (t - 1))) (n := 2 ^ n - 1 + 1) (fun s _ => by
          by_cases hd : 0 < dl z c s ∧ dl z c s ≤ t
          · rw [if_pos hd]
            have h1 := Nat.mul_le_mul_right (2 ^ (n * (dl z c s - 1))) (ih (t - dl z c s) (nc z c s) (by omega))
            rw [← Nat.pow_add, ← Nat.mul_add, show t - dl z c s + (dl z c s - 1) = t - 1 by omega] at h1
            exact h1
          · rw [if_neg hd]; exact Nat.zero_le _)
        refine Nat.le_trans hb ?_
        rw [show 2 ^ n - 1 + 1 = 2 ^ n by omega, ← Nat.pow_add]
        refine Nat.pow_le_pow_right (by decide) ?_
        have e9 : n * t = n * (t - 1) + n := by rw [← Nat.mul_succ, show Nat.succ (t - 1) = t by omega]
        omega
  exact fun t c => key t t c (Nat.le_refl t)
theorem LK_lt {z : Nat → Nat} {n t c : Nat} (hn : n ≤ 4) (ht : t ≤ 10) : LK z (2 ^ n - 1) n t c ≤ 2 ^ 40 := Nat.le_trans (LK_le t c) (Nat.pow_le_pow_right (by decide) (Nat.mul_le_mul hn ht))
theorem shift_I {n d : Nat} (hn : n ≤ 4) (hd : 1 ≤ d) (hd7 : d ≤ 7) : (nI n * (nI d - 1)).toInt64 = lN (n * (d - 1)) := by
  have := Nat.mul_le_mul hn (show d - 1 ≤ 6 by omega)
  rw [nl_1, pk_sub hd, pk_mul, nI_l (by omega)]
theorem sp_X1_luckOf {Y : xg_Y} {Q : Int64 → xg_H → Prop} {h : xg_H} {nm : Nat → Nat} {B N N2 n r i T : Nat} {z t cs : Nat → Nat} (L : LB Y h nm B N N2) (C : BC h nm B N n z t r cs) (hi : i < r) (h1 : 1 ≤ T) (h10 : T ≤ 10) (hl : ∀ t' j, 1 ≤ t' → t' < T → j < r → xg_l h (nm (B + 8)) (t' * N + j) = lN (LK z (2 ^ n - 1) n t' (cs j))) (q : Q (lN (LK z (2 ^ n - 1) n T (cs i))) h) : wp_X1_luckOf Y Q (nm B) (nI i) (nI T) h := by
  obtain ⟨k1, ⟨o0, LWw⟩, ⟨o1, LWp⟩, ⟨o2, LCc⟩, ⟨o3, k4⟩, ⟨o4, k5⟩, ⟨o5, k6⟩, ⟨o6, k7⟩, ⟨o7, k8⟩, ⟨o8, k9⟩, ⟨o9, k10⟩, hB⟩ := L
  obtain ⟨C0, C1, C2, C3, D, M, C6⟩ := C
  have hz := C0.zok
  have hm := C0.m
  have hn4 := C0.1
  have hrN := D.1.2.1
  have hNb : N ≤ 1696 := LWw.2.2.2.2.2.2.2.2.1
  unfold wp_X1_luckOf
  refine ⟨k1, fun R5 R123 R106 c5 c123 c106 => ?_⟩
  have F : ∃ F : Nat → Nat, F = fun s => if 0 < dl z (cs i) s ∧ dl z (cs i) s ≤ T then LK z (2 ^ n - 1) n (T - dl z (cs i) s) (nc z (cs i) s) * 2 ^ (n * (dl z (cs i) s - 1)) else 0 := ⟨_, rfl⟩
  obtain ⟨F, hF⟩ := F
  rw [LK_s h1, ← hF] at q
  refine mp_up (P := fun k => R5 (lN (fb_sm F k)) (nI k) h) (n := 2 ^ n - 1 + 1) ?_ ?_
  · refine c5 _ _ _ ⟨nm (B + 20), o0, LWw.1, bq_t ?_ q⟩
    rw [D.2.2.1]; exact nI_le (Nat.le_refl _) (by omega)
  · intro s hs ih
    have nxt : ∀ v, v = lN (fb_sm F s + F s) → R123 v (nI s) h := by
      rintro v rfl
      refine c123 _ _ _ ?_
      rintro _ rfl
      rw [nI_1]
      exact ih
    obtain ⟨e1, e2⟩ := D.2.2.2.2.2 i s hi (by omega)
    have hd7 := dl_le (c := cs i) (s := s) hz
    refine c5 _ _ _ ⟨nm (B + 20), o0, LWw.1, bq_f ?_ ⟨nm (B + 24), LWw.2.2.2.2.1.1, LWw.2.2.2.2.1.2.1, ?_⟩⟩
    · rw [D.2.2.1]; exact nI_ge hs (by omega)
    rw [show xg_n Y (nm (B + 24)) = N * 16 from LWw.2.2.2.2.1.2.2, nl_16, pk_mul, nI_add, nI_clamp (n := i * 16 + s) (by omega), D.2.1]
    refine ⟨vp_in_nI (by omega) (by omega), ?_⟩
    rintro _ rfl _ rfl _ rfl
    have zero : F s = 0 → R123 (lN (fb_sm F s)) (nI s) h := fun e => nxt _ (by rw [e, Nat.add_zero])
    by_cases hd : sb s (2 ^ n - 1) ∧ 0 < dl z (cs i) s
    · obtain ⟨j, hj, ej, ew⟩ := e1 hd
      rw [show B + 24 = B + 20 + 4 from rfl, ew, nl_4095, m4095, sh12 (by omega), show (dl z (cs i) s * 4096 + j) / 4096 = dl z (cs i) s by omega, show (dl z (cs i) s * 4096 + j) % 4096 = j by omega]
      refine bq_f (fun e9 => ?_) ?_
      · have := (nI_eq (a := dl z (cs i) s * 4096 + j) (b := 0) (by omega) (by decide)).mp e9
        omega
      by_cases hdT : dl z (cs i) s ≤ T
      · refine bq_f (nI_nlt hdT (by omega)) (bq_f (nI_ge hj (by omega)) ?_)
        rintro _ rfl
        rw [pk_sub hdT]
        have last : ∀ x, x = LK z (2 ^ n - 1) n (T - dl z (cs i) s) (nc z (cs i) s) → R106 (lN (fb_sm F s)) (nI s) (nI (dl z (cs i) s)) (lN x) h := by
          rintro x rfl
          refine c106 _ _ _ _ _ ?_
          rw [C3, shift_I hn4 hd.2 hd7]
          have := Nat.mul_le_mul hn4 (show dl z (cs i) s - 1 ≤ 6 by omega)
          rw [sl_L (by omega), lN_add]
          rintro _ rfl
          refine nxt _ ?_
          rw [hF]
          simp only
          rw [if_pos ⟨hd.2, hdT⟩]
        by_cases h0 : T - dl z (cs i) s = 0
        · rw [h0]
          refine bq_nf rfl (last 1 ?_)
          rw [h0, LK_0]
        · refine bq_nt (fun e9 => h0 ((nI_eq (b := 0) (by omega) (by decide)).mp e9)) ⟨nm (B + 21), LWw.2.1.1, LWw.2.1.2.1, nm (B + 8), o7, k8.1, ?_⟩
          have hle := Nat.mul_le_mul_right N (show T - dl z (cs i) s ≤ 9 by omega)
          rw [show xg_n Y (nm (B + 21)) = N from LWw.2.1.2.2, show Int32.ofNat N = nI N from rfl, pk_mul, nI_add, nI_clamp (by omega), k8.2, hl _ j (by omega) (by omega) hj]
          refine ⟨vp_in_nI (by omega) (by omega), last _ ?_⟩
          rw [ej]
      · refine bq_t (nI_lt (by omega) (by omega)) (zero ?_)
        rw [hF]; simp only; rw [if_neg (fun q => hdT q.2)]
    · rw [show B + 24 = B + 20 + 4 from rfl, e2 hd]
      refine bq_t rfl (zero ?_)
      rw [hF]; simp only; rw [if_neg (fun q => hd ⟨sb_full.mpr (by omega), q.1⟩)]
theorem sp_X1_luckOver {Y : xg_Y} {Q : Int64 → xg_H → Prop} {h : xg_H} {nm : Nat → Nat} {B N N2 n T : Nat} {z t : Nat → Nat} (hn : inj nm) (J : BJ Y h nm B N N2 n z t) (h1 : 1 ≤ T) (h10 : T ≤ 10) (q : ∀ h', BJ Y h' nm B N N2 n z t → bf nm B h h' → Q (lN (LK z (2 ^ n - 1) n T (c4 t))) h') : wp_X1_luckOver Y Q (nm B) (nI T) h := by
  have J0 := J
  obtain ⟨L, S, ⟨r, cs, C, b1, b2, b3, b4, b5, b6⟩, hcp⟩ := J
  have L0 := L
  have C0 := C
  obtain ⟨k1, ⟨o0, LWw⟩, ⟨o1, LWp⟩, ⟨o2, LCc⟩, ⟨o3, k4⟩, ⟨o4, k5⟩, ⟨o5, k6⟩, ⟨o6, k7⟩, ⟨o7, k8⟩, ⟨o8, k9⟩, ⟨o9, k10⟩, hB⟩ := L
  obtain ⟨SHh, C1, C2, C3, D, M, C6⟩ := C
  have hr1 := D.1.1
  have hrN := D.1.2.1
  have hNb : N ≤ 1696 := LWw.2.2.2.2.2.2.2.2.1
  unfold wp_X1_luckOver
  refine ⟨k1, fun R68 R9 R17 c68 c9 c17 => ?_⟩
  have fin : ∀ h', BJ Y h' nm B N N2 n z t → bf nm B h h' → xg_l h' (nm (B + 8)) (T * N) = lN (LK z (2 ^ n - 1) n T (c4 t)) → R68 h' := by
    intro h' J' e f
    obtain ⟨k1', ⟨o0', LWw'⟩, _, _, _, _, _, _, ⟨o7', k8'⟩, _⟩ := J'.1
    refine c68 _ (bq_f (nI_nlt (b := 1) h1 (by omega)) (bq_f (nI_nlt (b := T) (a := 10) h10 (by omega)) ⟨nm (B + 20), o0', LWw'.1, nm (B + 21), LWw'.2.1.1, LWw'.2.1.2.1, nm (B + 8), o7', k8'.1, ?_⟩))
    have hle := Nat.mul_le_mul_right N h10
    rw [show xg_n Y (nm (B + 21)) = N from LWw'.2.1.2.2, show Int32.ofNat N = nI N from rfl, pk_mul, nI_clamp (by omega), k8'.2, f]
    exact ⟨vp_in_nI (by omega) (by omega), q h' J' e⟩
  rcases id b6 with e0 | ⟨e1, f1⟩
  · rw [e0]
    refine bq_nf rfl ?_
    refine lp (σ := xg_H) (R := fun k s => R9 (nI k) s) (fun k s => xe nm B [18] [8] [] h s ∧ ∀ t' j, 1 ≤ t' → t' < k → j < r → xg_l s (nm (B + 8)) (t' * N + j) = lN (LK z (2 ^ n - 1) n t' (cs j))) 1 11 (by decide) ?_ ?_ h ⟨xe.rf, fun t' j a b => by omega⟩
    · rintro s ⟨e, f⟩
      refine c9 _ _ (bq_t (by decide) ?_)
      rintro _ rfl
      have e2 : xe nm B [18] [8] [] h (xg_ui s (nm B) 18 1) := xe.u0 hn e (by decide)
      have f2 : ∀ T', 1 ≤ T' → T' ≤ 10 → xg_l (xg_ui s (nm B) 18 1) (nm (B + 8)) (T' * N) = lN (LK z (2 ^ n - 1) n T' (c4 t)) := fun T' a b => by
        have := f T' 0 a (by omega) (by omega)
        rw [D.1.2.2, Nat.add_zero] at this
        exact this
      refine fin _ ⟨L0.mv e2 (by decide), S.mv e2 hB, ⟨r, cs, C0.mv e2 (by decide) (by decide) (by decide) (by decide) (by decide) (by decide) (by decide) (by decide) (by decide), b1.mv e2 (by decide), b2.mv e2 (by decide) (by decide) (by decide), b3.mv e2 (by decide) (by decide) (by decide) (by decide), b4.mv e2 (by decide) (by decide), b5.mv e2 (by decide) (by decide) (by decide) (by decide), Or.inr ⟨by rw [xu hn, if_pos ⟨rfl, rfl⟩]; rfl, fun T' a b => by rw [LK_31 (by omega)]; exact f2 T' a b⟩⟩, hcp⟩ (bf.of e2 (by simp)) (f2 T h1 h10)
    · rintro k s hk1 hk ⟨e, f⟩ ih
      refine c9 _ _ (bq_f (nI_nlt (b := k) (a := 10) (by omega) (by decide)) ?_)
      refine lp (σ := xg_H) (R := fun i s => R17 (nI k) (nI i) s) (fun i s => xe nm B [18] [8] [] h s ∧ ∀ t' j, 1 ≤ t' → (t' < k ∨ t' = k ∧ j < i) → j < r → xg_l s (nm (B + 8)) (t' * N + j) = lN (LK z (2 ^ n - 1) n t' (cs j))) 0 r (Nat.zero_le r) ?_ ?_ s ⟨e, fun t' j a b d => f t' j a (by omega) d⟩
      · rintro s ⟨e, f⟩
        have Cs := C0.mv e (by decide) (by decide) (by decide) (by decide) (by decide) (by decide) (by decide) (by decide) (by decide)
        refine c17 _ _ _ ⟨nm (B + 20), (e.2.2.2 _ _).trans o0, LWw.1, bq_t ?_ ?_⟩
        · rw [Cs.2.2.2.2.1.2.1]; exact nI_le (Nat.le_refl r) (by omega)
        · rintro _ rfl
          rw [nI_1]
          exact ih s ⟨e, fun t' j a b d => f t' j a (by omega) d⟩
      · rintro i s _ hi ⟨e, f⟩ ih2
        have Cs := C0.mv e (by decide) (by decide) (by decide) (by decide) (by decide) (by decide) (by decide) (by decide) (by decide)
        have Ls := L0.mv e (by decide)
        refine c17 _ _ _ ⟨nm (B + 20), (e.2.2.2 _ _).trans o0, LWw.1, bq_f ?_ ⟨nm (B + 21), (e.2.2.2 _ _).trans LWw.2.1.1, LWw.2.1.2.1, ?_⟩⟩
        · rw [Cs.2.2.2.2.1.2.1]; exact nI_ge hi (by omega)
        refine sp_X1_luckOf Ls Cs hi hk1 (by omega) (fun t' j a b d => f t' j a (Or.inl b) d) ⟨nm (B + 8), (e.2.2.2 _ _).trans o7, k8.1, ?_⟩
        have hle := Nat.mul_le_mul_right N (show k ≤ 10 by omega)
        rw [show xg_n Y (nm (B + 21)) = N from LWw.2.1.2.2, show Int32.ofNat N = nI N from rfl, pk_mul, nI_add, nI_clamp (by omega), k8.2]
        refine ⟨vp_in_nI (by omega) (by omega), ?_⟩
        rintro _ rfl _ rfl
        rw [nI_1]
        refine ih2 _ ⟨xe.ul hn e (by decide) (by decide) (by decide), fun t' j a b d => ?_⟩
        rw [xv hn]
        by_cases he : t' = k ∧ j = i
        · obtain ⟨rfl, rfl⟩ := he
          rw [if_pos ⟨rfl, rfl⟩]
        · rw [if_neg (fun q => ?_)]
          · exact f t' j a (by omega) d
          · have q := q.2
            rcases b with b | ⟨rfl, b⟩
            · have := Nat.mul_le_mul_right N (show t' + 1 ≤ k by omega)
              rw [Nat.add_mul] at this
              omega
            · omega
  · rw [e1]
    refine bq_nt one_ne (fin h J0 bf.rf ?_)
    rw [f1 T h1 h10, LK_31 (by omega)]
