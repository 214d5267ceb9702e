/-! the class: Told and its texts, by names (nm 0 tape, 1 counts, 2 texts, 10+j text j, 20+j 30+j 40+j its first, second, price), and the rows p of the reference's frame that they stand for -/
def xt_room : Nat → Nat
  | 0 => 4
  | 1 => 40
  | 2 => 8
  | _ => 6
def xt_lay (Y : xg_Y) (h : xg_H) (a : Nat) (nm : Nat → Nat) : Prop :=
  xg_is Y a 9 ∧ (xg_o h a 0 = some (nm 0) ∧ xg_is Y (nm 0) 22 ∧ xg_n Y (nm 0) = 600) ∧ (xg_o h a 4 = some (nm 1) ∧ xg_is Y (nm 1) 22 ∧ xg_n Y (nm 1) = 4) ∧ (xg_o h a 5 = some (nm 2) ∧ xg_is Y (nm 2) 27 ∧ xg_n Y (nm 2) = 8) ∧
  ∀ j, j < 8 → xg_o h (nm 2) j = some (nm (10 + j)) ∧ xg_is Y (nm (10 + j)) 8 ∧ (xg_o h (nm (10 + j)) 1 = some (nm (20 + j)) ∧ xg_is Y (nm (20 + j)) 22 ∧ xg_n Y (nm (20 + j)) = xt_room (j / 2)) ∧ (xg_o h (nm (10 + j)) 2 = some (nm (30 + j)) ∧ xg_is Y (nm (30 + j)) 22 ∧ xg_n Y (nm (30 + j)) = xt_room (j / 2)) ∧ (xg_o h (nm (10 + j)) 3 = some (nm (40 + j)) ∧ xg_is Y (nm (40 + j)) 22 ∧ xg_n Y (nm (40 + j)) = if j < 2 then 4 else 0)
/-- text j has n lines, and they are f1, f2 -/
def xt_text (h : xg_H) (nm : Nat → Nat) (j n : Nat) (f1 f2 : Nat → Int32) : Prop := xg_i h (nm (10 + j)) 0 = nI n ∧ ∀ q, q < n → xg_i h (nm (20 + j)) q = f1 q ∧ xg_i h (nm (30 + j)) q = f2 q
theorem sp_X9_find {Y : xg_Y} {Q : Option Nat → xg_H → Prop} {a s m : Nat} {x : Int32} {h : xg_H} {nm : Nat → Nat} (L : xt_lay Y h a nm) (hs : s < 4) (hm : m ≤ 2) (ec : xg_i h (nm 1) s = nI m) (q1 : ∀ k, k < m → x = nI k → Q (some (nm (10 + (2 * s + k)))) h) (q0 : (¬ (0 ≤ x ∧ x ≤ nI m - 1)) → Q none h) : wp_X9_find Y Q a (nI s) x h := by
  obtain ⟨h9, _, ⟨o4, k4, n4⟩, ⟨o5, k5, n5⟩, ht⟩ := L
  unfold wp_X9_find
  have e3 : nI s &&& 3 = nI s := by
    have h1 : nI s &&& 3 = nI (s % 2 ^ 2) := pk_andN (by omega) 2 (by decide)
    rw [h1, Nat.mod_eq_of_lt (by omega)]
  refine ⟨h9, fun c => q0 (fun hh => absurd hh.1 (Int32.not_le.mpr c)), fun c => ⟨nm 1, o4, k4, ?_⟩⟩
  rw [e3, n4, nI_clamp (by omega), ec]
  refine ⟨vp_in_nI hs (by decide), fun c2 => q0 (fun hh => ?_), fun c2 => ?_⟩
  · obtain ⟨k, hk, rfl⟩ := mp_rng (by omega) hh.1 hh.2
    have := (nI_leI (a := m) (b := k) (by omega) (by omega)).mp c2
    omega
  · obtain ⟨k, hk, rfl⟩ := nI_of c
    have hkm : k < m := Nat.lt_of_not_le (fun h9 => c2 ((nI_leI (a := m) (b := k) (by omega) hk).mpr h9))
    refine ⟨nm 2, o5, k5, ?_⟩
    have e4 : nI s * 2 + nI k = nI (2 * s + k) := by
      rw [show (2 : Int32) = nI 2 from rfl, pk_mul, nI_add]
      congr 1
      omega
    rw [e4, n5, nI_clamp (by omega), (ht (2 * s + k) (by omega)).1]
    exact ⟨vp_in_nI (by omega) (by decide), q1 k hkm rfl⟩
/-- deed() and fact() of a text: as the row r tells (its count first) -/
theorem sp_X11_lineOf {Y : xg_Y} {Q : Int32 → xg_H → Prop} {a j n : Nat} {k w : Int32} {h : xg_H} {nm : Nat → Nat} {r : Nat → Int32} (L : xt_lay Y h a nm) (hj : j < 8) (hn : n ≤ xt_room (j / 2)) (T : xt_text h nm j n (fun q => r (1 + 2 * q)) (fun q => r (2 + 2 * q))) (er : r 0 = nI n) (q : Q (fa_line r k w) h) : wp_X11_lineOf Y Q (some (nm (10 + j))) k w h := by
  obtain ⟨_, _, _, _, ht⟩ := L
  obtain ⟨_, k8, ⟨o1, k1, n1⟩, ⟨o2, k2, n2⟩, _⟩ := ht j hj
  obtain ⟨el, et⟩ := T
  have hr40 : xt_room (j / 2) ≤ 40 := by
    unfold xt_room; split <;> omega
  unfold wp_X11_lineOf
  refine ⟨fun c => absurd c (by simp), fun a1 ha => ?_⟩
  have ha : nm (10 + j) = a1 := Option.some.inj ha
  subst ha
  rw [el]
  refine ⟨fun ck => ⟨fun c0 => ?_, fun c0 => ⟨k8, fun cn => ⟨fun w0 => ?_, fun w1 => ?_, fun w0 w1 => ?_⟩, fun cn => ?_⟩⟩, fun ck => ⟨fun cw => ?_, fun cw => ⟨k8, ?_⟩⟩⟩
  · rw [fa_line, if_neg ck, if_neg (fun hh => absurd hh.1.1 (Int32.not_le.mpr c0))] at q
    exact q
  · obtain ⟨kk, hk, rfl⟩ := nI_of c0
    have hkn : kk < n := (nI_ltI (a := kk) (b := n) hk (by omega)).mp cn
    have hR := mp_rngI (m := n) (by omega) hkn
    subst w0
    refine ⟨nm (20 + j), o1, k1, ?_⟩
    rw [n1, nI_clamp hk]
    refine ⟨vp_in_nI (by omega) (by omega), ?_⟩
    rw [(et kk hkn).1]
    rw [fa_line, if_neg ck, er, if_pos ⟨hR, by decide, by decide⟩, nI_clamp hk] at q
    exact q
  · obtain ⟨kk, hk, rfl⟩ := nI_of c0
    have hkn : kk < n := (nI_ltI (a := kk) (b := n) hk (by omega)).mp cn
    have hR := mp_rngI (m := n) (by omega) hkn
    subst w1
    refine ⟨nm (30 + j), o2, k2, ?_⟩
    rw [n2, nI_clamp hk]
    refine ⟨vp_in_nI (by omega) (by omega), ?_⟩
    rw [(et kk hkn).2]
    rw [fa_line, if_neg ck, er, if_pos ⟨hR, by decide, by decide⟩, nI_clamp hk] at q
    have e1 : 2 + 2 * kk = 1 + 2 * kk + (1 : Int32).toNatClampNeg := by
      rw [show (1 : Int32).toNatClampNeg = 1 from rfl]; omega
    show Q (r (2 + 2 * kk)) h
    rw [e1]
    exact q
  · have hw : ¬ (0 ≤ w ∧ w ≤ 1) := fun hh => by
      obtain ⟨v, hv, rfl⟩ := mp_rng (m := 2) (by decide) hh.1 hh.2
      rcases (show v = 0 ∨ v = 1 by omega) with rfl | rfl
      · exact w0 rfl
      · exact w1 rfl
    rw [fa_line, if_neg ck, if_neg (fun hh => hw hh.2)] at q
    exact q
  · have hk : ¬ (0 ≤ k ∧ k ≤ r 0 - 1) := fun hh => by
      rw [er] at hh
      obtain ⟨v, hv, rfl⟩ := mp_rng (by omega) hh.1 hh.2
      exact cn (nI_lt hv (by omega))
    rw [fa_line, if_neg ck, if_neg (fun hh => hk hh.1)] at q
    exact q
  · rw [fa_line, if_pos ck, if_neg cw] at q
    exact q
  · rw [fa_line, if_pos ck, if_pos cw, er] at q
    exact q
