/-! the class's object at hand: Told lies at a; what count, fault, end, deed, fact, order, shelf answer -/
/-- the class's Told at a stands for the rows p of a frame (p c j: place j of the reference's row c) -/
def xt_rel (h : xg_H) (a : Nat) (nm : Nat → Nat) (p : Nat → Nat → Int32) : Prop :=
  (xg_i h a 1 = p 2 0 ∧ xg_i h a 2 = p 3 0 ∧ xg_i h a 3 = p 4 0) ∧ (∀ j, j < 600 → xg_i h (nm 0) j = p 1 j &&& 255) ∧ (∀ s, s < 4 → xg_i h (nm 1) s = p 5 s) ∧
  ∀ k, k < 2 →
    (∃ n, n ≤ 4 ∧ p 6 (13 * k) = nI n ∧ xt_text h nm (0 + k) n (fun q => p 6 (13 * k + (1 + q))) (fun q => p 6 (13 * k + (5 + q))) ∧ ∀ q, q < n → xg_i h (nm (40 + (0 + k))) q = p 6 (13 * k + (9 + q))) ∧
    (∃ n, n ≤ 40 ∧ p 7 (81 * k) = nI n ∧ xt_text h nm (2 + k) n (fun q => p 7 (81 * k + (1 + 2 * q))) (fun q => p 7 (81 * k + (2 + 2 * q)))) ∧
    (∃ n, n ≤ 8 ∧ p 8 (17 * k) = nI n ∧ xt_text h nm (4 + k) n (fun q => p 8 (17 * k + (1 + 2 * q))) (fun q => p 8 (17 * k + (2 + 2 * q)))) ∧
    (∃ n, n ≤ 6 ∧ p 9 (7 * k) = nI n ∧ xg_i h (nm (10 + (6 + k))) 0 = nI n ∧ ∀ q, q < n → xg_i h (nm (20 + (6 + k))) q = p 9 (7 * k + (1 + q)))
/-- counts of a frame: at most two texts of a sort -/
def xt_cnt (p : Nat → Nat → Int32) : Prop := ∀ s, s < 4 → ∃ m, m ≤ 2 ∧ p 5 s = nI m
/-- the object: its Told is at a -/
def xt_obj (Y : xg_Y) (h : xg_H) (this a : Nat) : Prop := xg_is Y this 11 ∧ xg_o h this 0 = some a
theorem sp_X11_count {Y : xg_Y} {Q : Int32 → xg_H → Prop} {this a : Nat} {x : Int32} {h : xg_H} {nm : Nat → Nat} {p : Nat → Nat → Int32} (O : xt_obj Y h this a) (L : xt_lay Y h a nm) (R : xt_rel h a nm p) (q1 : 0 ≤ x → x ≤ 3 → Q (p 5 x.toNatClampNeg) h) (q0 : (x < 0 ∨ 3 < x) → Q (-2) h) : wp_X11_count Y Q this x h := by
  obtain ⟨h9, _, ⟨o4, k4, n4⟩, _, _⟩ := L
  unfold wp_X11_count
  refine ⟨O.1, fun c => q0 (Or.inl c), fun c => ⟨fun c4 => ?_, fun c4 => ⟨a, O.2, h9, nm 1, o4, k4, ?_⟩⟩⟩
  · refine q0 (Or.inr ?_)
    have := Int32.le_iff_toInt_le.mp c4
    refine Int32.lt_iff_toInt_lt.mpr ?_
    have e3 : (3 : Int32).toInt = 3 := rfl
    have e4 : (4 : Int32).toInt = 4 := rfl
    omega
  · obtain ⟨k, hk, rfl⟩ := nI_of c
    have hk4 : k < 4 := Nat.lt_of_not_le (fun h9 => c4 ((nI_leI (a := 4) (b := k) (by decide) hk).mpr h9))
    rw [n4]
    have q1 := q1 (Int32.not_lt.mp c) ((nI_leI (a := k) (b := 3) hk (by decide)).mpr (by omega))
    rw [nI_clamp hk] at q1 ⊢
    refine ⟨vp_in_nI hk4 (by decide), ?_⟩
    rw [R.2.2.1 k hk4]
    exact q1
theorem sp_X11_fault {Y : xg_Y} {Q : Int32 → xg_H → Prop} {this a : Nat} {x : Int32} {h : xg_H} {nm : Nat → Nat} {p : Nat → Nat → Int32} (O : xt_obj Y h this a) (L : xt_lay Y h a nm) (R : xt_rel h a nm p) (q0 : x = 0 → Q (p 3 0) h) (q1 : x = 1 → Q (p 4 0) h) (q2 : ¬ x = 0 → ¬ x = 1 → Q (-1) h) : wp_X11_fault Y Q this x h := by
  unfold wp_X11_fault
  refine ⟨O.1, fun c => ⟨a, O.2, L.1, ?_⟩, fun c => ⟨a, O.2, L.1, ?_⟩, q2⟩
  · rw [R.1.2.1]; exact q0 c
  · rw [R.1.2.2]; exact q1 c
theorem sp_X11_deed {Y : xg_Y} {Q : Int32 → xg_H → Prop} {this a : Nat} {x k w : Int32} {h : xg_H} {nm : Nat → Nat} {p : Nat → Nat → Int32} (O : xt_obj Y h this a) (L : xt_lay Y h a nm) (R : xt_rel h a nm p) (hc : xt_cnt p) (q : Q (fa_two (p 5 1) (fun d j => p 7 (81 * d + j)) x k w) h) : wp_X11_deed Y Q this x k w h := by
  obtain ⟨m, hm, em⟩ := hc 1 (by decide)
  rw [em] at q
  unfold wp_X11_deed
  refine ⟨O.1, a, O.2, L.1, ?_⟩
  refine sp_X9_find (s := 1) (m := m) L (by decide) hm ((R.2.2.1 1 (by decide)).trans em) (fun d hd ex => ?_) (fun hh => ?_)
  · obtain ⟨n, hn, en, T⟩ := (R.2.2.2 d (by omega)).2.1
    subst ex
    rw [fa_two, if_pos (mp_rngI (by omega) hd), nI_clamp (by omega)] at q
    have e9 : 10 + (2 * 1 + d) = 10 + (2 + d) := rfl
    rw [e9]
    exact sp_X11_lineOf (j := 2 + d) (n := n) (r := fun j => p 7 (81 * d + j)) L (by omega) (by rw [show (2 + d) / 2 = 1 by omega]; exact hn) T en q
  · rw [fa_two, if_neg hh] at q
    unfold wp_X11_lineOf
    exact ⟨fun _ => q, fun a1 h1 => by cases h1⟩
theorem sp_X11_fact {Y : xg_Y} {Q : Int32 → xg_H → Prop} {this a : Nat} {x k w : Int32} {h : xg_H} {nm : Nat → Nat} {p : Nat → Nat → Int32} (O : xt_obj Y h this a) (L : xt_lay Y h a nm) (R : xt_rel h a nm p) (hc : xt_cnt p) (q : Q (fa_two (p 5 2) (fun d j => p 8 (17 * d + j)) x k w) h) : wp_X11_fact Y Q this x k w h := by
  obtain ⟨m, hm, em⟩ := hc 2 (by decide)
  rw [em] at q
  unfold wp_X11_fact
  refine ⟨O.1, a, O.2, L.1, ?_⟩
  refine sp_X9_find (s := 2) (m := m) L (by decide) hm ((R.2.2.1 2 (by decide)).trans em) (fun d hd ex => ?_) (fun hh => ?_)
  · obtain ⟨n, hn, en, T⟩ := (R.2.2.2 d (by omega)).2.2.1
    subst ex
    rw [fa_two, if_pos (mp_rngI (by omega) hd), nI_clamp (by omega)] at q
    have e9 : 10 + (2 * 2 + d) = 10 + (4 + d) := rfl
    rw [e9]
    exact sp_X11_lineOf (j := 4 + d) (n := n) (r := fun j => p 8 (17 * d + j)) L (by omega) (by rw [show (4 + d) / 2 = 2 by omega]; exact hn) T en q
  · rw [fa_two, if_neg hh] at q
    unfold wp_X11_lineOf
    exact ⟨fun _ => q, fun a1 h1 => by cases h1⟩
