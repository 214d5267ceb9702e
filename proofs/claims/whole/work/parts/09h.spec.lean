/-! feed of the class -/
theorem xi_ui (h : xg_H) (c j d k : Nat) (v : Int32) : xg_i (xg_ui h c j v) d k = if d = c ∧ k = j then v else xg_i h d k := rfl
theorem xi_same {h : xg_H} {c j : Nat} {v : Int32} : xg_i (xg_ui h c j v) c j = v := by rw [xi_ui, if_pos ⟨rfl, rfl⟩]
theorem xi_cell {h : xg_H} {c j d k : Nat} {v : Int32} (hd : d ≠ c) : xg_i (xg_ui h c j v) d k = xg_i h d k := by rw [xi_ui, if_neg (fun q => hd q.1)]
theorem xi_place {h : xg_H} {c j d k : Nat} {v : Int32} (hk : k ≠ j) : xg_i (xg_ui h c j v) d k = xg_i h d k := by rw [xi_ui, if_neg (fun q => hk q.2)]
theorem xo_ui (h : xg_H) (c j d k : Nat) (v : Int32) : xg_o (xg_ui h c j v) d k = xg_o h d k := rfl
theorem xt_byte (n : Nat) (hn : n ≤ 24) (x : Int32) : (x >>> (nI n &&& 31)).toInt8.toInt32 &&& 255 = (x.toUInt32 >>> ((nI n).toUInt32 &&& Int32.toUInt32 31)).toInt32 &&& 255 := by
  rw [bp_b]
  apply b_ext
  intro i hi
  rw [b_and, b_and, b_255, b_sshr n (by omega) x hi, b_ushr n (by omega)]
  by_cases h8 : i < 8
  · rw [if_pos (by omega)]
  · simp [h8]
/-- one byte behind the tape t of the Told at a -/
def xt_put (h : xg_H) (a t n : Nat) (v : Int32) : xg_H := xg_ui (xg_ui h t n v) a 1 (nI (n + 1))
def xt_b (x : Int32) (n : Nat) : Int32 := (x.toUInt32 >>> ((nI n).toUInt32 &&& Int32.toUInt32 31)).toInt32 &&& 255
def xt_four (h : xg_H) (a t n : Nat) (x : Int32) : xg_H := xt_put (xt_put (xt_put (xt_put h a t n (xt_b x 24)) a t (n + 1) (xt_b x 16)) a t (n + 2) (xt_b x 8)) a t (n + 3) (xt_b x 0)
theorem sp_X9_push {Y : xg_Y} {Q : xg_H → Prop} {a t n : Nat} {x : Int32} {h : xg_H} (k9 : xg_is Y a 9) (o0 : xg_o h a 0 = some t) (k0 : xg_is Y t 22) (n0 : xg_n Y t = 600) (el : xg_i h a 1 = nI n) (hn : n + 4 ≤ 600) (q : Q (xt_four h a t n x)) : wp_X9_push Y Q a x h := by
  have hat : a ≠ t := fun e => by
    have h1 := k9.2; rw [e, k0.2] at h1; cases h1
  unfold wp_X9_push
  refine ⟨k9, fun R3 R43 c3 c43 => ?_⟩
  have st : ∀ (y : Nat) (g : xg_H) (n : Nat), y ≤ 24 → xg_o g a 0 = some t → xg_i g a 1 = nI n → n < 600 → R3 (nI y + (-8)) (xt_put g a t n (xt_b x y)) → R3 (nI y) g := by
    intro y g n hy og eg hn hr
    refine c3 _ g ⟨fun c => absurd c (nI_pos (by omega)), fun _ => ⟨fun c => ?_, fun _ => ⟨t, og, k0, ?_⟩⟩⟩
    · rw [eg] at c
      have := (nI_leI (a := 600) (b := n) (by decide) (by omega)).mp c
      omega
    · rw [eg, n0, nI_clamp (by omega)]
      refine ⟨vp_in_nI hn (by decide), fun h2 e2 h3 e3 => c43 _ h3 (fun z ez => ?_)⟩
      subst e2
      subst e3
      subst ez
      rw [xi_cell hat, eg, nI_1]
      exact hr
  refine st 24 h n (by decide) o0 el (by omega) (st 16 _ (n + 1) (by decide) o0 xi_same (by omega) (st 8 _ (n + 2) (by decide) o0 xi_same (by omega) (st 0 _ (n + 3) (by decide) o0 xi_same (by omega) ?_)))
  exact c3 _ _ ⟨fun _ => q, fun c => absurd (by decide) c⟩
def xt_feed (h : xg_H) (a t n : Nat) (x1 x2 x3 x4 x5 : Int32) : xg_H := xt_four (xt_four (xt_four (xt_four (xt_four h a t n x1) a t (n + 4) x2) a t (n + 8) x3) a t (n + 12) x4) a t (n + 16) x5
theorem sp_X11_feed {Y : xg_Y} {Q : Int32 → xg_H → Prop} {this a n : Nat} {x1 x2 x3 x4 x5 : Int32} {h : xg_H} {nm : Nat → Nat} (O : xt_obj Y h this a) (L : xt_lay Y h a nm) (el : xg_i h a 1 = nI n) (hn : n ≤ 600) (q1 : n + 20 ≤ 600 → Q (nI (n + 20)) (xt_feed h a (nm 0) n x1 x2 x3 x4 x5)) (q0 : 600 < n + 20 → Q (-1) h) : wp_X11_feed Y Q this x1 x2 x3 x4 x5 h := by
  obtain ⟨k9, ⟨o0, k0, n0⟩, _⟩ := L
  unfold wp_X11_feed
  have e20 : xg_i h a 1 + 20 = nI (n + 20) := by rw [el]; exact nI_add n 20
  refine ⟨O.1, a, O.2, k9, fun c => ?_, fun c => ?_⟩
  · rw [e20] at c
    have h20 : n + 20 ≤ 600 := (nI_leI (a := n + 20) (b := 600) (by omega) (by omega)).mp c
    refine sp_X9_push (n := n) k9 o0 k0 n0 el (by omega) ⟨a, O.2, k9, ?_⟩
    refine sp_X9_push (n := n + 4) k9 o0 k0 n0 xi_same (by omega) ⟨a, O.2, k9, ?_⟩
    refine sp_X9_push (n := n + 8) k9 o0 k0 n0 xi_same (by omega) ⟨a, O.2, k9, ?_⟩
    refine sp_X9_push (n := n + 12) k9 o0 k0 n0 xi_same (by omega) ⟨a, O.2, k9, ?_⟩
    refine sp_X9_push (n := n + 16) k9 o0 k0 n0 xi_same (by omega) ⟨a, O.2, k9, ?_⟩
    have e9 : xg_i (xt_feed h a (nm 0) n x1 x2 x3 x4 x5) a 1 = nI (n + 20) := xi_same
    exact e9 ▸ q1 h20
  · rw [e20] at c
    refine q0 (Nat.lt_of_not_le (fun h9 => c ?_))
    exact (nI_leI (a := n + 20) (b := 600) (by omega) (by omega)).mpr h9
