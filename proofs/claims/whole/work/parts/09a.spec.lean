/-! the reference's methods, specified: 'Q of the answer and the state then → wp_m Q ..' -/
theorem mi_ui (h : mg_H) (c j d k : Nat) (v : Int32) : mg_i (mg_ui h c j v) d k = if d = c ∧ k = j then v else mg_i h d k := rfl
theorem mi_ul (h : mg_H) (c j d k : Nat) (v : Int64) : mg_i (mg_ul h c j v) d k = mg_i h d k := rfl
theorem ml_ui (h : mg_H) (c j d k : Nat) (v : Int32) : mg_l (mg_ui h c j v) d k = mg_l h d k := rfl
theorem ml_ul (h : mg_H) (c j d k : Nat) (v : Int64) : mg_l (mg_ul h c j v) d k = if d = c ∧ k = j then v else mg_l h d k := rfl
theorem mi_same {h : mg_H} {c j : Nat} {v : Int32} : mg_i (mg_ui h c j v) c j = v := by rw [mi_ui, if_pos ⟨rfl, rfl⟩]
theorem mi_cell {h : mg_H} {c j d k : Nat} {v : Int32} (hd : d ≠ c) : mg_i (mg_ui h c j v) d k = mg_i h d k := by rw [mi_ui, if_neg (fun q => hd q.1)]
theorem mi_place {h : mg_H} {c j d k : Nat} {v : Int32} (hk : k ≠ j) : mg_i (mg_ui h c j v) d k = mg_i h d k := by rw [mi_ui, if_neg (fun q => hk q.2)]
/-- what lasts from call to call stands as it was: the rows 1 to 9 and 60 -/
def mp_same (g g2 : mg_H) : Prop := ∀ c, (c < 10 ∧ c ≠ 0 ∨ c = 60) → ∀ j, mg_i g2 c j = mg_i g c j
theorem mp_same.rf {g : mg_H} : mp_same g g := fun _ _ _ => rfl
theorem mp_same.tr {g g2 g3 : mg_H} (h1 : mp_same g g2) (h2 : mp_same g2 g3) : mp_same g g3 := fun c hc j => (h2 c hc j).trans (h1 c hc j)
theorem mp_ui {g g2 : mg_H} {c j : Nat} {v : Int32} (h : mp_same g g2) (hc : ¬ (c < 10 ∧ c ≠ 0 ∨ c = 60)) : mp_same g (mg_ui g2 c j v) := fun d hd k => (mi_cell (d := d) (c := c) (fun e => hc (by rw [← e]; exact hd))).trans (h d hd k)
theorem mp_ul {g g2 : mg_H} {c j : Nat} {v : Int64} (h : mp_same g g2) : mp_same g (mg_ul g2 c j v) := fun d hd k => (mi_ul g2 c j d k v).trans (h d hd k)
theorem sp_in {Q : Int32 → mg_H → Prop} {x lo hi : Int32} {h : mg_H} (q1 : lo ≤ x → x ≤ hi → Q 1 h) (q0 : (x < lo ∨ hi < x) → Q 0 h) : wp_in Q x lo hi h := by
  unfold wp_in
  exact ⟨fun c => q0 (Or.inl c), fun c => ⟨fun c2 => q0 (Or.inr c2), fun c2 => q1 (Int32.not_lt.mp c) (Int32.not_lt.mp c2)⟩⟩
/-- bit k of x is 1 -/
abbrev mp_has (x k : Int32) : Prop := (x >>> (k &&& 31)) &&& 1 = 1
theorem sp_has {Q : Int32 → mg_H → Prop} {x k : Int32} {h : mg_H} (q1 : mp_has x k → Q 1 h) (q0 : ¬ mp_has x k → Q 0 h) : wp_has Q x k h := by
  unfold wp_has
  exact ⟨fun c => q0 c, fun c => q1 c⟩
theorem sp_greater {Q : Int32 → mg_H → Prop} {x y : Int32} {h : mg_H} (q : Q (if x ≤ y then y else x) h) : wp_greater Q x y h := by
  unfold wp_greater
  exact ⟨fun c => by rw [if_pos c] at q; exact q, fun c => by rw [if_neg c] at q; exact q⟩
theorem sp_lesser {Q : Int32 → mg_H → Prop} {x y : Int32} {h : mg_H} (q : Q (if y ≤ x then y else x) h) : wp_lesser Q x y h := by
  unfold wp_lesser
  exact ⟨fun c => by rw [if_pos c] at q; exact q, fun c => by rw [if_neg c] at q; exact q⟩
theorem sp_is {Q : Int32 → mg_H → Prop} {x k : Int32} {h : mg_H} (hx : vp_in x 16) (q1 : 0 ≤ k → k ≤ mg_i h 5 x.toNatClampNeg - 1 → Q 1 h) (q0 : (k < 0 ∨ mg_i h 5 x.toNatClampNeg - 1 < k) → Q 0 h) : wp_is Q x k h := by
  unfold wp_is
  exact ⟨hx, sp_in (fun a b => ⟨Or.inr rfl, q1 a b⟩) (fun c => ⟨Or.inl rfl, q0 c⟩)⟩
theorem sp_count {Q : Int32 → mg_H → Prop} {x : Int32} {h : mg_H} (q1 : 0 ≤ x → x ≤ 3 → Q (mg_i h 5 x.toNatClampNeg) (mg_ui h 0 0 0)) (q0 : (x < 0 ∨ 3 < x) → Q (-2) (mg_ui h 0 0 0)) : wp_count Q x h := by
  unfold wp_count
  intro h1 e1
  subst e1
  refine sp_in (fun a b => ⟨fun c => absurd c (by decide), fun _ => ⟨?_, ?_⟩⟩) (fun c => ⟨fun _ => q0 c, fun c2 => absurd rfl c2⟩)
  · rw [vp_in_iff]
    have a := Int32.le_iff_toInt_le.mp a
    have b := Int32.le_iff_toInt_le.mp b
    have e0 : (0 : Int32).toInt = 0 := rfl
    have e3 : (3 : Int32).toInt = 3 := rfl
    have e16 : mg_len 5 = 16 := rfl
    omega
  · rw [mi_cell (by decide)]
    exact q1 a b
theorem sp_fault {Q : Int32 → mg_H → Prop} {x : Int32} {h : mg_H} (q0 : x = 0 → Q (mg_i h 3 0) (mg_ui h 0 0 0)) (q1 : x = 1 → Q (mg_i h 4 0) (mg_ui h 0 0 0)) (q2 : ¬ x = 0 → ¬ x = 1 → Q (-1) (mg_ui h 0 0 0)) : wp_fault Q x h := by
  unfold wp_fault
  intro h1 e1
  subst e1
  exact ⟨fun c => ⟨fun c2 => q2 c c2, fun c2 => ⟨mp_in0 (by decide) (by decide), q1 c2⟩⟩, fun c => ⟨mp_in0 (by decide) (by decide), q0 c⟩⟩
theorem sp_end {Q : Int32 → mg_H → Prop} {x : Int32} {h : mg_H} (q1 : 0 ≤ x → x ≤ mg_i h 2 0 → Q x (mg_ui (mg_ui h 0 0 0) 2 0 x)) (q0 : (x < 0 ∨ mg_i h 2 0 < x) → Q (-1) (mg_ui h 0 0 0)) : wp_end Q x h := by
  unfold wp_end
  intro h1 e1
  subst e1
  refine ⟨mp_in0 (by decide) (by decide), sp_in (fun a b => ⟨fun _ => ⟨mp_in0 (by decide) (by decide), fun h4 e4 => ?_⟩, fun c => absurd c (by decide)⟩) (fun c => ⟨fun c2 => absurd rfl c2, fun _ => q0 c⟩)⟩
  subst e4
  exact q1 a b
/-- one byte behind the tape -/
def mp_put (g : mg_H) (n : Nat) (v : Int32) : mg_H := mg_ui (mg_ui g 1 n v) 2 0 (nI (n + 1))
def mp_byte (x y : Int32) : Int32 := (x >>> (y &&& 31)).toInt8.toInt32
theorem mp_put_size {g : mg_H} {n : Nat} {v : Int32} : mg_i (mp_put g n v) 2 0 = nI (n + 1) := mi_same
def mp_four (g : mg_H) (n : Nat) (x : Int32) : mg_H := mp_put (mp_put (mp_put (mp_put g n (mp_byte x 24)) (n + 1) (mp_byte x 16)) (n + 2) (mp_byte x 8)) (n + 3) (mp_byte x 0)
theorem mp_four_size {g : mg_H} {n : Nat} {x : Int32} : mg_i (mp_four g n x) 2 0 = nI (n + 4) := mi_same
theorem sp_four {Q : mg_H → Prop} {x : Int32} {h : mg_H} {n : Nat} (hn : n + 4 ≤ 2400) (hs : mg_i h 2 0 = nI n) (q : Q (mp_four h n x)) : wp_four Q x h := by
  unfold wp_four
  intro R3 c3
  have st : ∀ (y : Int32) (g : mg_H) (n : Nat), ¬ y < 0 → mg_i g 2 0 = nI n → n < 2400 → R3 (y + (-8)) (mp_put g n (mp_byte x y)) → R3 y g := by
    intro y g n hy hg hn hr
    refine c3 y g ⟨fun c => absurd c hy, fun _ => ⟨mp_in0 (by decide) (by decide), ?_⟩⟩
    simp only [sb_cl0, hg]
    refine ⟨vp_in_nI hn (by decide), fun h1 e1 => ⟨mp_in0 (by decide) (by decide), mp_in0 (by decide) (by decide), fun h2 e2 z ez => ?_⟩⟩
    subst e1
    subst e2
    subst ez
    rw [mi_cell (by decide), hg, nI_1, nI_clamp (by omega), pk_vb]
    exact hr
  refine st 24 h n (by decide) hs (by omega) (st 16 _ (n + 1) (by decide) mp_put_size (by omega) (st 8 _ (n + 2) (by decide) mp_put_size (by omega) (st 0 _ (n + 3) (by decide) mp_put_size (by omega) ?_)))
  exact c3 _ _ ⟨fun _ => q, fun c => absurd (by decide) c⟩
def mp_feed (g : mg_H) (n : Nat) (a b c d e : Int32) : mg_H := mp_four (mp_four (mp_four (mp_four (mp_four g n a) (n + 4) b) (n + 8) c) (n + 12) d) (n + 16) e
theorem sp_feed {Q : Int32 → mg_H → Prop} {a b c d e : Int32} {h : mg_H} {n : Nat} (hn : n ≤ 600) (hs : mg_i h 2 0 = nI n) (q1 : n + 20 ≤ 600 → Q (nI (n + 20)) (mp_feed (mg_ui h 0 0 0) n a b c d e)) (q0 : 600 < n + 20 → Q (-1) (mg_ui h 0 0 0)) : wp_feed Q a b c d e h := by
  unfold wp_feed
  intro h1 e1
  have hs1 : mg_i h1 2 0 = nI n := by rw [e1, mi_cell (by decide)]; exact hs
  have e20 : mg_i h1 2 (0 : Int32).toNatClampNeg + 20 = nI (n + 20) := by
    rw [sb_cl0, hs1]; exact nI_add n 20
  refine ⟨mp_in0 (by decide) (by decide), ?_, ?_⟩
  · intro c1
    rw [e20] at c1
    have h20 : n + 20 ≤ 600 := (nI_leI (a := n + 20) (b := 600) (by omega) (by omega)).mp c1
    refine sp_four (n := n) (by omega) hs1 (sp_four (n := n + 4) (by omega) mp_four_size (sp_four (n := n + 8) (by omega) mp_four_size (sp_four (n := n + 12) (by omega) mp_four_size (sp_four (n := n + 16) (by omega) mp_four_size ⟨mp_in0 (by decide) (by decide), ?_⟩))))
    rw [sb_cl0, mp_four_size, e1]
    exact q1 h20
  · intro c1
    rw [e20] at c1
    rw [e1]
    refine q0 (Nat.lt_of_not_le (fun h9 => c1 ?_))
    exact (nI_leI (a := n + 20) (b := 600) (by omega) (by omega)).mpr h9
theorem sp_of {Q : Int32 → mg_H → Prop} {x : Int32} {h : mg_H} {s j : Nat} (hs : mg_i h 0 23 = nI s) (hx : x = nI j) (hj : 13 * s + j < 104) (q : Q (mg_i h 6 (13 * s + j)) h) : wp_of Q x h := by
  unfold wp_of
  have e : 13 * mg_i h 0 23 + x = nI (13 * s + j) := by
    rw [hs, hx, ← nI_add, ← pk_mul]; rfl
  rw [e, nI_clamp (by omega)]
  exact ⟨vp_in_nI hj (by decide), q⟩
/-- glass k of a set alone: its size, its top, its share of the code -/
def mp_al (g : mg_H) (set : Int32) (s : Nat) : Nat → mg_H
  | 0 => mg_ui (mg_ui g 0 25 set) 0 26 0
  | k + 1 =>
    let u := mp_al g set s k
    let tp := if (set >>> (nI k &&& 31)) &&& 1 = 1 then mg_i u 6 (13 * s + (5 + k)) else 0
    let w := mg_ui (mg_ui u 27 k (if (set >>> (nI k &&& 31)) &&& 1 = 1 then mg_i u 6 (13 * s + (1 + k)) else 0)) 28 k tp
    mg_ui w 0 26 (mg_i w 0 26 ||| (tp <<< ((3 * nI k) &&& 31)))
theorem mp_al_6 {g : mg_H} {set : Int32} {s : Nat} : ∀ (k : Nat) (j : Nat), mg_i (mp_al g set s k) 6 j = mg_i g 6 j
  | 0, j => rfl
  | k + 1, j => by
    show mg_i (mg_ui (mg_ui (mg_ui (mp_al g set s k) 27 k _) 28 k _) 0 26 _) 6 j = _
    rw [mi_cell (by decide), mi_cell (by decide), mi_cell (by decide)]
    exact mp_al_6 k j
theorem mp_al_23 {g : mg_H} {set : Int32} {s : Nat} : ∀ (k : Nat), mg_i (mp_al g set s k) 0 23 = mg_i g 0 23
  | 0 => rfl
  | k + 1 => by
    show mg_i (mg_ui (mg_ui (mg_ui (mp_al g set s k) 27 k _) 28 k _) 0 26 _) 0 23 = _
    rw [mi_place (by decide), mi_cell (by decide), mi_cell (by decide)]
    exact mp_al_23 k
theorem sp_alone {Q : mg_H → Prop} {set : Int32} {h : mg_H} {s : Nat} (hs : mg_i h 0 23 = nI s) (hs2 : s < 8) (q : Q (mp_al h set s 4)) : wp_alone Q set h := by
  unfold wp_alone
  intro R12 R41 R66 c12 c41 c66 h1 e1 h2 e2
  subst e1
  subst e2
  have st : ∀ k : Nat, k < 4 → R12 (nI (k + 1)) (mp_al h set s (k + 1)) → R12 (nI k) (mp_al h set s k) := by
    intro k hk hr
    have hk23 : mg_i (mp_al h set s k) 0 23 = nI s := (mp_al_23 k).trans hs
    have last : ∀ sz : Int32, sz = (if (set >>> (nI k &&& 31)) &&& 1 = 1 then mg_i (mp_al h set s k) 6 (13 * s + (1 + k)) else 0) → R41 (nI k) sz (nI k) (mp_al h set s k) := by
      intro sz hsz
      refine c41 _ _ _ _ ⟨vp_in_nI (show k < mg_len 27 from hk) (by decide), fun h7 e7 => ?_⟩
      rw [nI_clamp (by omega)] at e7
      have h723 : mg_i h7 0 23 = nI s := by rw [e7, mi_cell (by decide)]; exact hk23
      have fin : ∀ tp : Int32, tp = (if (set >>> (nI k &&& 31)) &&& 1 = 1 then mg_i (mp_al h set s k) 6 (13 * s + (5 + k)) else 0) → R66 (nI k) tp (nI k) h7 := by
        intro tp htp
        refine c66 _ _ _ _ ⟨vp_in_nI (show k < mg_len 28 from hk) (by decide), fun h12 e12 => ⟨vp_in_nI (show k < mg_len 28 from hk) (by decide), fun h13 e13 z14 e14 => ?_⟩⟩
        rw [nI_clamp (by omega)] at e12 e13
        have e15 : mg_i h12 28 k = tp := by rw [e12]; exact mi_same
        rw [e15] at e13
        rw [e14, nI_1]
        have e16 : h13 = mp_al h set s (k + 1) := by
          rw [e13, e12, e7, hsz, htp]; rfl
        rw [e16]
        exact hr
      refine sp_has (fun hh => ⟨fun c => absurd c (by decide), fun _ => ?_⟩) (fun hh => ⟨fun _ => fin 0 (by rw [if_neg hh]), fun c => absurd rfl c⟩)
      refine sp_of (s := s) (j := 5 + k) h723 (by rw [← nI_add]; rfl) (by omega) (fin _ ?_)
      rw [if_pos hh, e7, mi_cell (by decide)]
    refine c12 _ _ ⟨fun c => absurd c (by have := nI_ge (a := k) (b := 4) hk (by decide); exact this), fun _ => ?_⟩
    refine sp_has (fun hh => ⟨fun c => absurd c (by decide), fun _ => ?_⟩) (fun hh => ⟨fun _ => last 0 (by rw [if_neg hh]), fun c => absurd rfl c⟩)
    exact sp_of (s := s) (j := 1 + k) hk23 (by rw [← nI_add]; rfl) (by omega) (last _ (by rw [if_pos hh]))
  refine st 0 (by decide) (st 1 (by decide) (st 2 (by decide) (st 3 (by decide) ?_)))
  exact c12 _ _ ⟨fun _ => q, fun c => absurd (by decide) c⟩
