/-! order, hand, shelf of the reference -/
def fa_order (m : Int32) (r : Nat → Nat → Int32) (x k : Int32) : Int32 :=
  if 0 ≤ x ∧ x ≤ m - 1 then (if k = -1 then r x.toNatClampNeg 0 else if 0 ≤ k ∧ k ≤ r x.toNatClampNeg 0 - 1 then r x.toNatClampNeg (1 + k.toNatClampNeg) else -1) else -1
def mp_ords (g : mg_H) : Prop := (∃ m, m ≤ 2 ∧ mg_i g 5 3 = nI m) ∧ ∀ d, d < 2 → ∃ n, n ≤ 6 ∧ mg_i g 9 (7 * d) = nI n
theorem sp_spans {Q : Int32 → mg_H → Prop} {h : mg_H} {d : Nat} (hd : d < 8) (e : mg_i h 0 45 = nI d) (q : Q (mg_i h 9 (7 * d)) h) : wp_spans Q h := by
  unfold wp_spans
  have e1 : 7 * mg_i h 0 45 = nI (7 * d) := by rw [e, ← pk_mul]; rfl
  rw [e1, nI_clamp (by omega)]
  exact ⟨vp_in_nI (show 7 * d < 56 by omega) (by decide), q⟩
theorem sp_order {Q : Int32 → mg_H → Prop} {x k : Int32} {h : mg_H} (ok : mp_ords h) (q : Q (fa_order (mg_i h 5 3) (fun d j => mg_i h 9 (7 * d + j)) x k) (mg_ui (mg_ui h 0 0 0) 0 45 x)) : wp_order Q x k h := by
  obtain ⟨⟨m, hm, em⟩, hn⟩ := ok
  unfold wp_order wp_hasOrder
  intro h1 e1 h2 e2
  subst e1
  subst e2
  have em2 : mg_i (mg_ui (mg_ui h 0 0 0) 0 45 x) 5 3 = nI m := em
  rw [em] at q
  refine sp_is (vp_in_nI (n := 3) (by decide) (by decide)) (fun a b => ⟨Or.inr rfl, fun _ => ?_, fun c => absurd c (by decide)⟩) (fun c => ⟨Or.inl rfl, fun c2 => absurd rfl c2, fun _ => ?_⟩)
  · have b : x ≤ nI m - 1 := em2 ▸ b
    rw [fa_order, if_pos ⟨a, b⟩] at q
    obtain ⟨d, hd, rfl⟩ := mp_rng (by omega) a b
    rw [nI_clamp (by omega)] at q
    obtain ⟨n, hn6, en⟩ := hn d (by omega)
    have e45 : mg_i (mg_ui (mg_ui h 0 0 0) 0 45 (nI d)) 0 45 = nI d := mi_same
    have er : (fun d j => mg_i h 9 (7 * d + j)) d 0 = nI n := en
    refine ⟨fun ck => ?_, fun ck => ?_⟩
    · rw [if_neg ck] at q
      refine sp_spans (d := d) (by omega) e45 ?_
      have en2 : mg_i (mg_ui (mg_ui h 0 0 0) 0 45 (nI d)) 9 (7 * d) = nI n := en
      rw [en2]
      refine sp_in (fun a1 b1 => ⟨fun c => absurd c (by decide), fun _ => ?_⟩) (fun c => ⟨fun _ => ?_, fun c2 => absurd rfl c2⟩)
      · rw [if_pos ⟨a1, by show k ≤ mg_i h 9 (7 * d) - 1; rw [en]; exact b1⟩] at q
        obtain ⟨kk, hk, rfl⟩ := mp_rng (by omega) a1 b1
        rw [nI_clamp (by omega)] at q
        have e2 : 7 * nI d + 1 + nI kk = nI (7 * d + (1 + kk)) := by
          rw [show (7 : Int32) = nI 7 from rfl, show (1 : Int32) = nI 1 from rfl, pk_mul, nI_add, nI_add]
          congr 1
          omega
        rw [e2, nI_clamp (by omega)]
        exact ⟨vp_in_nI (show 7 * d + (1 + kk) < 56 by omega) (by decide), q⟩
      · rw [if_neg (fun hh => mp_not c (by rw [← er]; exact hh))] at q
        exact q
    · rw [if_pos ck] at q
      exact sp_spans (d := d) (by omega) e45 q
  · rw [fa_order, if_neg (mp_not (em2 ▸ c))] at q
    exact q
/-- shelf k is at hand, its c glasses stand by -/
def mp_hand (g : mg_H) (k c : Nat) : mg_H := mp_al (mg_ui (mg_ui g 0 23 (nI k)) 0 24 (nI c)) ((1 <<< (nI c &&& 31)) - 1) k 4
/-- shelves are well formed, as far as counts go -/
def mp_shs (g : mg_H) : Prop := (∃ m, m ≤ 2 ∧ mg_i g 5 0 = nI m) ∧ ∀ d, d < 2 → ∃ n, n ≤ 4 ∧ mg_i g 6 (13 * d) = nI n
theorem sp_hand {Q : Int32 → mg_H → Prop} {x : Int32} {h : mg_H} (ok : mp_shs h) (q1 : ∀ k c : Nat, k < 2 → c ≤ 4 → x = nI k → 0 ≤ x → x ≤ mg_i h 5 0 - 1 → mg_i h 6 (13 * k) = nI c → Q 1 (mp_hand h k c)) (q0 : ¬ (0 ≤ x ∧ x ≤ mg_i h 5 0 - 1) → Q 0 h) : wp_hand Q x h := by
  obtain ⟨⟨m, hm, em⟩, hn⟩ := ok
  unfold wp_hand
  refine sp_is (mp_in0 (by decide) (by decide)) (fun a b => ⟨fun _ h3 e3 => ?_, fun c => absurd c (by decide)⟩) (fun c => ⟨fun c2 => absurd rfl c2, fun _ => q0 (mp_not c)⟩)
  have b2 : x ≤ nI m - 1 := em ▸ b
  obtain ⟨d, hd, rfl⟩ := mp_rng (by omega) a b2
  obtain ⟨n, hn4, en⟩ := hn d (by omega)
  subst e3
  refine sp_of (s := d) (j := 0) mi_same rfl (by omega) ?_
  have en2 : mg_i (mg_ui h 0 23 (nI d)) 6 (13 * d + 0) = nI n := en
  rw [en2]
  intro h6 e6
  subst e6
  rw [mi_same]
  exact sp_alone (s := d) (by rw [mi_place (by decide), mi_same]) (by omega) (q1 d n (by omega) hn4 rfl a b en)
theorem sp_isGlass {Q : Int32 → mg_H → Prop} {x : Int32} {h : mg_H} {c : Nat} (e : mg_i h 0 24 = nI c) (q1 : 0 ≤ x → x ≤ nI c - 1 → Q 1 h) (q0 : ¬ (0 ≤ x ∧ x ≤ nI c - 1) → Q 0 h) : wp_isGlass Q x h := by
  unfold wp_isGlass
  rw [e]
  exact sp_in (fun a b => ⟨Or.inr rfl, q1 a b⟩) (fun c => ⟨Or.inl rfl, q0 (mp_not c)⟩)
theorem mp_al_24 {g : mg_H} {set : Int32} {s : Nat} : ∀ (k : Nat), mg_i (mp_al g set s k) 0 24 = mg_i g 0 24
  | 0 => rfl
  | k + 1 => by
    show mg_i (mg_ui (mg_ui (mg_ui (mp_al g set s k) 27 k _) 28 k _) 0 26 _) 0 24 = _
    rw [mi_place (by decide), mi_cell (by decide), mi_cell (by decide)]
    exact mp_al_24 k
theorem mp_hand_24 {g : mg_H} {k c : Nat} : mg_i (mp_hand g k c) 0 24 = nI c := (mp_al_24 4).trans mi_same
theorem mp_hand_23 {g : mg_H} {k c : Nat} : mg_i (mp_hand g k c) 0 23 = nI k := (mp_al_23 4).trans ((mi_place (by decide)).trans mi_same)
theorem mp_hand_6 {g : mg_H} {k c j : Nat} : mg_i (mp_hand g k c) 6 j = mg_i g 6 j := (mp_al_6 4 j).trans ((mi_cell (by decide)).trans (mi_cell (by decide)))
/-- what shelf() answers -/
def fa_shelf (m : Int32) (r : Nat → Nat → Int32) (x w : Int32) : Int32 :=
  if 0 ≤ x ∧ x ≤ m - 1 then (if 10 ≤ w then (if 40 ≤ w then -1 else if 0 ≤ w - w / 10 * 10 ∧ w - w / 10 * 10 ≤ r x.toNatClampNeg 0 - 1 then r x.toNatClampNeg ((1 + 4 * (w / 10 - 1)) + (w - w / 10 * 10)).toNatClampNeg else -1) else if w = 0 then r x.toNatClampNeg 0 else -1) else -1
theorem sp_shelf {Q : Int32 → mg_H → Prop} {x w : Int32} {h : mg_H} (ok : mp_shs h) (q : ∀ g2 : mg_H, (∃ k c : Nat, k < 2 ∧ c ≤ 4 ∧ g2 = mp_hand (mg_ui h 0 0 0) k c) ∨ g2 = mg_ui h 0 0 0 → Q (fa_shelf (mg_i h 5 0) (fun d j => mg_i h 6 (13 * d + j)) x w) g2) : wp_shelf Q x w h := by
  unfold wp_shelf
  intro h1 e1
  subst e1
  refine sp_hand (h := mg_ui h 0 0 0) ok (fun k c hk hc ex a b en => ⟨fun _ z4 e4 => ?_, fun c => absurd c (by decide)⟩) (fun hh => ⟨fun c => absurd rfl c, fun _ => ?_⟩)
  · have q := q _ (Or.inl ⟨k, c, hk, hc, rfl⟩)
    have b : x ≤ mg_i h 5 0 - 1 := b
    have en : mg_i h 6 (13 * k) = nI c := en
    rw [fa_shelf, if_pos ⟨a, b⟩] at q
    subst ex
    rw [nI_clamp (by omega)] at q
    subst e4
    have er : (fun d j => mg_i h 6 (13 * d + j)) k 0 = nI c := en
    refine ⟨fun c10 => ⟨fun c40 => ?_, fun c40 => ?_⟩, fun c10 => ⟨fun c0 => ?_, fun c0 => ?_⟩⟩
    · rw [if_pos c10, if_pos c40] at q
      exact q
    · rw [if_pos c10, if_neg c40] at q
      refine sp_isGlass mp_hand_24 (fun a1 b1 => ⟨fun c => absurd c (by decide), fun _ => ?_⟩) (fun hh => ⟨fun _ => ?_, fun c => absurd rfl c⟩)
      · rw [if_pos ⟨a1, by show w - w / 10 * 10 ≤ mg_i h 6 (13 * k) - 1; rw [en]; exact b1⟩] at q
        obtain ⟨v, hv, rfl⟩ := nI_of (Int32.not_lt.mpr (Int32.le_trans (by decide : (0 : Int32) ≤ 10) c10))
        have h40 : v < 40 := by
          refine Nat.lt_of_not_le (fun h9 => c40 ?_)
          exact (nI_leI (a := 40) (b := v) (by decide) hv).mpr h9
        have h10 : 10 ≤ v := (nI_leI (a := 10) (b := v) (by decide) hv).mp c10
        have er1 : nI v - nI v / 10 * 10 = nI (v % 10) := pk_rem (d := 10) hv (by decide) (by decide)
        have ed1 : nI v / 10 = nI (v / 10) := pk_div (d := 10) hv (by decide) (by decide)
        rw [er1] at b1
        have hm : v % 10 < c := by
          obtain ⟨y, hy, ey⟩ := mp_rng (m := c) (by omega) (nI_pos' (by omega)) b1
          have := (nI_eq (a := v % 10) (b := y) (by omega) (by omega)).mp ey
          omega
        have ej : (1 + 4 * (nI v / 10 - 1)) + (nI v - nI v / 10 * 10) = nI (1 + 4 * (v / 10 - 1) + v % 10) := by
          rw [er1, ed1, show (1 : Int32) = nI 1 from rfl, show (4 : Int32) = nI 4 from rfl, pk_sub (by omega), pk_mul, nI_add, nI_add]
        rw [ej, nI_clamp (by omega)] at q
        refine sp_of (s := k) (j := 1 + 4 * (v / 10 - 1) + v % 10) mp_hand_23 ej (by omega) ?_
        rw [mp_hand_6]
        exact q
      · rw [if_neg (fun h9 => hh ⟨h9.1, by rw [← er]; exact h9.2⟩)] at q
        exact q
    · rw [if_neg c10, if_neg c0] at q
      exact q
    · rw [if_neg c10, if_pos c0] at q
      rw [mp_hand_24, ← er]
      exact q
  · have q := q _ (Or.inr rfl)
    have hh : ¬ (0 ≤ x ∧ x ≤ mg_i h 5 0 - 1) := hh
    rw [fa_shelf, if_neg hh] at q
    exact q
