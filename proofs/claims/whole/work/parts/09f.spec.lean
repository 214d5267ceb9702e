/-! end, order, shelf of the class -/
theorem sp_X11_end {Y : xg_Y} {Q : Int32 → xg_H → Prop} {this a : Nat} {x : Int32} {h : xg_H} {nm : Nat → Nat} {p : Nat → Nat → Int32} (O : xt_obj Y h this a) (L : xt_lay Y h a nm) (R : xt_rel h a nm p) (q1 : 0 ≤ x → x ≤ p 2 0 → Q x (xg_ui h a 1 x)) (q0 : (x < 0 ∨ p 2 0 < x) → Q (-1) h) : wp_X11_end Y Q this x h := by
  unfold wp_X11_end
  refine ⟨O.1, fun c => q0 (Or.inl c), fun c => ⟨a, O.2, L.1, fun c2 h2 e2 => ?_, fun c2 => q0 (Or.inr ?_)⟩⟩
  · subst e2
    exact q1 (Int32.not_lt.mp c) (R.1.1 ▸ c2)
  · rw [R.1.1] at c2
    exact Int32.not_le.mp c2
theorem sp_X11_order {Y : xg_Y} {Q : Int32 → xg_H → Prop} {this a : Nat} {x k : Int32} {h : xg_H} {nm : Nat → Nat} {p : Nat → Nat → Int32} (O : xt_obj Y h this a) (L : xt_lay Y h a nm) (R : xt_rel h a nm p) (hc : xt_cnt p) (q : Q (fa_order (p 5 3) (fun d j => p 9 (7 * d + j)) x k) h) : wp_X11_order Y Q this x k h := by
  obtain ⟨m, hm, em⟩ := hc 3 (by decide)
  rw [em] at q
  unfold wp_X11_order
  refine ⟨O.1, a, O.2, L.1, ?_⟩
  refine sp_X9_find (s := 3) (m := m) L (by decide) hm ((R.2.2.1 3 (by decide)).trans em) (fun d hd ex => ?_) (fun hh => ?_)
  · obtain ⟨n, hn, en, el, et⟩ := (R.2.2.2 d (by omega)).2.2.2
    have er : p 9 (7 * d + 0) = nI n := en
    obtain ⟨_, k8, ⟨o1, k1, n1⟩, _⟩ := L.2.2.2.2 (6 + d) (by omega)
    subst ex
    rw [fa_order, if_pos (mp_rngI (by omega) hd), nI_clamp (by omega), er] at q
    refine ⟨fun c => (by cases c), fun a4 h4 => ?_⟩
    have h4 : nm (10 + (6 + d)) = a4 := Option.some.inj h4
    subst h4
    rw [el]
    refine ⟨fun ck => ⟨fun c0 => ?_, fun c0 => ⟨k8, fun cn => ?_, fun cn => ⟨nm (20 + (6 + d)), o1, k1, ?_⟩⟩⟩, fun ck => ⟨k8, ?_⟩⟩
    · rw [if_neg ck, if_neg (fun hh => absurd hh.1 (Int32.not_le.mpr c0))] at q
      exact q
    · have hk : ¬ (0 ≤ k ∧ k ≤ nI n - 1) := fun hh => by
        obtain ⟨v, hv, rfl⟩ := mp_rng (by omega) hh.1 hh.2
        have := (nI_leI (a := n) (b := v) (by omega) (by omega)).mp cn
        omega
      rw [if_neg ck, if_neg hk] at q
      exact q
    · obtain ⟨kk, hk, rfl⟩ := nI_of c0
      have hkn : kk < n := Nat.lt_of_not_le (fun h9 => cn ((nI_leI (a := n) (b := kk) (by omega) hk).mpr h9))
      rw [n1, nI_clamp hk, show (6 + d) / 2 = 3 by omega]
      refine ⟨vp_in_nI (show kk < 6 by omega) (by decide), ?_⟩
      rw [et kk hkn]
      rw [if_neg ck, if_pos (mp_rngI (by omega) hkn), nI_clamp hk] at q
      exact q
    · rw [if_pos ck] at q
      exact q
  · rw [fa_order, if_neg hh] at q
    exact ⟨fun _ => q, fun a4 h4 => by cases h4⟩
/-- what isGlass(s, what, b) answers: what is b .. b + n - 1 -/
theorem sp_X11_isGlass {Y : xg_Y} {Q : Int32 → xg_H → Prop} {t n b : Nat} {w : Int32} {h : xg_H} (k8 : xg_is Y t 8) (el : xg_i h t 0 = nI n) (hn : n ≤ 40) (hb : b ≤ 40) (q1 : ∀ v, w = nI v → b ≤ v → v < b + n → Q 1 h) (q0 : (∀ v, w = nI v → v < 2 ^ 31 → ¬ (b ≤ v ∧ v < b + n)) → Q 0 h) : wp_X11_isGlass Y Q (some t) w (nI b) h := by
  unfold wp_X11_isGlass
  have e1 : nI b + xg_i h t 0 = nI (b + n) := by rw [el, nI_add]
  refine ⟨fun c => q0 (fun v e hv hh => ?_), fun c => ⟨t, rfl, k8, fun c2 => q0 (fun v e hv hh => ?_), fun c2 => ?_⟩⟩
  · rw [e] at c
    have := (nI_ltI (a := v) (b := b) hv (by omega)).mp c
    omega
  · rw [e1, e] at c2
    have := (nI_leI (a := b + n) (b := v) (by omega) hv).mp c2
    omega
  · have c3 : 0 ≤ w := Int32.le_trans (nI_pos' (n := b) (by omega)) (Int32.not_lt.mp c)
    obtain ⟨v, hv, rfl⟩ := nI_of (Int32.not_lt.mpr c3)
    refine q1 v rfl (Nat.le_of_not_lt (fun h9 => c (nI_lt h9 (by omega)))) (Nat.lt_of_not_le (fun h9 => c2 ?_))
    rw [e1]
    exact nI_le h9 hv
theorem sp_X11_shelf {Y : xg_Y} {Q : Int32 → xg_H → Prop} {this a : Nat} {x w : Int32} {h : xg_H} {nm : Nat → Nat} {p : Nat → Nat → Int32} (O : xt_obj Y h this a) (L : xt_lay Y h a nm) (R : xt_rel h a nm p) (hc : xt_cnt p) (q : Q (fa_shelf (p 5 0) (fun d j => p 6 (13 * d + j)) x w) h) : wp_X11_shelf Y Q this x w h := by
  obtain ⟨m, hm, em⟩ := hc 0 (by decide)
  rw [em] at q
  unfold wp_X11_shelf
  refine ⟨O.1, a, O.2, L.1, ?_⟩
  refine sp_X9_find (s := 0) (m := m) L (by decide) hm ((R.2.2.1 0 (by decide)).trans em) (fun d hd ex => ?_) (fun hh => ?_)
  · obtain ⟨n, hn, en, ⟨el, et⟩, ep⟩ := (R.2.2.2 d (by omega)).1
    have er : p 6 (13 * d + 0) = nI n := en
    obtain ⟨_, k8, ⟨o1, k1, n1⟩, ⟨o2, k2, n2⟩, ⟨o3, k3, n3⟩⟩ := L.2.2.2.2 (0 + d) (by omega)
    rw [show (0 + d) / 2 = 0 by omega] at n1 n2
    rw [if_pos (show 0 + d < 2 by omega)] at n3
    subst ex
    rw [fa_shelf, if_pos (mp_rngI (by omega) hd), nI_clamp (by omega), er] at q
    refine ⟨fun c => (by cases c), fun a4 h4 => ?_⟩
    have h4 : nm (10 + (0 + d)) = a4 := by
      have := Option.some.inj h4
      rw [← this, show 2 * 0 + d = 0 + d by omega]
    subst h4
    rw [show 10 + (2 * 0 + d) = 10 + (0 + d) by omega]
    -- where what is a glass's place, the row's place is this one
    have key : ∀ v t : Nat, t < 3 → 10 * t + 10 ≤ v → v < 10 * t + 10 + n → w = nI v → Q (p 6 (13 * d + (1 + 4 * t + (v - (10 * t + 10))))) h := by
      intro v t ht h1 h2 e
      subst e
      have c10 : (10 : Int32) ≤ nI v := (nI_leI (a := 10) (b := v) (by decide) (by omega)).mpr (by omega)
      have c40 : ¬ (40 : Int32) ≤ nI v := fun hh => by
        have := (nI_leI (a := 40) (b := v) (by decide) (by omega)).mp hh
        omega
      have er1 : nI v - nI v / 10 * 10 = nI (v % 10) := pk_rem (d := 10) (by omega) (by decide) (by decide)
      have ed1 : nI v / 10 = nI (v / 10) := pk_div (d := 10) (by omega) (by decide) (by decide)
      have ej : (1 + 4 * (nI v / 10 - 1)) + (nI v - nI v / 10 * 10) = nI (1 + 4 * (v / 10 - 1) + v % 10) := by
        rw [er1, ed1, show (1 : Int32) = nI 1 from rfl, show (4 : Int32) = nI 4 from rfl, pk_sub (by omega), pk_mul, nI_add, nI_add]
      rw [if_pos c10, if_neg c40, ej, er1, if_pos (mp_rngI (by omega) (show v % 10 < n by omega)), nI_clamp (by omega)] at q
      rw [show 1 + 4 * t + (v - (10 * t + 10)) = 1 + 4 * (v / 10 - 1) + v % 10 by omega]
      exact q
    have none : ¬ w = 0 → (∀ v t : Nat, t < 3 → w = nI v → v < 2 ^ 31 → ¬ (10 * t + 10 ≤ v ∧ v < 10 * t + 10 + n)) → Q (-1) h := by
      intro w0 hno
      by_cases c10 : 10 ≤ w
      · rw [if_pos c10] at q
        by_cases c40 : 40 ≤ w
        · rw [if_pos c40] at q; exact q
        · obtain ⟨v, hv, rfl⟩ := nI_of (Int32.not_lt.mpr (Int32.le_trans (by decide : (0 : Int32) ≤ 10) c10))
          have h40 : v < 40 := Nat.lt_of_not_le (fun h9 => c40 ((nI_leI (a := 40) (b := v) (by decide) hv).mpr h9))
          have h10 : 10 ≤ v := (nI_leI (a := 10) (b := v) (by decide) hv).mp c10
          have er1 : nI v - nI v / 10 * 10 = nI (v % 10) := pk_rem (d := 10) hv (by decide) (by decide)
          have hb : ¬ (0 ≤ nI v - nI v / 10 * 10 ∧ nI v - nI v / 10 * 10 ≤ nI n - 1) := fun hh => by
            rw [er1] at hh
            obtain ⟨y, hy, ey⟩ := mp_rng (by omega) hh.1 hh.2
            have e5 := (nI_eq (a := v % 10) (b := y) (by omega) (by omega)).mp ey
            exact hno v (v / 10 - 1) (by omega) rfl hv (by omega)
          rw [if_neg c40, if_neg hb] at q
          exact q
      · rw [if_neg c10, if_neg w0] at q; exact q
    refine ⟨fun w0 => ?_, fun w0 => ⟨k8, ?_⟩⟩
    · refine sp_X11_isGlass (b := 10) k8 el (by omega) (by decide) (fun v e h1 h2 => ⟨fun c => absurd c (by decide), fun _ => ⟨k8, nm (20 + (0 + d)), o1, k1, ?_⟩⟩) (fun no1 => ⟨fun _ => ?_, fun c => absurd rfl c⟩)
      · have e2 : w - 10 = nI (v - 10) := by rw [e]; exact pk_sub h1
        have hk := key v 0 (by decide) (by omega) (by omega) e
        rw [e2, n1, nI_clamp (by omega)]
        refine ⟨vp_in_nI (show v - 10 < 4 by omega) (by decide), ?_⟩
        rw [(et (v - 10) (by omega)).1]
        exact hk
      · refine sp_X11_isGlass (b := 20) k8 el (by omega) (by decide) (fun v e h1 h2 => ⟨fun c => absurd c (by decide), fun _ => ⟨k8, nm (30 + (0 + d)), o2, k2, ?_⟩⟩) (fun no2 => ⟨fun _ => ?_, fun c => absurd rfl c⟩)
        · have e2 : w - 20 = nI (v - 20) := by rw [e]; exact pk_sub h1
          have hk := key v 1 (by decide) (by omega) (by omega) e
          rw [e2, n2, nI_clamp (by omega)]
          refine ⟨vp_in_nI (show v - 20 < 4 by omega) (by decide), ?_⟩
          rw [(et (v - 20) (by omega)).2]
          exact hk
        · refine sp_X11_isGlass (b := 30) k8 el (by omega) (by decide) (fun v e h1 h2 => ⟨fun c => absurd c (by decide), fun _ => ⟨k8, nm (40 + (0 + d)), o3, k3, ?_⟩⟩) (fun no3 => ⟨fun _ => none w0 ?_, fun c => absurd rfl c⟩)
          · have e2 : w - 30 = nI (v - 30) := by rw [e]; exact pk_sub h1
            have hk := key v 2 (by decide) (by omega) (by omega) e
            rw [e2, n3, nI_clamp (by omega)]
            refine ⟨vp_in_nI (show v - 30 < 4 by omega) (by decide), ?_⟩
            rw [ep (v - 30) (by omega)]
            exact hk
          · intro v t ht e hv
            rcases (show t = 0 ∨ t = 1 ∨ t = 2 by omega) with rfl | rfl | rfl
            · exact no1 v e hv
            · exact no2 v e hv
            · exact no3 v e hv
    · rw [el]
      subst w0
      rw [if_neg (by decide), if_pos rfl] at q
      exact q
  · rw [fa_shelf, if_neg hh] at q
    exact ⟨fun _ => q, fun a4 h4 => by cases h4⟩
