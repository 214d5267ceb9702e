/-! texts as the reference keeps them: rows of the lasting cells; what a call answers of them -/
theorem mp_rng {x : Int32} {m : Nat} (hm : m < 2 ^ 30) (a : 0 ≤ x) (b : x ≤ nI m - 1) : ∃ k, k < m ∧ x = nI k := by
  obtain ⟨k, hk, rfl⟩ := nI_of (Int32.not_lt.mpr a)
  have b := Int32.le_iff_toInt_le.mp b
  have e1 : (nI m - 1).toInt = (m : Int) - 1 := pk_sub_toInt (a := m) (b := 1) hm (by decide)
  rw [e1, nI_toInt hk] at b
  exact ⟨k, by omega, rfl⟩
theorem mp_rngI {k m : Nat} (hm : m < 2 ^ 30) (h : k < m) : 0 ≤ nI k ∧ nI k ≤ nI m - 1 := by
  refine ⟨nI_pos' (by omega), Int32.le_iff_toInt_le.mpr ?_⟩
  have e1 : (nI m - 1).toInt = (m : Int) - 1 := pk_sub_toInt (a := m) (b := 1) hm (by decide)
  rw [e1, nI_toInt (by omega)]
  omega
/-- no row of lines: the place of one -/
theorem mp_not {x lo hi : Int32} (c : x < lo ∨ hi < x) : ¬ (lo ≤ x ∧ x ≤ hi) := fun h => c.elim (fun c => absurd h.1 (Int32.not_le.mpr c)) (fun c => absurd h.2 (Int32.not_le.mpr c))
/-- what deed() and fact() answer of a text's row r (count first, then two numbers a line) -/
def fa_line (r : Nat → Int32) (k what : Int32) : Int32 :=
  if k = -1 then (if what = 0 then r 0 else -2) else if (0 ≤ k ∧ k ≤ r 0 - 1) ∧ (0 ≤ what ∧ what ≤ 1) then r (1 + 2 * k.toNatClampNeg + what.toNatClampNeg) else -2
def fa_two (m : Int32) (r : Nat → Nat → Int32) (x k what : Int32) : Int32 := if 0 ≤ x ∧ x ≤ m - 1 then fa_line (r x.toNatClampNeg) k what else -2
theorem sp_deeds {Q : Int32 → mg_H → Prop} {h : mg_H} {d : Nat} (hd : d < 8) (e : mg_i h 0 29 = nI d) (q : Q (mg_i h 7 (81 * d)) h) : wp_deeds Q h := by
  unfold wp_deeds
  have e1 : 81 * mg_i h 0 29 = nI (81 * d) := by rw [e, ← pk_mul]; rfl
  rw [e1, nI_clamp (by omega)]
  exact ⟨vp_in_nI (show 81 * d < 648 by omega) (by decide), q⟩
theorem sp_deedOf {Q : Int32 → mg_H → Prop} {h : mg_H} {d k w : Nat} (hd : d < 8) (hk : k < 40) (hw : w < 2) (e : mg_i h 0 29 = nI d) (q : Q (mg_i h 7 (81 * d + (1 + 2 * k + w))) h) : wp_deedOf Q (nI k) (nI w) h := by
  unfold wp_deedOf
  have e1 : ((81 * mg_i h 0 29 + 1) + (2 * nI k)) + nI w = nI (81 * d + (1 + 2 * k + w)) := by
    rw [e, show (81 : Int32) = nI 81 from rfl, show (1 : Int32) = nI 1 from rfl, show (2 : Int32) = nI 2 from rfl, pk_mul, pk_mul, nI_add, nI_add, nI_add]
    congr 1
    omega
  rw [e1, nI_clamp (by omega)]
  exact ⟨vp_in_nI (show 81 * d + (1 + 2 * k + w) < 648 by omega) (by decide), q⟩
/-- day rows are well formed: at most 40 deeds -/
def mp_days (g : mg_H) : Prop := (∃ m, m ≤ 2 ∧ mg_i g 5 1 = nI m) ∧ ∀ d, d < 2 → ∃ n, n ≤ 40 ∧ mg_i g 7 (81 * d) = nI n
theorem sp_deed {Q : Int32 → mg_H → Prop} {x k what : Int32} {h : mg_H} (ok : mp_days h) (q : Q (fa_two (mg_i h 5 1) (fun d j => mg_i h 7 (81 * d + j)) x k what) (mg_ui (mg_ui h 0 0 0) 0 29 x)) : wp_deed Q x k what h := by
  obtain ⟨⟨m, hm, em⟩, hn⟩ := ok
  unfold wp_deed wp_hasDay
  intro h1 e1 h2 e2
  subst e1
  subst e2
  have em2 : mg_i (mg_ui (mg_ui h 0 0 0) 0 29 x) 5 1 = nI m := em
  rw [em] at q
  refine sp_is (vp_in_nI (n := 1) (by decide) (by decide)) (fun a b => ⟨Or.inr rfl, fun _ => ?_, fun c => absurd c (by decide)⟩) (fun c => ⟨Or.inl rfl, fun c2 => absurd rfl c2, fun _ => ?_⟩)
  · have b : x ≤ nI m - 1 := em2 ▸ b
    rw [fa_two, if_pos ⟨a, b⟩] at q
    obtain ⟨d, hd, rfl⟩ := mp_rng (by omega) a b
    rw [nI_clamp (by omega)] at q
    obtain ⟨n, hn40, en⟩ := hn d (by omega)
    have e29 : mg_i (mg_ui (mg_ui h 0 0 0) 0 29 (nI d)) 0 29 = nI d := mi_same
    have er : (fun j => mg_i h 7 (81 * d + j)) 0 = nI n := en
    refine ⟨fun ck => ?_, fun ck => ⟨fun cw => ?_, fun cw => ?_⟩⟩
    · rw [fa_line, if_neg ck] at q
      refine sp_deeds (d := d) (by omega) e29 ?_
      have en2 : mg_i (mg_ui (mg_ui h 0 0 0) 0 29 (nI d)) 7 (81 * d) = nI n := en
      rw [en2]
      refine sp_in (fun a1 b1 => ⟨fun c => absurd c (by decide), fun _ => ?_⟩) (fun c => ⟨fun _ => ?_, fun c2 => absurd rfl c2⟩)
      · refine sp_in (fun a2 b2 => ⟨fun c => absurd c (by decide), fun _ => ?_⟩) (fun c => ⟨fun _ => ?_, fun c2 => absurd rfl c2⟩)
        · obtain ⟨kk, hk, rfl⟩ := mp_rng (by omega) a1 b1
          obtain ⟨w, hw, rfl⟩ := mp_rng (m := 2) (by decide) a2 b2
          refine sp_deedOf (d := d) (by omega) (by omega) hw e29 ?_
          rw [if_pos ⟨⟨a1, by show nI kk ≤ mg_i h 7 (81 * d) - 1; rw [en]; exact b1⟩, a2, b2⟩, nI_clamp (by omega), nI_clamp (by omega)] at q
          exact q
        · rw [if_neg (fun hh => mp_not c hh.2)] at q
          exact q
      · rw [if_neg (fun hh => mp_not c (by rw [← er]; exact hh.1))] at q
        exact q
    · rw [fa_line, if_pos ck, if_neg cw] at q
      exact q
    · rw [fa_line, if_pos ck, if_pos cw] at q
      exact sp_deeds (d := d) (by omega) e29 q
  · rw [fa_two, if_neg (mp_not (em2 ▸ c))] at q
    exact q
theorem sp_facts {Q : Int32 → mg_H → Prop} {h : mg_H} {d : Nat} (hd : d < 8) (e : mg_i h 0 52 = nI d) (q : Q (mg_i h 8 (17 * d)) h) : wp_facts Q h := by
  unfold wp_facts
  have e1 : 17 * mg_i h 0 52 = nI (17 * d) := by rw [e, ← pk_mul]; rfl
  rw [e1, nI_clamp (by omega)]
  exact ⟨vp_in_nI (show 17 * d < 136 by omega) (by decide), q⟩
theorem sp_factOf {Q : Int32 → mg_H → Prop} {h : mg_H} {d k w : Nat} (hd : d < 8) (hk : k < 8) (hw : w < 2) (e : mg_i h 0 52 = nI d) (q : Q (mg_i h 8 (17 * d + (1 + 2 * k + w))) h) : wp_factOf Q (nI k) (nI w) h := by
  unfold wp_factOf
  have e1 : ((17 * mg_i h 0 52 + 1) + (2 * nI k)) + nI w = nI (17 * d + (1 + 2 * k + w)) := by
    rw [e, show (17 : Int32) = nI 17 from rfl, show (1 : Int32) = nI 1 from rfl, show (2 : Int32) = nI 2 from rfl, pk_mul, pk_mul, nI_add, nI_add, nI_add]
    congr 1
    omega
  rw [e1, nI_clamp (by omega)]
  exact ⟨vp_in_nI (show 17 * d + (1 + 2 * k + w) < 136 by omega) (by decide), q⟩
/-- log rows are well formed: at most 8 facts -/
def mp_logs (g : mg_H) : Prop := (∃ m, m ≤ 2 ∧ mg_i g 5 2 = nI m) ∧ ∀ d, d < 2 → ∃ n, n ≤ 8 ∧ mg_i g 8 (17 * d) = nI n
theorem sp_fact {Q : Int32 → mg_H → Prop} {x k what : Int32} {h : mg_H} (ok : mp_logs h) (q : Q (fa_two (mg_i h 5 2) (fun d j => mg_i h 8 (17 * d + j)) x k what) (mg_ui (mg_ui h 0 0 0) 0 52 x)) : wp_fact Q x k what h := by
  obtain ⟨⟨m, hm, em⟩, hn⟩ := ok
  unfold wp_fact wp_hasLog
  intro h1 e1 h2 e2
  subst e1
  subst e2
  have em2 : mg_i (mg_ui (mg_ui h 0 0 0) 0 52 x) 5 2 = nI m := em
  rw [em] at q
  refine sp_is (vp_in_nI (n := 2) (by decide) (by decide)) (fun a b => ⟨Or.inr rfl, fun _ => ?_, fun c => absurd c (by decide)⟩) (fun c => ⟨Or.inl rfl, fun c2 => absurd rfl c2, fun _ => ?_⟩)
  · have b : x ≤ nI m - 1 := em2 ▸ b
    rw [fa_two, if_pos ⟨a, b⟩] at q
    obtain ⟨d, hd, rfl⟩ := mp_rng (by omega) a b
    rw [nI_clamp (by omega)] at q
    obtain ⟨n, hn8, en⟩ := hn d (by omega)
    have e52 : mg_i (mg_ui (mg_ui h 0 0 0) 0 52 (nI d)) 0 52 = nI d := mi_same
    have er : (fun j => mg_i h 8 (17 * d + j)) 0 = nI n := en
    refine ⟨fun ck => ?_, fun ck => ⟨fun cw => ?_, fun cw => ?_⟩⟩
    · rw [fa_line, if_neg ck] at q
      refine sp_facts (d := d) (by omega) e52 ?_
      have en2 : mg_i (mg_ui (mg_ui h 0 0 0) 0 52 (nI d)) 8 (17 * d) = nI n := en
      rw [en2]
      refine sp_in (fun a1 b1 => ⟨fun c => absurd c (by decide), fun _ => ?_⟩) (fun c => ⟨fun _ => ?_, fun c2 => absurd rfl c2⟩)
      · refine sp_in (fun a2 b2 => ⟨fun c => absurd c (by decide), fun _ => ?_⟩) (fun c => ⟨fun _ => ?_, fun c2 => absurd rfl c2⟩)
        · obtain ⟨kk, hk, rfl⟩ := mp_rng (by omega) a1 b1
          obtain ⟨w, hw, rfl⟩ := mp_rng (m := 2) (by decide) a2 b2
          refine sp_factOf (d := d) (by omega) (by omega) hw e52 ?_
          rw [if_pos ⟨⟨a1, by show nI kk ≤ mg_i h 8 (17 * d) - 1; rw [en]; exact b1⟩, a2, b2⟩, nI_clamp (by omega), nI_clamp (by omega)] at q
          exact q
        · rw [if_neg (fun hh => mp_not c hh.2)] at q
          exact q
      · rw [if_neg (fun hh => mp_not c (by rw [← er]; exact hh.1))] at q
        exact q
    · rw [fa_line, if_pos ck, if_neg cw] at q
      exact q
    · rw [fa_line, if_pos ck, if_pos cw] at q
      exact sp_facts (d := d) (by omega) e52 q
  · rw [fa_two, if_neg (mp_not (em2 ▸ c))] at q
    exact q
