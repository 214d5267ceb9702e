/-! the class's answers over the game: same, chance, duel -/
theorem tp_sameV {Y : xg_Y} {h : xg_H} {nm : Nat → Nat} {p : Nat → Nat → Int32} {pk : Nat → Nat → Nat → Int32} {sv : Nat → Bool} {b : Nat → Nat} {Q : Int32 → xg_H → Prop} {k n : Nat} {z t pr : Nat → Nat} {x1 : Int32} {T : Nat} (C : CW Y h nm p pk sv b) (cn : xt_cnt p) (hx : okN p 0 x1 k) (S : SR p k n z t pr) (h1 : 1 ≤ T) (h30 : T ≤ 30) (q1 : ∀ h', CW Y h' nm p pk sv b → SM z (2 ^ n - 1) (c4 t) T → Q 1 h') (q0 : ∀ h', CW Y h' nm p pk sv b → ¬ SM z (2 ^ n - 1) (c4 t) T → Q 0 h') : wp_X11_same Y Q (nm 0) x1 (nI T) h := by
  unfold wp_X11_same
  refine ⟨C.2.1.1, nm 100, C.2.1.2.1, C.2.2.1.1.1, sp_findV (s := 0) (C.co cn) (by decide) hx ⟨fun c => (by cases c), fun a _ => ?_⟩⟩
  obtain ⟨o6, k35, s4⟩ := C.2.1.2.2.2.2.2.2.2.1
  refine sp_X11_isT (fun _ _ _ _ => ⟨fun _ => ⟨nm 35, o6, k35, tp_game C cn hx S (fun h2 C2 G2 => ?_)⟩, fun c => absurd c (by decide)⟩) (fun no => absurd (tOk h1 h30) no)
  obtain ⟨p6, j35, _⟩ := C2.2.1.2.2.2.2.2.2.2.1
  refine ⟨nm 35, p6, j35, sp_X4_roundComesTo C2.1 G2 C2.2.2.2.2.1 h1 h30 (fun h3 e3 G3 S3 => ?_)⟩
  have C3 := CW_xs C2 e3 (fun c hc => by rw [List.mem_singleton.mp hc]; decide) S3
  exact ⟨fun sm => ⟨fun c => absurd c (by decide), fun _ => q1 h3 C3 sm⟩, fun ns => ⟨fun _ => q0 h3 C3 ns, fun c => absurd rfl c⟩⟩
theorem tp_same0 {Y : xg_Y} {h : xg_H} {nm : Nat → Nat} {p : Nat → Nat → Int32} {pk : Nat → Nat → Nat → Int32} {sv : Nat → Bool} {b : Nat → Nat} {Q : Int32 → xg_H → Prop} {x1 x2 : Int32} (C : CW Y h nm p pk sv b) (cn : xt_cnt p) (hb : noN p 0 x1 ∨ ¬ (1 ≤ x2 ∧ x2 ≤ 30)) (q : Q (-1) h) : wp_X11_same Y Q (nm 0) x1 x2 h := by
  unfold wp_X11_same
  refine ⟨C.2.1.1, nm 100, C.2.1.2.1, C.2.2.1.1.1, sp_find2 (s := 0) (C.co cn) (by decide) (fun k hx => ⟨fun c => (by cases c), fun a _ => ?_⟩) (fun _ => ⟨fun _ => q, fun a c => (by cases c)⟩)⟩
  exact sp_X11_isT (fun T eT a b => absurd (by rw [eT]; exact tOk a b) (hb.elim (fun c => absurd c (okno hx)) id)) (fun _ => ⟨fun c => absurd rfl c, fun _ => q⟩)
theorem tp_duelV {Y : xg_Y} {h : xg_H} {nm : Nat → Nat} {p : Nat → Nat → Int32} {pk : Nat → Nat → Nat → Int32} {sv : Nat → Bool} {b : Nat → Nat} {Q : Int32 → xg_H → Prop} {k n : Nat} {z t pr : Nat → Nat} {x1 : Int32} {l : Nat} {x3 : Int32} (C : CW Y h nm p pk sv b) (cn : xt_cnt p) (hx : okN p 0 x1 k) (S : SR p k n z t pr) (hl : l ≤ 4) (q : ∀ h', CW Y h' nm p pk sv b → Q (if x3 = 0 then nI (dm z (2 ^ n - 1) l true (c4 t)).1 else if l = 0 then nM else nI (dm z (2 ^ n - 1) l true (c4 t)).2) h') : wp_X11_duel Y Q (nm 0) x1 (nI l) x3 h := by
  have SHh := S.sh
  have hn4 := S.1
  have hp := pow_n hn4
  have hp1 := Nat.two_pow_pos n
  unfold wp_X11_duel
  refine ⟨C.2.1.1, nm 100, C.2.1.2.1, C.2.2.1.1.1, sp_findV (s := 0) (C.co cn) (by decide) hx ⟨fun c => (by cases c), fun a _ => rng (fun _ => ?_) (fun no => absurd (rOk hl (by decide)) no)⟩⟩
  rcases Nat.eq_zero_or_pos l with e0 | e0
  · rw [e0] at q ⊢
    refine ⟨fun c => absurd rfl c, fun _ => ⟨fun c => ?_, fun c => ?_⟩⟩
    · have := q h C
      rw [if_pos c] at this
      exact this
    · have := q h C
      rw [if_neg c, if_pos rfl] at this
      exact this
  · refine ⟨fun _ => ?_, fun c => absurd (show nI l = nI 0 from c) (nI_ne (by omega) (by decide) (by omega))⟩
    obtain ⟨o6, k35, s4⟩ := C.2.1.2.2.2.2.2.2.2.1
    refine ⟨nm 35, o6, k35, tp_game C cn hx S (fun h2 C2 G2 => ?_)⟩
    obtain ⟨p6, j35, _⟩ := C2.2.1.2.2.2.2.2.2.2.1
    refine ⟨nm 35, p6, j35, sp_X4_bestOfDuel C2.1 G2 C2.2.2.2.2.1 e0 hl (fun h3 e3 G3 S3 => ?_)⟩
    have C3 := CW_xs C2 e3 (fun c hc => by rw [List.mem_singleton.mp hc]; decide) S3
    have q := q h3 C3
    have d1 := dm_le (m := 2 ^ n - 1) SHh.zok l true (c4 t)
    have d2 : (dm z (2 ^ n - 1) l true (c4 t)).2 < 16 := by
      obtain ⟨l', el⟩ : ∃ l', l = l' + 1 := ⟨l - 1, by omega⟩
      rw [el]
      exact Nat.lt_of_lt_of_le (bst_lt (2 ^ n - 1 + 1) (by omega)) (by omega)
    rw [if_neg (show ¬ l = 0 by omega)] at q
    generalize dm z (2 ^ n - 1) l true (c4 t) = D at d1 d2 q
    refine ⟨fun c => ?_, fun c => ?_⟩
    · rw [if_pos c] at q
      rw [nl_16, pk_div (by omega) (by decide) (by decide), show (D.1 * 16 + D.2) / 16 = D.1 by omega]
      exact q
    · rw [if_neg c] at q
      rw [nl_16, pk_rem (by omega) (by decide) (by decide), show (D.1 * 16 + D.2) % 16 = D.2 by omega]
      exact q
theorem tp_duel0 {Y : xg_Y} {h : xg_H} {nm : Nat → Nat} {p : Nat → Nat → Int32} {pk : Nat → Nat → Nat → Int32} {sv : Nat → Bool} {b : Nat → Nat} {Q : Int32 → xg_H → Prop} {x1 x2 x3 : Int32} (C : CW Y h nm p pk sv b) (cn : xt_cnt p) (hb : noN p 0 x1 ∨ ¬ (0 ≤ x2 ∧ x2 ≤ 4)) (q : Q (-9) h) : wp_X11_duel Y Q (nm 0) x1 x2 x3 h := by
  unfold wp_X11_duel
  exact ⟨C.2.1.1, nm 100, C.2.1.2.1, C.2.2.1.1.1, sp_find2 (s := 0) (C.co cn) (by decide) (fun k hx => ⟨fun c => (by cases c), fun a _ => rng (fun r => absurd r (hb.elim (fun c => absurd c (okno hx)) id)) (fun _ => q)⟩) (fun _ => ⟨fun _ => q, fun a c => (by cases c)⟩)⟩
theorem tp_chanceV {Y : xg_Y} {h : xg_H} {nm : Nat → Nat} {p : Nat → Nat → Int32} {pk : Nat → Nat → Nat → Int32} {sv : Nat → Bool} {b : Nat → Nat} {Q : Int32 → xg_H → Prop} {k n : Nat} {z t pr : Nat → Nat} {x1 : Int32} {u M : Nat} {x4 : Int32} (C : CW Y h nm p pk sv b) (cn : xt_cnt p) (hx : okN p 0 x1 k) (S : SR p k n z t pr) (hu : u ≤ 10) (hM : M ≤ 7) (q : ∀ h', CW Y h' nm p pk sv b → Q (nI ((if x4 = 0 then CH z n (c4 t) u M else 10 ^ n) / Nat.gcd (10 ^ n) (CH z n (c4 t) u M))) h') : wp_X11_chance Y Q (nm 0) x1 (nI u) (nI M) x4 h := by
  have hn4 := S.1
  have h10 := ten_n hn4
  have h10p : 0 < 10 ^ n := Nat.pow_pos (by decide)
  have hCH := CH_le (z := z) (c0 := c4 t) (m := M) hu hn4
  unfold wp_X11_chance
  refine ⟨C.2.1.1, fun R64 R111 c64 c111 => ⟨nm 100, C.2.1.2.1, C.2.2.1.1.1, sp_findV (s := 0) (C.co cn) (by decide) hx ⟨fun c => (by cases c), fun a _ => ?_⟩⟩⟩
  refine bq_f (nI_pos (by omega)) (bq_f (nI_nlt (a := 10) (by omega) (by decide)) (bq_f (nI_pos (by omega)) (bq_t (nI_le (b := 7) hM (by decide)) ?_)))
  obtain ⟨o6, k35, s4⟩ := C.2.1.2.2.2.2.2.2.2.1
  refine ⟨nm 35, o6, k35, tp_game C cn hx S (fun h2 C2 G2 => ?_)⟩
  obtain ⟨p6, j35, _⟩ := C2.2.1.2.2.2.2.2.2.2.1
  refine ⟨nm 35, p6, j35, sp_X4_chanceOver C2.1 G2 C2.2.2.2.2.1 hu hM (fun h3 e3 G3 S3 => ?_)⟩
  have C3 := CW_xs C2 e3 (fun c hc => by rw [List.mem_singleton.mp hc]; decide) S3
  have X3 := (C3.co cn).xs hx.2.1 S
  have q := q h3 C3
  generalize CH z n (c4 t) u M = A at hCH q ⊢
  have key : R64 (some (nm (111 + (2 * 0 + k)))) (nI A) (nI (10 ^ 0)) (nI 0) h3 := by
    refine mp_up (P := fun j => R64 (some (nm (111 + (2 * 0 + k)))) (nI A) (nI (10 ^ j)) (nI j) h3) (n := n) ?_ (fun j hj ih => ?_)
    · refine c64 _ _ _ _ _ ⟨nm (111 + (2 * 0 + k)), rfl, X3.1, ?_⟩
      rw [X3.2.2.2.2.1, nI_l (by omega), nI_l (by omega)]
      refine bq_t (nI_le (Nat.le_refl n) (by omega)) (sp_X11_common (by omega) (by omega) ?_)
      rintro _ rfl
      rw [lN_i]
      generalize 10 ^ n = D at h10 h10p q
      have hg0 : 0 < Nat.gcd A D := Nat.gcd_pos_of_pos_right _ h10p
      have hgb : Nat.gcd A D ≤ D := Nat.gcd_le_right _ h10p
      rw [Nat.gcd_comm] at q
      have go : ∀ v, v ≤ 160000 → Q (nI (v / Nat.gcd A D)) h3 → R111 (nI (Nat.gcd A D)) (nI v) h3 := by
        intro v hv qv
        refine c111 _ _ _ ?_
        rintro _ rfl
        have ez : (if 1 < nI (Nat.gcd A D) then nI (Nat.gcd A D) else 1) = nI (Nat.gcd A D) := by
          by_cases c : 1 < Nat.gcd A D
          · exact if_pos (nI_lt (a := 1) c (by omega))
          · rw [show Nat.gcd A D = 1 by omega]; decide
        rw [ez]
        refine ⟨nI_ne (b := 0) (by omega) (by decide) (by omega), ?_⟩
        rw [pk_div (by omega) hg0 (by omega)]; exact qv
      refine ⟨fun c => go A (by omega) ?_, fun c => go D (by omega) ?_⟩
      · rw [if_pos c] at q; exact q
      · rw [if_neg c] at q; exact q
    · refine c64 _ _ _ _ _ ⟨nm (111 + (2 * 0 + k)), rfl, X3.1, ?_⟩
      rw [X3.2.2.2.2.1]
      refine bq_f (nI_ge hj (by omega)) ?_
      rintro _ rfl _ rfl
      rw [nl_10, pk_mul, nI_1, ← Nat.pow_succ]
      exact ih
  exact key
theorem tp_chance0 {Y : xg_Y} {h : xg_H} {nm : Nat → Nat} {p : Nat → Nat → Int32} {pk : Nat → Nat → Nat → Int32} {sv : Nat → Bool} {b : Nat → Nat} {Q : Int32 → xg_H → Prop} {x1 x2 x3 x4 : Int32} (C : CW Y h nm p pk sv b) (cn : xt_cnt p) (hb : noN p 0 x1 ∨ ¬ (0 ≤ x2 ∧ x2 ≤ 10) ∨ ¬ (0 ≤ x3 ∧ x3 ≤ 7)) (q : Q (-1) h) : wp_X11_chance Y Q (nm 0) x1 x2 x3 x4 h := by
  unfold wp_X11_chance
  refine ⟨C.2.1.1, fun R64 R111 c64 c111 => ⟨nm 100, C.2.1.2.1, C.2.2.1.1.1, sp_find2 (s := 0) (C.co cn) (by decide) (fun k hx => ⟨fun c => (by cases c), fun a _ => ?_⟩) (fun _ => ⟨fun _ => q, fun a c => (by cases c)⟩)⟩⟩
  refine ⟨fun _ => q, fun c1 => ⟨fun _ => q, fun c2 => ⟨fun _ => q, fun c3 => ⟨fun c4' => ?_, fun _ => q⟩⟩⟩⟩
  rcases hb with hb | hb | hb
  · exact absurd hb (okno hx)
  · exact absurd ⟨Int32.not_lt.mp c1, Int32.not_lt.mp c2⟩ hb
  · exact absurd ⟨Int32.not_lt.mp c3, c4'⟩ hb
