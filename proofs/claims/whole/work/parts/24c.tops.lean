/-! the class's answers over a book: luck, apart, wheel, tell -/
theorem tp_luckV {MC MS : Nat} {Y : xg_Y} {h : xg_H} {nm : Nat → Nat} {p : Nat → Nat → Int32} {pk : Nat → Nat → Nat → Int32} {sv : Nat → Bool} {b : Nat → Nat} {Q : Int64 → xg_Y → xg_H → Prop} {k n : Nat} {z t pr : Nat → Nat} {x1 : Int32} {T : Nat} {x3 : Int32} (C : CW Y h nm p pk sv b) (cn : xt_cnt p) (hx : okN p 0 x1 k) (S : SR p k n z t pr) (h1 : 1 ≤ T) (h10 : T ≤ 10) (hMC : 40 * dB b k n ≤ MC) (hMS : 120000 * dB b k n ≤ MS) (q : ∀ nm' Y' h', CW Y' h' nm' p pk sv (upB b k (mB b k n)) → nm' 0 = nm 0 → Q (lN ((if x3 = 0 then LK z (2 ^ n - 1) n T (c4 t) else 2 ^ (n * T)) / Nat.gcd (2 ^ (n * T)) (LK z (2 ^ n - 1) n T (c4 t)))) Y' h') : wp_X11_luck MC MS Y Q (nm 0) x1 (nI T) x3 h := by
  have hn4 := S.1
  have hnT := Nat.mul_le_mul hn4 h10
  have hpw : 2 ^ (n * T) ≤ 2 ^ 40 := Nat.pow_le_pow_right (by decide) hnT
  have hp0 := Nat.two_pow_pos (n * T)
  have hLK := LK_lt (z := z) (n := n) (t := T) (c := c4 t) hn4 h10
  have h40 : (2 : Nat) ^ 40 < 2 ^ 62 := by decide
  unfold wp_X11_luck
  refine ⟨C.2.1.1, fun R75 c75 => ⟨nm 100, C.2.1.2.1, C.2.2.1.1.1, m00, sp_findV (s := 0) (C.co cn) (by decide) hx ⟨fun c => (by cases c), fun a4 e4 => rng (fun _ => ?_) (fun no => absurd ⟨nI_le (a := 1) h1 (by omega), nI_le (b := 10) h10 (by decide)⟩ no)⟩⟩⟩
  rw [← Option.some.inj e4]
  refine tp_bk C cn hx S hMC hMS (fun nm' Y' h' g C' eg hg J e0 ee => ⟨nm' (500 + 100 * k), rfl, J.1.1, ⟨by omega, by omega⟩, ?_⟩)
  refine sp_X1_luckOver C'.1 J h1 h10 (fun h'' J' f => ?_)
  have C2 := tp_bf C' hx eg hg f J'
  have X2 := (C2.co cn).xs hx.2.1 S
  rw [← ee _ (ptx hx.2.1)]
  refine ⟨X2.1, ?_⟩
  rw [X2.2.2.2.2.1, pk_mul, nI_l (by omega), lsh1 (by omega)]
  rintro _ rfl
  refine ⟨⟨by omega, by omega⟩, sp_X11_common (by omega) (by omega) ?_⟩
  have q := q nm' Y' h'' C2 e0
  generalize LK z (2 ^ n - 1) n T (c4 t) = A at hLK q
  generalize 2 ^ (n * T) = D at hpw hp0 q
  have hg0 : 0 < Nat.gcd A D := Nat.gcd_pos_of_pos_right _ hp0
  have hgb : Nat.gcd A D ≤ D := Nat.gcd_le_right _ hp0
  rw [Nat.gcd_comm] at q
  have go : ∀ u kc nc, u < 2 ^ 62 → kc ≤ MC → nc ≤ MS → Q (lN (u / Nat.gcd A D)) Y' h'' → R75 (lN (Nat.gcd A D)) (lN u) kc nc Y' h'' := by
    intro u kc nc hu m1 m2 qu
    refine c75 _ _ _ _ _ _ ⟨⟨m1, m2⟩, ?_⟩
    rintro _ rfl
    have ez : (if lN (Nat.gcd A D) < 1 then 1 else lN (Nat.gcd A D)) = lN (Nat.gcd A D) := if_neg (fun c => by
      have := (pk_lLT (a := Nat.gcd A D) (b := 1) (by omega) (by decide)).mp c
      omega)
    rw [ez]
    refine ⟨fun e => ?_, ⟨m1, m2⟩, ?_⟩
    · have := (pk_lEQ (a := Nat.gcd A D) (b := 0) (by omega) (by decide)).mp e
      omega
    · rw [pk_lDiv (by omega) hg0 (by omega)]; exact qu
  refine ⟨fun c => go A _ _ (by omega) (by omega) (by omega) ?_, fun c => go D _ _ (by omega) (by omega) (by omega) ?_⟩
  · rw [if_pos c] at q; exact q
  · rw [if_neg c] at q; exact q
theorem tp_luck0 {MC MS : Nat} {Y : xg_Y} {h : xg_H} {nm : Nat → Nat} {p : Nat → Nat → Int32} {pk : Nat → Nat → Nat → Int32} {sv : Nat → Bool} {b : Nat → Nat} {Q : Int64 → xg_Y → xg_H → Prop} {x1 x2 x3 : Int32} (C : CW Y h nm p pk sv b) (cn : xt_cnt p) (hb : noN p 0 x1 ∨ ¬ (1 ≤ x2 ∧ x2 ≤ 10)) (q : Q (-1) Y h) : wp_X11_luck MC MS Y Q (nm 0) x1 x2 x3 h := by
  unfold wp_X11_luck
  exact ⟨C.2.1.1, fun R75 c75 => ⟨nm 100, C.2.1.2.1, C.2.2.1.1.1, m00, sp_find2 (s := 0) (C.co cn) (by decide) (fun k hx => ⟨fun c => (by cases c), fun a _ => rng (fun r => absurd r (hb.elim (fun c => absurd c (okno hx)) id)) (fun _ => ⟨m00, q⟩)⟩) (fun _ => ⟨fun _ => ⟨m00, q⟩, fun a c => (by cases c)⟩)⟩⟩
theorem tp_apartV {MC MS : Nat} {Y : xg_Y} {h : xg_H} {nm : Nat → Nat} {p : Nat → Nat → Int32} {pk : Nat → Nat → Nat → Int32} {sv : Nat → Bool} {b : Nat → Nat} {Q : Int32 → xg_Y → xg_H → Prop} {k n : Nat} {z t pr : Nat → Nat} {x1 : Int32} {k2 n2 : Nat} {z2 t2 pr2 : Nat → Nat} {x2 : Int32} (C : CW Y h nm p pk sv b) (cn : xt_cnt p) (hx : okN p 0 x1 k) (S : SR p k n z t pr) (hx2 : okN p 0 x2 k2) (S2 : SR p k2 n2 z2 t2 pr2) (hMC : 40 * dB b k n + 40 * dB (upB b k (mB b k n)) k2 n2 ≤ MC) (hMS : 120000 * dB b k n + 120000 * dB (upB b k (mB b k n)) k2 n2 ≤ MS) (q : ∀ nm' Y' h' v, CW Y' h' nm' p pk sv (upB (upB b k (mB b k n)) k2 (mB (upB b k (mB b k n)) k2 n2)) → nm' 0 = nm 0 → isB v (fun T => TB n z t (2 ^ n - 1) T ∧ ¬ TB n2 z2 t2 (2 ^ n2 - 1) T) → Q v Y' h') : wp_X11_apart MC MS Y Q (nm 0) x1 x2 h := by
  unfold wp_X11_apart
  refine ⟨C.2.1.1, nm 100, C.2.1.2.1, C.2.2.1.1.1, m00, sp_findV (s := 0) (C.co cn) (by decide) hx ⟨nm 100, C.2.1.2.1, C.2.2.1.1.1, m00, sp_findV (s := 0) (C.co cn) (by decide) hx2 ⟨fun c => (by cases c), fun a _ => ⟨fun c => (by cases c), fun a8 _ => ?_⟩⟩⟩⟩
  refine tp_bk C cn hx S (by omega) (by omega) (fun nm' Y' h' g C' eg hg J e0 ee => ⟨nm' (500 + 100 * k), rfl, J.1.1, ⟨by omega, by omega⟩, sp_X1_told J (fun v hv => ?_)⟩)
  rw [← e0, ← ee _ (ptx hx2.2.1)]
  refine ⟨C'.2.1.1, 40 * dB (upB b k (mB b k n)) k2 n2, 120000 * dB (upB b k (mB b k n)) k2 n2, ⟨by omega, by omega⟩, ?_⟩
  refine sp_bookOf C' cn hx2.2.1 hx2.1 S2 (Nat.le_refl _) (Nat.le_refl _) (fun n' Y2 h2 g2 C2 eg2 hg2 J2 ee2 => ⟨n' (500 + 100 * k2), rfl, J2.1.1, ⟨by omega, by omega⟩, sp_X1_told J2 (fun v2 hv2 => ⟨⟨by omega, by omega⟩, ?_⟩)⟩)
  rw [eg2] at C2
  exact q n' Y2 h2 _ C2 ((ee2 0 (Or.inl rfl)).trans e0) ((isB_diff hv hv2).congr (fun T => by rw [TB_all S.sh, TB_all S2.sh]))
theorem tp_apart0 {MC MS : Nat} {Y : xg_Y} {h : xg_H} {nm : Nat → Nat} {p : Nat → Nat → Int32} {pk : Nat → Nat → Nat → Int32} {sv : Nat → Bool} {b : Nat → Nat} {Q : Int32 → xg_Y → xg_H → Prop} {x1 x2 : Int32} (C : CW Y h nm p pk sv b) (cn : xt_cnt p) (hb : noN p 0 x1 ∨ noN p 0 x2) (q : Q (-1) Y h) : wp_X11_apart MC MS Y Q (nm 0) x1 x2 h := by
  have CC := C.co cn
  unfold wp_X11_apart
  refine ⟨C.2.1.1, nm 100, C.2.1.2.1, C.2.2.1.1.1, m00, sp_find2 (s := 0) CC (by decide) (fun k hx => ?_) (fun _ => ⟨nm 100, C.2.1.2.1, C.2.2.1.1.1, m00, sp_find2 (s := 0) CC (by decide) (fun _ _ => ⟨fun _ => ⟨m00, q⟩, fun a c => (by cases c)⟩) (fun _ => ⟨fun _ => ⟨m00, q⟩, fun a c => (by cases c)⟩)⟩)⟩
  exact ⟨nm 100, C.2.1.2.1, C.2.2.1.1.1, m00, sp_find0 (s := 0) CC (by decide) (hb.elim (fun c => absurd c (okno hx)) id) ⟨fun c => (by cases c), fun a _ => ⟨fun _ => ⟨m00, q⟩, fun a c => (by cases c)⟩⟩⟩
theorem ST_xd {Y : xg_Y} {nm : Nat → Nat} {L : List Nat} {h h2 : xg_H} (S : ST Y h nm) (e : xd nm L h h2) (h1 : 31 ∉ L) (h3 : 32 ∉ L) : ST Y h2 nm := ⟨⟨S.1.1, (e.2 _ _).trans S.1.2.1, S.1.2.2.1, (e.2 _ _).trans S.1.2.2.2.1, S.1.2.2.2.2⟩, fun c hc => by rw [e.i 32 h3]; exact S.2.1 c hc, fun c hc => by rw [e.i 31 h1]; exact S.2.2 c hc⟩
/-- the game begins with the shelf -/
theorem tp_game {Y : xg_Y} {h : xg_H} {nm : Nat → Nat} {p : Nat → Nat → Int32} {pk : Nat → Nat → Nat → Int32} {sv : Nat → Bool} {b : Nat → Nat} {Q : xg_H → Prop} {k n : Nat} {z t pr : Nat → Nat} {x1 : Int32} (C : CW Y h nm p pk sv b) (cn : xt_cnt p) (hx : okN p 0 x1 k) (S : SR p k n z t pr) (q : ∀ h2, CW Y h2 nm p pk sv b → GM Y h2 nm n z t → Q h2) : wp_X4_begin Y Q (nm 35) (some (nm (111 + (2 * 0 + k)))) h := by
  obtain ⟨o6, k35, s4⟩ := C.2.1.2.2.2.2.2.2.2.1
  refine sp_X4_begin C.1 k35 s4 ((C.co cn).xs hx.2.1 S) S.sh (fun h2 e2 G2 => q h2 (CW_xs C e2 (fun c hc => by rw [List.mem_singleton.mp hc]; decide) (ST_xd C.2.2.2.2.1 e2 (by decide) (by decide))) G2)
theorem tp_wheelA {MC MS : Nat} {Y : xg_Y} {h : xg_H} {nm : Nat → Nat} {p : Nat → Nat → Int32} {pk : Nat → Nat → Nat → Int32} {sv : Nat → Bool} {b : Nat → Nat} {Q : Int32 → xg_Y → xg_H → Prop} {k n : Nat} {z t pr : Nat → Nat} {x1 : Int32} (C : CW Y h nm p pk sv b) (cn : xt_cnt p) (hx : okN p 0 x1 k) (S : SR p k n z t pr) (hMC : 40 * dB b k n ≤ MC) (hMS : 120000 * dB b k n ≤ MS) (q : ∀ nm' Y' h' v, CW Y' h' nm' p pk sv (upB b k (mB b k n)) → nm' 0 = nm 0 → WHL n z t (nI 0) v → Q v Y' h') : wp_X11_wheel MC MS Y Q (nm 0) x1 (nI 0) h := by
  unfold wp_X11_wheel
  refine ⟨C.2.1.1, nm 100, C.2.1.2.1, C.2.2.1.1.1, m00, sp_findV (s := 0) (C.co cn) (by decide) hx ⟨fun c => (by cases c), fun a _ => ⟨fun c => absurd rfl c, fun _ => ?_⟩⟩⟩
  refine tp_bk C cn hx S hMC hMS (fun nm' Y' h' g C' eg hg J e0 ee => ⟨nm' (500 + 100 * k), rfl, J.1.1, ⟨by omega, by omega⟩, sp_X1_allAtOnce J (fun v hv => ⟨⟨by omega, by omega⟩, q nm' Y' h' v C' e0 ⟨fun _ => hv, fun c => absurd c (by decide), fun c => absurd c (by decide), fun c => absurd c (by decide)⟩⟩)⟩)
theorem tp_wheelB {MC MS : Nat} {Y : xg_Y} {h : xg_H} {nm : Nat → Nat} {p : Nat → Nat → Int32} {pk : Nat → Nat → Nat → Int32} {sv : Nat → Bool} {b : Nat → Nat} {Q : Int32 → xg_Y → xg_H → Prop} {k n : Nat} {z t pr : Nat → Nat} {x1 : Int32} {w : Nat} (C : CW Y h nm p pk sv b) (cn : xt_cnt p) (hx : okN p 0 x1 k) (S : SR p k n z t pr) (h1 : 1 ≤ w) (h3 : w ≤ 3) (q : ∀ h' v, CW Y h' nm p pk sv b → WHL n z t (nI w) v → Q v Y h') : wp_X11_wheel MC MS Y Q (nm 0) x1 (nI w) h := by
  unfold wp_X11_wheel
  refine ⟨C.2.1.1, nm 100, C.2.1.2.1, C.2.2.1.1.1, m00, sp_findV (s := 0) (C.co cn) (by decide) hx ⟨fun c => (by cases c), fun a _ => ⟨fun _ => ?_, fun c => ?_⟩⟩⟩
  · obtain ⟨o6, k35, s4⟩ := C.2.1.2.2.2.2.2.2.2.1
    refine ⟨nm 35, o6, k35, m00, tp_game C cn hx S (fun h2 C2 G2 => ?_)⟩
    obtain ⟨p6, j35, _⟩ := C2.2.1.2.2.2.2.2.2.2.1
    refine ⟨nm 35, p6, j35, m00, sp_X4_goRound C2.1 G2 C2.2.2.2.2.1 (fun h3 e3 G3 S3 W => ?_)⟩
    have C3 := CW_xs C2 e3 (fun c hc => by simp at hc; omega) S3
    obtain ⟨r6, i35, _⟩ := C3.2.1.2.2.2.2.2.2.2.1
    rcases (show w = 1 ∨ w = 2 ∨ w = 3 by omega) with e | e | e <;> rw [e] at q ⊢
    · exact ⟨fun _ => ⟨nm 35, r6, i35, m00, q h3 _ C3 ⟨fun c => absurd c (by decide), fun _ => ⟨_, _, W⟩, fun c => absurd c (by decide), fun c => absurd c (by decide)⟩⟩, fun c => absurd c (by decide), fun c => absurd c (by decide), fun c => absurd rfl c⟩
    · exact ⟨fun c => absurd c (by decide), fun _ => ⟨nm 35, r6, i35, m00, q h3 _ C3 ⟨fun c => absurd c (by decide), fun c => absurd c (by decide), fun _ => ⟨_, _, W⟩, fun c => absurd c (by decide)⟩⟩, fun c => absurd c (by decide), fun _ c => absurd rfl c⟩
    · exact ⟨fun c => absurd c (by decide), fun c => absurd c (by decide), fun _ => ⟨nm 35, r6, i35, m00, q h3 _ C3 ⟨fun c => absurd c (by decide), fun c => absurd c (by decide), fun c => absurd c (by decide), fun _ => ⟨_, _, W⟩⟩⟩, fun _ _ c => absurd rfl c⟩
  · have : w = 0 := (nI_eq (by omega) (by decide)).mp (show nI w = nI 0 from c)
    omega
theorem tp_wheel0 {MC MS : Nat} {Y : xg_Y} {h : xg_H} {nm : Nat → Nat} {p : Nat → Nat → Int32} {pk : Nat → Nat → Nat → Int32} {sv : Nat → Bool} {b : Nat → Nat} {Q : Int32 → xg_Y → xg_H → Prop} {x1 x2 : Int32} (C : CW Y h nm p pk sv b) (cn : xt_cnt p) (hS : ∀ k, okN p 0 x1 k → ∃ n z t pr, SR p k n z t pr) (hb : noN p 0 x1 ∨ ¬ (0 ≤ x2 ∧ x2 ≤ 3)) (q : ∀ h', CW Y h' nm p pk sv b → Q (-2) Y h') : wp_X11_wheel MC MS Y Q (nm 0) x1 x2 h := by
  unfold wp_X11_wheel
  refine ⟨C.2.1.1, nm 100, C.2.1.2.1, C.2.2.1.1.1, m00, sp_find2 (s := 0) (C.co cn) (by decide) (fun k hx => ⟨fun c => (by cases c), fun a _ => ?_⟩) (fun _ => ⟨fun _ => ⟨m00, q h C⟩, fun a c => (by cases c)⟩)⟩
  have hb := hb.elim (fun c => absurd c (okno hx)) id
  obtain ⟨n, z, t, pr, S⟩ := hS k hx
  refine ⟨fun _ => ?_, fun c => absurd (by rw [c]; decide) hb⟩
  obtain ⟨o6, k35, s4⟩ := C.2.1.2.2.2.2.2.2.2.1
  refine ⟨nm 35, o6, k35, m00, tp_game C cn hx S (fun h2 C2 G2 => ?_)⟩
  obtain ⟨p6, j35, _⟩ := C2.2.1.2.2.2.2.2.2.2.1
  refine ⟨nm 35, p6, j35, m00, sp_X4_goRound C2.1 G2 C2.2.2.2.2.1 (fun h3 e3 G3 S3 W => ?_)⟩
  have C3 := CW_xs C2 e3 (fun c hc => by simp at hc; omega) S3
  exact ⟨fun c => absurd (by rw [c]; decide) hb, fun c => absurd (by rw [c]; decide) hb, fun c => absurd (by rw [c]; decide) hb, fun _ _ _ => ⟨m00, q h3 C3⟩⟩
/-! tell -/
theorem pt_1 {z : Nat → Nat} {m : Nat} : ∀ {k a t b w}, pt z m (fun _ => 1) k a t b w → w = k
  | 0, a, t, b, w, h => h.2.2
  | k + 1, a, t, b, w, h => by
    obtain ⟨s, t', w', h1, h3, _, e, h4⟩ := h
    have e1 := pt_1 h4
    have e : w = 1 + w' := e
    omega
theorem PK_1 {z : Nat → Nat} {m c0 T w : Nat} : (∃ b, PK z m c0 w T b) ↔ TL z m c0 (fun _ => 1) T w := by
  constructor
  · rintro ⟨b, w', hp⟩
    obtain ⟨w2, h2⟩ := pt_any (wu := fun _ => 1) hp
    rw [pt_1 h2] at h2
    exact ⟨w, b, h2⟩
  · rintro ⟨k, b, hp⟩
    rw [pt_1 hp]
    obtain ⟨w2, h2⟩ := pt_any (wu := fun _ => 0) hp
    exact ⟨b, w2, h2⟩
theorem lst_G {z : Nat → Nat} {m c0 T x : Nat} {wt : Nat → Nat} (hex : ∃ b, rc z m c0 T b) (L : lsG (TL z m c0 wt T) x) : lst (TL z m c0 wt T) (nI x) := by
  obtain ⟨b, hr⟩ := hex
  obtain ⟨k, w, hp⟩ := rc_to (wt := wt) hr
  obtain ⟨_, l1, l2⟩ := lsG_lsN L ⟨w, k, b, hp⟩
  exact Or.inr ⟨x, rfl, l1, l2⟩
theorem TL_rx {z : Nat → Nat} {m c0 T w : Nat} {wt : Nat → Nat} (h : TL z m c0 wt T w) : ∃ b, rc z m c0 T b := by
  obtain ⟨k, b, hp⟩ := h
  exact ⟨b, rc_of hp⟩
theorem nI_ne {a b : Nat} (ha : a < 2 ^ 31) (hb : b < 2 ^ 31) (h : a ≠ b) : ¬ nI a = nI b := fun e => h ((nI_eq ha hb).mp e)
set_option maxHeartbeats 1000000 in
theorem tp_tellV {MC MS : Nat} {Y : xg_Y} {h : xg_H} {nm : Nat → Nat} {p : Nat → Nat → Int32} {pk : Nat → Nat → Nat → Int32} {sv : Nat → Bool} {b : Nat → Nat} {Q : Int32 → xg_Y → xg_H → Prop} {k n : Nat} {z t pr : Nat → Nat} {x1 : Int32} {T : Nat} {x3 : Int32} (C : CW Y h nm p pk sv b) (cn : xt_cnt p) (hx : okN p 0 x1 k) (S : SR p k n z t pr) (h1 : 1 ≤ T) (h30 : T ≤ 30) (hMC : 40 * dB b k n ≤ MC) (hMS : 120000 * dB b k n ≤ MS) (q : ∀ nm' Y' h' v, CW Y' h' nm' p pk sv (upB b k (mB b k n)) → nm' 0 = nm 0 → TE n z t pr T x3 v → Q v Y' h') : wp_X11_tell MC MS Y Q (nm 0) x1 (nI T) x3 h := by
  have hn4 := S.1
  unfold wp_X11_tell
  refine ⟨C.2.1.1, nm 100, C.2.1.2.1, C.2.2.1.1.1, m00, sp_findV (s := 0) (C.co cn) (by decide) hx ⟨fun c => (by cases c), fun a _ => ⟨m00, ?_⟩⟩⟩
  refine sp_X11_isT (fun _ _ _ _ => ⟨fun _ => ?_, fun c => absurd c (by decide)⟩) (fun no => absurd (tOk h1 h30) no)
  refine tp_bk C cn hx S hMC hMS (fun nm' Y' h' g C' eg hg J e0 ee => ⟨nm' (500 + 100 * k), rfl, J.1.1, ⟨by omega, by omega⟩, sp_X1_told J (fun v hv => ⟨⟨by omega, by omega⟩, ?_⟩)⟩)
  obtain ⟨Bv, eB, hB⟩ := hv
  have X' := (C'.co cn).xs hx.2.1 S
  rw [eB, ← ee _ (ptx hx.2.1)]
  refine sp_X11_has hB.1 (by omega) (fun hb => ⟨fun _ => ?_, fun c => absurd c (by decide)⟩) (fun hb => ⟨fun c => absurd rfl c, fun _ => ⟨⟨by omega, by omega⟩, q nm' Y' h' (-1) C' e0 ?_⟩⟩)
  · have hex : ∃ b, rc z (2 ^ n - 1) (c4 t) T b := ((hB.2 T).mp hb).2
    refine ⟨fun e => ⟨⟨by omega, by omega⟩, sp_X1_fewestTurns C'.1 J h1 h30 (fun h'' x J' f _ L => ⟨⟨by omega, by omega⟩, q nm' Y' h'' _ (tp_bf C' hx eg hg f J') e0 ?_⟩)⟩, fun e => ⟨⟨by omega, by omega⟩, sp_X1_fewestEvents J h1 h30 (fun v L => ⟨⟨by omega, by omega⟩, q nm' Y' h' _ C' e0 ?_⟩)⟩, fun e => ⟨⟨by omega, by omega⟩, sp_X1_leastPrice C'.1 J X' h1 h30 (fun h'' x J' f _ L => ⟨⟨by omega, by omega⟩, q nm' Y' h'' _ (tp_bf C' hx eg hg f J') e0 ?_⟩)⟩, fun n0 n1 n2 => ⟨⟨by omega, by omega⟩, ?_⟩⟩
    · have e : x3 = nI 0 := e
      rw [e]
      exact ⟨fun _ => lst_G hex L, fun c => absurd c (by decide), fun c => absurd c (by decide), fun g _ c => absurd c (nI_ne (by decide) (by omega) (by omega)), fun c => absurd rfl c.1⟩
    · have e : x3 = nI 1 := e
      rw [e]
      exact ⟨fun c => absurd c (by decide), fun _ => lst_congr L (fun m => PK_1), fun c => absurd c (by decide), fun g _ c => absurd c (nI_ne (by decide) (by omega) (by omega)), fun c => absurd rfl c.2.1⟩
    · have e : x3 = nI 2 := e
      rw [e]
      exact ⟨fun c => absurd c (by decide), fun c => absurd c (by decide), fun _ => lst_G hex L, fun g _ c => absurd c (nI_ne (by decide) (by omega) (by omega)), fun c => absurd rfl c.2.2.1⟩
    · refine sp_X11_isGlass (b := 3) X'.1 X'.2.2.2.2.1 (by omega) (by decide) (fun v ev b1 b2 => ⟨fun c => absurd c (by decide), fun _ => ⟨⟨by omega, by omega⟩, ?_⟩⟩) (fun no => ⟨fun _ => ⟨⟨by omega, by omega⟩, ?_⟩, fun c => absurd rfl c⟩)
      · rw [ev, nl_3, pk_sub b1]
        refine sp_X1_usedInRow C'.1 J h1 h30 (by omega) hex (fun h'' Ln rs rm J' f RW => ⟨⟨by omega, by omega⟩, q nm' Y' h'' _ (tp_bf C' hx eg hg f J') e0 ?_⟩)
        rw [ev]
        refine ⟨fun c => absurd c (nI_ne (by omega) (by decide) (by omega)), fun c => absurd c (nI_ne (by omega) (by decide) (by omega)), fun c => absurd c (nI_ne (by omega) (by decide) (by omega)), fun g hg' c => ?_, fun c => absurd (show nI v = nI (3 + (v - 3)) by rw [show 3 + (v - 3) = v by omega]) (c.2.2.2 (v - 3) (by omega))⟩
        have e3 := (nI_eq (a := v) (b := 3 + g) (by omega) (by omega)).mp c
        rw [show v - 3 = g by omega]
        exact Or.inr ⟨hex, Ln, rs, rm, RW, rfl⟩
      · refine sp_X1_rowAt C'.1 J h1 h30 hex (fun h'' Ln rs rm v J' f hLn RW RA => ⟨⟨by omega, by omega⟩, q nm' Y' h'' _ (tp_bf C' hx eg hg f J') e0 ?_⟩)
        refine ⟨fun c => absurd c n0, fun c => absurd c n1, fun c => absurd c n2, fun g hg' c => absurd ⟨by omega, by omega⟩ (no (3 + g) c (by omega)), fun _ => ?_⟩
        by_cases iw : inw x3
        · exact Or.inr ⟨hex, iw, Ln, rs, rm, RW, RA⟩
        · refine Or.inl ⟨Or.inr iw, ?_⟩
          rcases RA with ⟨j, hj, a1, a2⟩ | ⟨j, hj, a1, a2⟩ | ⟨a1, a2⟩
          · exact absurd ⟨j, by omega, Or.inl a1⟩ iw
          · exact absurd ⟨j, by omega, Or.inr a1⟩ iw
          · exact a2
  · have hno : ¬ ∃ b, rc z (2 ^ n - 1) (c4 t) T b := fun hex => by
      have := (hB.2 T).mpr ⟨⟨h1, h30⟩, hex⟩
      rw [hb] at this; cases this
    exact ⟨fun _ => Or.inl ⟨rfl, fun m hm => hno (TL_rx hm)⟩, fun _ => Or.inl ⟨rfl, fun m hm => hno (TL_rx hm)⟩, fun _ => Or.inl ⟨rfl, fun m hm => hno (TL_rx hm)⟩, fun g _ _ => Or.inl ⟨hno, rfl⟩, fun _ => Or.inl ⟨Or.inl hno, rfl⟩⟩
theorem tp_tell0 {MC MS : Nat} {Y : xg_Y} {h : xg_H} {nm : Nat → Nat} {p : Nat → Nat → Int32} {pk : Nat → Nat → Nat → Int32} {sv : Nat → Bool} {b : Nat → Nat} {Q : Int32 → xg_Y → xg_H → Prop} {x1 x2 x3 : Int32} (C : CW Y h nm p pk sv b) (cn : xt_cnt p) (hb : noN p 0 x1 ∨ ¬ (1 ≤ x2 ∧ x2 ≤ 30)) (q : Q (-1) Y h) : wp_X11_tell MC MS Y Q (nm 0) x1 x2 x3 h := by
  unfold wp_X11_tell
  refine ⟨C.2.1.1, nm 100, C.2.1.2.1, C.2.2.1.1.1, m00, sp_find2 (s := 0) (C.co cn) (by decide) (fun k hx => ⟨fun c => (by cases c), fun a _ => ⟨m00, ?_⟩⟩) (fun _ => ⟨fun _ => ⟨m00, q⟩, fun a c => (by cases c)⟩)⟩
  exact sp_X11_isT (fun T eT a b => absurd (by rw [eT]; exact tOk a b) (hb.elim (fun c => absurd c (okno hx)) id)) (fun _ => ⟨fun c => absurd rfl c, fun _ => ⟨m00, q⟩⟩)
