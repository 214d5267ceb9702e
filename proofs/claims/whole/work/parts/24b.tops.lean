/-! the class's answers over a book -/
def mB (b : Nat → Nat) (k n : Nat) : Nat := max (b k) (n + 1)
def dB (b : Nat → Nat) (k n : Nat) : Nat := mB b k n - b k
theorem m00 {MC MS : Nat} : 0 ≤ MC ∧ 0 ≤ MS := ⟨Nat.zero_le _, Nat.zero_le _⟩
theorem tOk {T : Nat} (h1 : 1 ≤ T) (h30 : T ≤ 30) : 1 ≤ nI T ∧ nI T ≤ 30 := ⟨nI_le (a := 1) h1 (by omega), nI_le (b := 30) h30 (by decide)⟩
theorem rOk {T N : Nat} (h30 : T ≤ N) (hN : N < 2 ^ 31) : 0 ≤ nI T ∧ nI T ≤ nI N := ⟨nI_le (a := 0) (Nat.zero_le T) (by omega), nI_le h30 hN⟩
theorem okno {p : Nat → Nat → Int32} {s k : Nat} {x : Int32} (hx : okN p s x k) : ¬ noN p s x := fun hn => hn (by rw [hx.1]; exact hx.2.2)
theorem tp_bk {MC MS : Nat} {Y : xg_Y} {h : xg_H} {nm : Nat → Nat} {p : Nat → Nat → Int32} {pk : Nat → Nat → Nat → Int32} {sv : Nat → Bool} {b : Nat → Nat} {B : Nat → Nat → Option Nat → xg_Y → xg_H → Prop} {k n : Nat} {z t pr : Nat → Nat} {x1 : Int32} (C : CW Y h nm p pk sv b) (cn : xt_cnt p) (hx : okN p 0 x1 k) (S : SR p k n z t pr) (hMC : 40 * dB b k n ≤ MC) (hMS : 120000 * dB b k n ≤ MS) (q : ∀ nm' Y' h' g, CW Y' h' nm' p pk sv (upB b k (mB b k n)) → g + 1 = mB b k n → n ≤ g → BJ Y' h' nm' (500 + 100 * k) (rwn g) (rwn (g - 1)) n z t → nm' 0 = nm 0 → (∀ d, PV0 d → nm' d = nm d) → B (40 * dB b k n) (120000 * dB b k n) (some (nm' (500 + 100 * k))) Y' h') : ∃ mc ms : Nat, (0 + mc ≤ MC ∧ 0 + ms ≤ MS) ∧ wp_X11_bookOf mc ms Y (B mc ms) (nm 0) x1 (some (nm (111 + (2 * 0 + k)))) h := by
  refine ⟨40 * dB b k n, 120000 * dB b k n, ⟨by omega, by omega⟩, ?_⟩
  refine sp_bookOf C cn hx.2.1 hx.1 S (Nat.le_refl _) (Nat.le_refl _) (fun nm' Y' h' g C' eg hg J ee => ?_)
  rw [eg] at C'
  exact q nm' Y' h' g C' eg hg J (ee 0 (Or.inl rfl)) ee
theorem tp_bf {Y : xg_Y} {h h2 : xg_H} {nm : Nat → Nat} {p : Nat → Nat → Int32} {pk : Nat → Nat → Nat → Int32} {sv : Nat → Bool} {b : Nat → Nat} {k n g : Nat} {z t : Nat → Nat} {x1 : Int32} (C : CW Y h nm p pk sv (upB b k (mB b k n))) (hx : okN p 0 x1 k) (eg : g + 1 = mB b k n) (hg : n ≤ g) (f : bf nm (500 + 100 * k) h h2) (J : BJ Y h2 nm (500 + 100 * k) (rwn g) (rwn (g - 1)) n z t) : CW Y h2 nm p pk sv (upB b k (mB b k n)) := CW_bf C hx.2.1 (upB_at.trans eg.symm) hg f J
theorem ptx {k : Nat} (hk : k < 2) : PV0 (111 + (2 * 0 + k)) := Or.inr (Or.inr (Or.inr (Or.inr (Or.inr (Or.inr (Or.inr (Or.inr (Or.inr (Or.inr ⟨k, by omega, Or.inl (by omega)⟩)))))))))
/-! span, need, crowd, early, luck, plan -/
theorem tp_spanV {MC MS : Nat} {Y : xg_Y} {h : xg_H} {nm : Nat → Nat} {p : Nat → Nat → Int32} {pk : Nat → Nat → Nat → Int32} {sv : Nat → Bool} {b : Nat → Nat} {Q : Int32 → xg_Y → xg_H → Prop} {k n : Nat} {z t pr : Nat → Nat} {x1 : Int32} {T : Nat} (C : CW Y h nm p pk sv b) (cn : xt_cnt p) (hx : okN p 0 x1 k) (S : SR p k n z t pr) (h1 : 1 ≤ T) (h30 : T ≤ 30) (hMC : 40 * dB b k n ≤ MC) (hMS : 120000 * dB b k n ≤ MS) (q : ∀ nm' Y' h' v, CW Y' h' nm' p pk sv (upB b k (mB b k n)) → nm' 0 = nm 0 → lst (fun w => w ≤ 30 ∧ SPN z (2 ^ n - 1) (c4 t) T w) v → Q v Y' h') : wp_X11_span MC MS Y Q (nm 0) x1 (nI T) h := by
  unfold wp_X11_span
  refine ⟨C.2.1.1, nm 100, C.2.1.2.1, C.2.2.1.1.1, m00, sp_findV (s := 0) (C.co cn) (by decide) hx ⟨fun c => (by cases c), fun a _ => ⟨m00, ?_⟩⟩⟩
  refine sp_X11_isT (fun _ _ _ _ => ⟨fun _ => ?_, fun c => absurd c (by decide)⟩) (fun no => absurd (tOk h1 h30) no)
  refine tp_bk C cn hx S hMC hMS (fun nm' Y' h' g C' eg hg J e0 ee => ⟨nm' (500 + 100 * k), rfl, J.1.1, ⟨by omega, by omega⟩, ?_⟩)
  exact sp_X1_leastSpan C'.1 J h1 h30 (fun h'' v J' f L => ⟨⟨by omega, by omega⟩, q nm' Y' h'' v (tp_bf C' hx eg hg f J') e0 L⟩)
theorem tp_span0 {MC MS : Nat} {Y : xg_Y} {h : xg_H} {nm : Nat → Nat} {p : Nat → Nat → Int32} {pk : Nat → Nat → Nat → Int32} {sv : Nat → Bool} {b : Nat → Nat} {Q : Int32 → xg_Y → xg_H → Prop} {x1 x2 : Int32} (C : CW Y h nm p pk sv b) (cn : xt_cnt p) (hb : noN p 0 x1 ∨ ¬ (1 ≤ x2 ∧ x2 ≤ 30)) (q : Q (-1) Y h) : wp_X11_span MC MS Y Q (nm 0) x1 x2 h := by
  unfold wp_X11_span
  refine ⟨C.2.1.1, nm 100, C.2.1.2.1, C.2.2.1.1.1, m00, sp_find2 (s := 0) (C.co cn) (by decide) (fun k hx => ⟨fun c => (by cases c), fun a _ => ⟨m00, ?_⟩⟩) (fun _ => ⟨fun _ => ⟨m00, q⟩, fun a c => (by cases c)⟩)⟩
  exact sp_X11_isT (fun T eT a b => absurd (by rw [eT]; exact tOk a b) (hb.elim (fun c => absurd c (okno hx)) id)) (fun _ => ⟨fun c => absurd rfl c, fun _ => ⟨m00, q⟩⟩)
theorem tp_needV {MC MS : Nat} {Y : xg_Y} {h : xg_H} {nm : Nat → Nat} {p : Nat → Nat → Int32} {pk : Nat → Nat → Nat → Int32} {sv : Nat → Bool} {b : Nat → Nat} {Q : Int32 → xg_Y → xg_H → Prop} {k n : Nat} {z t pr : Nat → Nat} {x1 : Int32} {T : Nat} {x3 : Int32} (C : CW Y h nm p pk sv b) (cn : xt_cnt p) (hx : okN p 0 x1 k) (S : SR p k n z t pr) (h1 : 1 ≤ T) (h30 : T ≤ 30) (hMC : 40 * dB b k n ≤ MC) (hMS : 120000 * dB b k n ≤ MS) (q : ∀ nm' Y' h' v, CW Y' h' nm' p pk sv (upB b k (mB b k n)) → nm' 0 = nm 0 → ND n z t T (¬ x3 = 0) v → Q v Y' h') : wp_X11_need MC MS Y Q (nm 0) x1 (nI T) x3 h := by
  unfold wp_X11_need
  refine ⟨C.2.1.1, nm 100, C.2.1.2.1, C.2.2.1.1.1, m00, sp_findV (s := 0) (C.co cn) (by decide) hx ⟨fun c => (by cases c), fun a _ => ⟨m00, ?_⟩⟩⟩
  refine sp_X11_isT (fun _ _ _ _ => ⟨fun _ => ?_, fun c => absurd c (by decide)⟩) (fun no => absurd (tOk h1 h30) no)
  refine tp_bk C cn hx S hMC hMS (fun nm' Y' h' g C' eg hg J e0 ee => ⟨nm' (500 + 100 * k), rfl, J.1.1, ⟨by omega, by omega⟩, ?_⟩)
  have hn4 := S.1
  have hp := pow_n hn4
  refine sp_X1_fewestGlasses C'.1 J h1 h30 (fun h'' v J' f L => ?_)
  have C2 := tp_bf C' hx eg hg f J'
  rcases L with ⟨e, hno⟩ | ⟨s, e, hs, hT, hmin⟩
  · have eM : v = -1 := e
    exact ⟨fun c => absurd eM c, fun _ => ⟨⟨by omega, by omega⟩, q nm' Y' h'' (-1) C2 e0 ⟨nM, Or.inl ⟨rfl, hno⟩, Or.inl ⟨rfl, rfl⟩⟩⟩⟩
  · have hl := sb_le hs
    have hs16 : s < 16 := by omega
    have hNE : NE n z t T (nI s) := Or.inr ⟨s, rfl, hs, hT, hmin⟩
    rw [e]
    refine ⟨fun _ => ⟨fun c3 => ⟨⟨by omega, by omega⟩, sp_bitCount hs16 ⟨⟨by omega, by omega⟩, q nm' Y' h'' _ C2 e0 ⟨nI s, hNE, Or.inr ⟨s, rfl, hs16, fun c => absurd c3 c, fun _ => rfl⟩⟩⟩⟩, fun c3 => ⟨⟨by omega, by omega⟩, q nm' Y' h'' _ C2 e0 ⟨nI s, hNE, Or.inr ⟨s, rfl, hs16, fun _ => rfl, fun c => absurd c3 c⟩⟩⟩⟩, fun c => ?_⟩
    have : nI s = nM := c
    rw [nI_eqM (by omega)] at this
    exact this.elim
theorem tp_need0 {MC MS : Nat} {Y : xg_Y} {h : xg_H} {nm : Nat → Nat} {p : Nat → Nat → Int32} {pk : Nat → Nat → Nat → Int32} {sv : Nat → Bool} {b : Nat → Nat} {Q : Int32 → xg_Y → xg_H → Prop} {x1 x2 x3 : Int32} (C : CW Y h nm p pk sv b) (cn : xt_cnt p) (hb : noN p 0 x1 ∨ ¬ (1 ≤ x2 ∧ x2 ≤ 30)) (q : Q (-1) Y h) : wp_X11_need MC MS Y Q (nm 0) x1 x2 x3 h := by
  unfold wp_X11_need
  refine ⟨C.2.1.1, nm 100, C.2.1.2.1, C.2.2.1.1.1, m00, sp_find2 (s := 0) (C.co cn) (by decide) (fun k hx => ⟨fun c => (by cases c), fun a _ => ⟨m00, ?_⟩⟩) (fun _ => ⟨fun _ => ⟨m00, q⟩, fun a c => (by cases c)⟩)⟩
  exact sp_X11_isT (fun T eT a b => absurd (by rw [eT]; exact tOk a b) (hb.elim (fun c => absurd c (okno hx)) id)) (fun _ => ⟨fun c => absurd rfl c, fun _ => ⟨m00, q⟩⟩)
/-- the two tests of a range -/
theorem rng {A : Prop} {B : Prop} {lo hi x : Int32} (h : (lo ≤ x ∧ x ≤ hi) → A) (h0 : ¬ (lo ≤ x ∧ x ≤ hi) → B) : (((x < lo) → B) ∧ ((¬ x < lo) → (((x ≤ hi) → A) ∧ ((¬ x ≤ hi) → B)))) := ⟨fun c => h0 (fun d => absurd d.1 (Int32.not_le.mpr c)), fun c => ⟨fun d => h ⟨Int32.not_lt.mp c, d⟩, fun d => h0 (fun e => d e.2)⟩⟩
theorem tp_crowdV {MC MS : Nat} {Y : xg_Y} {h : xg_H} {nm : Nat → Nat} {p : Nat → Nat → Int32} {pk : Nat → Nat → Nat → Int32} {sv : Nat → Bool} {b : Nat → Nat} {Q : Int32 → xg_Y → xg_H → Prop} {k n : Nat} {z t pr : Nat → Nat} {x1 : Int32} {T : Nat} (C : CW Y h nm p pk sv b) (cn : xt_cnt p) (hx : okN p 0 x1 k) (S : SR p k n z t pr) (h30 : T ≤ 30) (hMC : 40 * dB b k n ≤ MC) (hMS : 120000 * dB b k n ≤ MS) (q : ∀ nm' Y' h', CW Y' h' nm' p pk sv (upB b k (mB b k n)) → nm' 0 = nm 0 → Q (nI (cntc (fun c => rc z (2 ^ n - 1) (c4 t) T c))) Y' h') : wp_X11_crowd MC MS Y Q (nm 0) x1 (nI T) h := by
  unfold wp_X11_crowd
  refine ⟨C.2.1.1, nm 100, C.2.1.2.1, C.2.2.1.1.1, m00, sp_findV (s := 0) (C.co cn) (by decide) hx ⟨fun c => (by cases c), fun a _ => rng (fun _ => ?_) (fun no => absurd (rOk h30 (by decide)) no)⟩⟩
  refine tp_bk C cn hx S hMC hMS (fun nm' Y' h' g C' eg hg J e0 ee => ⟨nm' (500 + 100 * k), rfl, J.1.1, ⟨by omega, by omega⟩, ?_⟩)
  refine sp_X1_rowsWithin (pb := fun i => i = T) J (by rw [bit_I (by omega)]; exact isB_bit (by omega)) ⟨⟨by omega, by omega⟩, ?_⟩
  rw [cntc_congr (P' := fun c => rc z (2 ^ n - 1) (c4 t) T c) (fun c _ => ⟨fun ⟨T', _, e, r⟩ => by rw [e] at r; exact r, fun r => ⟨T, h30, rfl, r⟩⟩)]
  exact q nm' Y' h' C' e0
theorem tp_crowd0 {MC MS : Nat} {Y : xg_Y} {h : xg_H} {nm : Nat → Nat} {p : Nat → Nat → Int32} {pk : Nat → Nat → Nat → Int32} {sv : Nat → Bool} {b : Nat → Nat} {Q : Int32 → xg_Y → xg_H → Prop} {x1 x2 : Int32} (C : CW Y h nm p pk sv b) (cn : xt_cnt p) (hb : noN p 0 x1 ∨ ¬ (0 ≤ x2 ∧ x2 ≤ 30)) (q : Q (-1) Y h) : wp_X11_crowd MC MS Y Q (nm 0) x1 x2 h := by
  unfold wp_X11_crowd
  exact ⟨C.2.1.1, nm 100, C.2.1.2.1, C.2.2.1.1.1, m00, sp_find2 (s := 0) (C.co cn) (by decide) (fun k hx => ⟨fun c => (by cases c), fun a _ => rng (fun r => absurd r (hb.elim (fun c => absurd c (okno hx)) id)) (fun _ => ⟨m00, q⟩)⟩) (fun _ => ⟨fun _ => ⟨m00, q⟩, fun a c => (by cases c)⟩)⟩
theorem tp_earlyV {MC MS : Nat} {Y : xg_Y} {h : xg_H} {nm : Nat → Nat} {p : Nat → Nat → Int32} {pk : Nat → Nat → Nat → Int32} {sv : Nat → Bool} {b : Nat → Nat} {Q : Int32 → xg_Y → xg_H → Prop} {k n : Nat} {z t pr : Nat → Nat} {x1 : Int32} {K : Nat} {x3 : Int32} (C : CW Y h nm p pk sv b) (cn : xt_cnt p) (hx : okN p 0 x1 k) (S : SR p k n z t pr) (hK : K ≤ 20) (hMC : 40 * dB b k n ≤ MC) (hMS : 120000 * dB b k n ≤ MS) (q : ∀ nm' Y' h' v, CW Y' h' nm' p pk sv (upB b k (mB b k n)) → nm' 0 = nm 0 → (x3 = 0 → lst (fun T => T ≤ 30 ∧ ∃ b, PK z (2 ^ n - 1) (c4 t) K T b) v) → (¬ x3 = 0 → gst (fun T => T ≤ 30 ∧ ∃ b, PK z (2 ^ n - 1) (c4 t) K T b) v) → Q v Y' h') : wp_X11_early MC MS Y Q (nm 0) x1 (nI K) x3 h := by
  unfold wp_X11_early
  refine ⟨C.2.1.1, nm 100, C.2.1.2.1, C.2.2.1.1.1, m00, sp_findV (s := 0) (C.co cn) (by decide) hx ⟨fun c => (by cases c), fun a _ => rng (fun _ => ?_) (fun no => absurd (rOk hK (by decide)) no)⟩⟩
  refine tp_bk C cn hx S hMC hMS (fun nm' Y' h' g C' eg hg J e0 ee => ⟨nm' (500 + 100 * k), rfl, J.1.1, ⟨by omega, by omega⟩, ?_⟩)
  refine sp_X1_minutesOfEvent J (by omega) (fun v hv => ⟨fun c3 => ⟨⟨by omega, by omega⟩, sp_X11_lowest hv (fun r hr => ⟨⟨by omega, by omega⟩, q nm' Y' h' r C' e0 (fun _ => lst_congr hr (fun m => ⟨fun a => a.2, fun a => ⟨a.1, a⟩⟩)) (fun c => absurd c3 c)⟩)⟩, fun c3 => ⟨⟨by omega, by omega⟩, sp_X11_highest hv (fun r hr => ⟨⟨by omega, by omega⟩, q nm' Y' h' r C' e0 (fun c => absurd c c3) (fun _ => ?_)⟩)⟩⟩)
  exact hr.imp (fun a => ⟨a.1, fun m hm => a.2 m ⟨hm.1, hm⟩⟩) (fun ⟨m, a1, a2, a3⟩ => ⟨m, a1, a2.2, fun j hj => a3 j ⟨hj.1, hj⟩⟩)
theorem tp_early0 {MC MS : Nat} {Y : xg_Y} {h : xg_H} {nm : Nat → Nat} {p : Nat → Nat → Int32} {pk : Nat → Nat → Nat → Int32} {sv : Nat → Bool} {b : Nat → Nat} {Q : Int32 → xg_Y → xg_H → Prop} {x1 x2 x3 : Int32} (C : CW Y h nm p pk sv b) (cn : xt_cnt p) (hb : noN p 0 x1 ∨ ¬ (0 ≤ x2 ∧ x2 ≤ 20)) (q : Q (-1) Y h) : wp_X11_early MC MS Y Q (nm 0) x1 x2 x3 h := by
  unfold wp_X11_early
  exact ⟨C.2.1.1, nm 100, C.2.1.2.1, C.2.2.1.1.1, m00, sp_find2 (s := 0) (C.co cn) (by decide) (fun k hx => ⟨fun c => (by cases c), fun a _ => rng (fun r => absurd r (hb.elim (fun c => absurd c (okno hx)) id)) (fun _ => ⟨m00, q⟩)⟩) (fun _ => ⟨fun _ => ⟨m00, q⟩, fun a c => (by cases c)⟩)⟩
theorem tp_planV {MC MS : Nat} {Y : xg_Y} {h : xg_H} {nm : Nat → Nat} {p : Nat → Nat → Int32} {pk : Nat → Nat → Nat → Int32} {sv : Nat → Bool} {b : Nat → Nat} {Q : Int32 → xg_Y → xg_H → Prop} {k n : Nat} {z t pr : Nat → Nat} {x1 : Int32} {o no K : Nat} {x2 : Int32} {sp : Nat → Nat} (C : CW Y h nm p pk sv b) (cn : xt_cnt p) (hx : okN p 0 x1 k) (S : SR p k n z t pr) (hy : okN p 3 x2 o) (O : OR p o no sp) (hK : K ≤ no) (hMC : 40 * dB b k n ≤ MC) (hMS : 120000 * dB b k n ≤ MS) (q : ∀ nm' Y' h' v, CW Y' h' nm' p pk sv (upB b k (mB b k n)) → nm' 0 = nm 0 → lst (fun w => w ≤ 90 ∧ DN z (2 ^ n - 1) sp K K (c4 t) w) v → Q v Y' h') : wp_X11_plan MC MS Y Q (nm 0) x1 x2 (nI K) h := by
  have hno := O.1
  have XOo := (C.co cn).xo hy.2.1 O
  unfold wp_X11_plan
  refine ⟨C.2.1.1, nm 100, C.2.1.2.1, C.2.2.1.1.1, m00, sp_findV (s := 0) (C.co cn) (by decide) hx ⟨nm 100, C.2.1.2.1, C.2.2.1.1.1, m00, sp_findV (s := 3) (C.co cn) (by decide) hy ⟨fun c => (by cases c), fun a _ => ⟨fun c => (by cases c), fun a8 e8 => ?_⟩⟩⟩⟩
  have e8 : nm (111 + (2 * 3 + o)) = a8 := Option.some.inj e8
  rw [← e8, XOo.2.2.1]
  refine bq_f (nI_pos (by omega)) ⟨XOo.1, bq_t (nI_le hK (by omega)) ?_⟩
  have po : PV0 (111 + (2 * 3 + o)) := Or.inr (Or.inr (Or.inr (Or.inr (Or.inr (Or.inr (Or.inr (Or.inr (Or.inr (Or.inr ⟨6 + o, by have := hy.2.1; omega, Or.inl (by omega)⟩)))))))))
  refine tp_bk C cn hx S hMC hMS (fun nm' Y' h' g C' eg hg J e0 ee => ⟨nm' (500 + 100 * k), rfl, J.1.1, ⟨by omega, by omega⟩, ?_⟩)
  have XO' := (C'.co cn).xo hy.2.1 O
  rw [← ee _ po]
  exact sp_X1_leastDone C'.1 J XO' hK (fun h'' v J' f L => ⟨⟨by omega, by omega⟩, q nm' Y' h'' v (tp_bf C' hx eg hg f J') e0 L⟩)
theorem tp_plan0 {MC MS : Nat} {Y : xg_Y} {h : xg_H} {nm : Nat → Nat} {p : Nat → Nat → Int32} {pk : Nat → Nat → Nat → Int32} {sv : Nat → Bool} {b : Nat → Nat} {Q : Int32 → xg_Y → xg_H → Prop} {x1 x2 x3 : Int32} (C : CW Y h nm p pk sv b) (cn : xt_cnt p) (hb : noN p 0 x1 ∨ noN p 3 x2 ∨ ∃ o no sp, okN p 3 x2 o ∧ OR p o no sp ∧ ¬ (0 ≤ x3 ∧ x3 ≤ nI no)) (q : Q (-1) Y h) : wp_X11_plan MC MS Y Q (nm 0) x1 x2 x3 h := by
  have CC := C.co cn
  unfold wp_X11_plan
  refine ⟨C.2.1.1, nm 100, C.2.1.2.1, C.2.2.1.1.1, m00, sp_find2 (s := 0) CC (by decide) (fun k hx => ?_) (fun _ => ⟨nm 100, C.2.1.2.1, C.2.2.1.1.1, m00, sp_find2 (s := 3) CC (by decide) (fun _ _ => ⟨fun _ => ⟨m00, q⟩, fun a c => (by cases c)⟩) (fun _ => ⟨fun _ => ⟨m00, q⟩, fun a c => (by cases c)⟩)⟩)⟩
  refine ⟨nm 100, C.2.1.2.1, C.2.2.1.1.1, m00, sp_find2 (s := 3) CC (by decide) (fun o' ho' => ?_) (fun _ => ⟨fun c => (by cases c), fun a _ => ⟨fun _ => ⟨m00, q⟩, fun a c => (by cases c)⟩⟩)⟩
  rcases hb with hb | hb | ⟨o, no, sp, ho, O, hb⟩
  · exact absurd hb (okno hx)
  · exact absurd hb (okno ho')
  · have eo : o' = o := (nI_eq (by have := ho'.2.1; omega) (by have := ho.2.1; omega)).mp (ho'.1.symm.trans ho.1)
    have XOo := CC.xo ho.2.1 O
    rw [eo]
    refine ⟨fun c => (by cases c), fun a _ => ⟨fun c => (by cases c), fun a8 e8 => ?_⟩⟩
    have e8 : nm (111 + (2 * 3 + o)) = a8 := Option.some.inj e8
    rw [← e8, XOo.2.2.1]
    exact ⟨fun _ => ⟨m00, q⟩, fun c => ⟨XOo.1, fun d => absurd ⟨Int32.not_lt.mp c, d⟩ hb, fun _ => ⟨m00, q⟩⟩⟩
