/-! the class's answers over a book: purse, couples, times -/
set_option maxHeartbeats 1000000 in
theorem tp_purseV {MC MS : Nat} {Y : xg_Y} {h : xg_H} {nm : Nat → Nat} {p : Nat → Nat → Int32} {pk : Nat → Nat → Nat → Int32} {sv : Nat → Bool} {b : Nat → Nat} {Q : Int32 → xg_Y → xg_H → Prop} {k n : Nat} {z t pr : Nat → Nat} {x1 : Int32} {m : Nat} (C : CW Y h nm p pk sv b) (cn : xt_cnt p) (hx : okN p 0 x1 k) (S : SR p k n z t pr) (hm : m ≤ 99) (hMC : 40 * dB b k n ≤ MC) (hMS : 120000 * dB b k n ≤ MS) (q : ∀ nm' Y' h' v, CW Y' h' nm' p pk sv (upB b k (mB b k n)) → nm' 0 = nm 0 → isB v (PU n z t pr m) → Q v Y' h') : wp_X11_purse MC MS Y Q (nm 0) x1 (nI m) h := by
  unfold wp_X11_purse
  refine ⟨C.2.1.1, fun R40 R81 c40 c81 => ⟨nm 100, C.2.1.2.1, C.2.2.1.1.1, m00, sp_findV (s := 0) (C.co cn) (by decide) hx ⟨fun c => (by cases c), fun a _ => rng (fun _ => ?_) (fun no => absurd (rOk hm (by decide)) no)⟩⟩⟩
  refine tp_bk C cn hx S hMC hMS (fun nm' Y' h' g C' eg hg J e0 ee => ?_)
  show R40 (some (nm (111 + (2 * 0 + k)))) (some (nm' (500 + 100 * k))) (nI 0) (nI 1) (0 + 40 * dB b k n) (0 + 120000 * dB b k n) Y' h'
  rw [← ee _ (ptx hx.2.1)]
  refine lp (σ := Int32 × xg_H) (R := fun T s => R40 (some (nm' (111 + (2 * 0 + k)))) (some (nm' (500 + 100 * k))) s.1 (nI T) (0 + 40 * dB b k n) (0 + 120000 * dB b k n) Y' s.2) (fun T s => isB s.1 (fun i => i < T ∧ PU n z t pr m i) ∧ CW Y' s.2 nm' p pk sv (upB b k (mB b k n)) ∧ BJ Y' s.2 nm' (500 + 100 * k) (rwn g) (rwn (g - 1)) n z t) 1 31 (by decide) ?_ ?_ (nI 0, h') ⟨isB_0 (fun i hi => by have := hi.2.1.1; have := hi.1; omega), C', J⟩
  · rintro ⟨acc, s⟩ ⟨hB, C2, J2⟩
    exact c40 _ _ _ _ _ _ _ _ (bq_t (by decide) ⟨⟨by omega, by omega⟩, q nm' Y' s acc C2 e0 (hB.congr (fun i => ⟨fun a => a.2, fun a => ⟨by have := a.1.2; omega, a⟩⟩))⟩)
  · rintro T ⟨acc, s⟩ hT1 hT31 ⟨hB, C2, J2⟩ ih
    have X2 := (C2.co cn).xs hx.2.1 S
    have join : ∀ acc' s', isB acc' (fun i => i < T + 1 ∧ PU n z t pr m i) → CW Y' s' nm' p pk sv (upB b k (mB b k n)) → BJ Y' s' nm' (500 + 100 * k) (rwn g) (rwn (g - 1)) n z t → R81 (some (nm' (111 + (2 * 0 + k)))) (some (nm' (500 + 100 * k))) acc' (nI T) (0 + 40 * dB b k n) (0 + 120000 * dB b k n) Y' s' := fun acc' s' a1 a2 a3 => c81 _ _ _ _ _ _ _ _ (by
      rintro _ rfl
      rw [nI_1]
      exact ih (acc', s') ⟨a1, a2, a3⟩)
    have keep : ¬ PU n z t pr m T → isB acc (fun i => i < T + 1 ∧ PU n z t pr m i) := fun hno => hB.congr (fun i => ⟨fun a => ⟨by have := a.1; omega, a.2⟩, fun a => ⟨by
      rcases Nat.lt_or_ge i T with h9 | h9
      · exact h9
      · have : i = T := by have := a.1; omega
        rw [this] at a
        exact absurd a.2 hno, a.2⟩⟩)
    refine c40 _ _ _ _ _ _ _ _ (bq_f (nI_nlt (a := 30) (b := T) (by omega) (by decide)) ⟨nm' (500 + 100 * k), rfl, J2.1.1, ⟨by omega, by omega⟩, sp_X1_told J2 (fun v hv => ⟨⟨by omega, by omega⟩, ?_⟩)⟩)
    obtain ⟨Bv, eB, hBv⟩ := hv
    rw [eB]
    refine sp_X11_has hBv.1 (by omega) (fun hb => ⟨fun c => absurd c (by decide), fun _ => ⟨⟨by omega, by omega⟩, ?_⟩⟩) (fun hb => ⟨fun _ => join acc s (keep ?_) C2 J2, fun c => absurd rfl c⟩)
    · have hex : ∃ b, rc z (2 ^ n - 1) (c4 t) T b := ((hBv.2 T).mp hb).2
      refine sp_X1_leastPrice C2.1 J2 X2 hT1 (by omega) (fun h'' x J' f _ L => ?_)
      have C3 := tp_bf C2 hx eg hg f J'
      obtain ⟨b0, hr⟩ := hex
      obtain ⟨k0, w0', hp⟩ := rc_to (wt := fun s => sw pr s 4) hr
      obtain ⟨l0, l1, l2⟩ := lsG_lsN L ⟨w0', k0, b0, hp⟩
      refine ⟨fun c => join acc h'' (keep ?_) C3 J', fun c => ?_⟩
      · have hlt := (nI_ltI (by omega) (by omega)).mp c
        rintro ⟨_, w, hw, hT⟩
        have := l2 w hT
        omega
      · rintro _ rfl
        have hle : x ≤ m := Nat.le_of_not_lt (fun h9 => c (nI_lt h9 (by omega)))
        rw [bit_I (by omega)]
        refine join _ h'' ((isB_or hB (isB_bit (k := T) (by omega))).congr (fun i => ⟨fun a => ?_, fun a => ?_⟩)) C3 J'
        · rcases a with a | a
          · exact ⟨by have := a.1; omega, a.2⟩
          · rw [a]
            exact ⟨by omega, ⟨hT1, by omega⟩, x, hle, l1⟩
        · rcases Nat.lt_or_ge i T with h9 | h9
          · exact Or.inl ⟨h9, a.2⟩
          · exact Or.inr (by have := a.1; omega)
    · rintro ⟨_, w, hw, hT⟩
      have := (hBv.2 T).mpr ⟨⟨hT1, by omega⟩, TL_rx hT⟩
      rw [hb] at this; cases this
theorem tp_purse0 {MC MS : Nat} {Y : xg_Y} {h : xg_H} {nm : Nat → Nat} {p : Nat → Nat → Int32} {pk : Nat → Nat → Nat → Int32} {sv : Nat → Bool} {b : Nat → Nat} {Q : Int32 → xg_Y → xg_H → Prop} {x1 x2 : Int32} (C : CW Y h nm p pk sv b) (cn : xt_cnt p) (hb : noN p 0 x1 ∨ ¬ (0 ≤ x2 ∧ x2 ≤ 99)) (q : Q (-1) Y h) : wp_X11_purse MC MS Y Q (nm 0) x1 x2 h := by
  unfold wp_X11_purse
  exact ⟨C.2.1.1, fun R40 R81 c40 c81 => ⟨nm 100, C.2.1.2.1, C.2.2.1.1.1, m00, sp_find2 (s := 0) (C.co cn) (by decide) (fun k hx => ⟨fun c => (by cases c), fun a _ => rng (fun r => absurd r (hb.elim (fun c => absurd c (okno hx)) id)) (fun _ => ⟨m00, q⟩)⟩) (fun _ => ⟨fun _ => ⟨m00, q⟩, fun a c => (by cases c)⟩)⟩⟩
theorem sb_two {n a b : Nat} (ha : a < n) (hb : b < n) : sb (2 ^ a ||| 2 ^ b) (2 ^ n - 1) := by
  unfold sb
  apply Nat.eq_of_testBit_eq
  intro i
  rw [Nat.testBit_and, full_bit, Nat.testBit_or, Nat.testBit_two_pow, Nat.testBit_two_pow]
  by_cases e1 : a = i
  · rw [← e1]; simp [ha]
  · by_cases e2 : b = i
    · rw [← e2]; simp [hb]
    · simp [e1, e2]
noncomputable def cpi (P : Nat → Nat → Prop) (a m : Nat) : Nat := fb_sm (fun j => if dcd (P a (a + 1 + j)) then 1 else 0) m
noncomputable def cpo (n : Nat) (P : Nat → Nat → Prop) (m : Nat) : Nat := fb_sm (fun a => cpi P a (n - (a + 1))) m
theorem cpi_s {P : Nat → Nat → Prop} {a m : Nat} : cpi P a (m + 1) = cpi P a m + (if dcd (P a (a + 1 + m)) then 1 else 0) := rfl
theorem cpo_s {n : Nat} {P : Nat → Nat → Prop} {m : Nat} : cpo n P (m + 1) = cpo n P m + cpi P m (n - (m + 1)) := rfl
set_option maxHeartbeats 1000000 in
theorem tp_couplesV {MC MS : Nat} {Y : xg_Y} {h : xg_H} {nm : Nat → Nat} {p : Nat → Nat → Int32} {pk : Nat → Nat → Nat → Int32} {sv : Nat → Bool} {b : Nat → Nat} {Q : Int32 → xg_Y → xg_H → Prop} {k n : Nat} {z t pr : Nat → Nat} {x1 : Int32} {T : Nat} (C : CW Y h nm p pk sv b) (cn : xt_cnt p) (hx : okN p 0 x1 k) (S : SR p k n z t pr) (h1 : 1 ≤ T) (h30 : T ≤ 30) (hMC : 40 * dB b k n ≤ MC) (hMS : 120000 * dB b k n ≤ MS) (q : ∀ nm' Y' h', CW Y' h' nm' p pk sv (upB b k (mB b k n)) → nm' 0 = nm 0 → Q (nI (cpl n (fun a b => TB n z t (2 ^ a ||| 2 ^ b) T))) Y' h') : wp_X11_couples MC MS Y Q (nm 0) x1 (nI T) h := by
  have hn4 := S.1
  rw [← cpu_cpl hn4 (fun a b => by rw [Nat.or_comm])] at q
  unfold wp_X11_couples
  refine ⟨C.2.1.1, fun R37 R52 R85 c37 c52 c85 => ⟨nm 100, C.2.1.2.1, C.2.2.1.1.1, m00, sp_findV (s := 0) (C.co cn) (by decide) hx ⟨fun c => (by cases c), fun a _ => ⟨m00, ?_⟩⟩⟩⟩
  refine sp_X11_isT (fun _ _ _ _ => ⟨fun _ => ?_, fun c => absurd c (by decide)⟩) (fun no => absurd (tOk h1 h30) no)
  refine tp_bk C cn hx S hMC hMS (fun nm' Y' h' g C' eg hg J e0 ee => ?_)
  obtain ⟨PP, hPP⟩ : ∃ PP : Nat → Nat → Prop, PP = fun a b => TB n z t (2 ^ a ||| 2 ^ b) T := ⟨_, rfl⟩
  have q' : ∀ s, CW Y' s nm' p pk sv (upB b k (mB b k n)) → Q (nI (cpo n PP n)) Y' s := fun s C2 => by rw [hPP]; exact q nm' Y' s C2 e0
  have m1 : 0 + 40 * dB b k n ≤ MC := by omega
  have m2 : 0 + 120000 * dB b k n ≤ MS := by omega
  clear q
  show R37 (some (nm (111 + (2 * 0 + k)))) (some (nm' (500 + 100 * k))) (nI 0) (nI 0) (0 + 40 * dB b k n) (0 + 120000 * dB b k n) Y' h'
  rw [← ee _ (ptx hx.2.1)]
  generalize 0 + 40 * dB b k n = kc at m1 ⊢
  generalize 0 + 120000 * dB b k n = nc at m2 ⊢
  refine lp (σ := xg_H) (R := fun a s => R37 (some (nm' (111 + (2 * 0 + k)))) (some (nm' (500 + 100 * k))) (nI (cpo n PP a)) (nI a) kc nc Y' s) (fun a s => CW Y' s nm' p pk sv (upB b k (mB b k n)) ∧ BJ Y' s nm' (500 + 100 * k) (rwn g) (rwn (g - 1)) n z t) 0 n (Nat.zero_le n) ?_ ?_ h' ⟨C', J⟩
  · rintro s ⟨C2, J2⟩
    have X2 := (C2.co cn).xs hx.2.1 S
    exact c37 _ _ _ _ _ _ _ _ ⟨nm' (111 + (2 * 0 + k)), rfl, X2.1, bq_t (by rw [X2.2.2.2.2.1]; exact nI_le (Nat.le_refl n) (by omega)) ⟨⟨m1, m2⟩, q' s C2⟩⟩
  · rintro a s _ ha ⟨C2, J2⟩ ih
    have X2 := (C2.co cn).xs hx.2.1 S
    refine c37 _ _ _ _ _ _ _ _ ⟨nm' (111 + (2 * 0 + k)), rfl, X2.1, bq_f (by rw [X2.2.2.2.2.1]; exact nI_ge ha (by omega)) ?_⟩
    rintro _ rfl
    rw [nI_1]
    refine lp (σ := xg_H) (R := fun j s => R52 (some (nm' (111 + (2 * 0 + k)))) (some (nm' (500 + 100 * k))) (nI (cpo n PP a + cpi PP a j)) (nI a) (nI (a + 1 + j)) kc nc Y' s) (fun j s => CW Y' s nm' p pk sv (upB b k (mB b k n)) ∧ BJ Y' s nm' (500 + 100 * k) (rwn g) (rwn (g - 1)) n z t) 0 (n - (a + 1)) (Nat.zero_le _) ?_ ?_ s ⟨C2, J2⟩
    · rintro s ⟨C3, J3⟩
      have X3 := (C3.co cn).xs hx.2.1 S
      refine c52 _ _ _ _ _ _ _ _ _ ⟨nm' (111 + (2 * 0 + k)), rfl, X3.1, bq_t (by rw [X3.2.2.2.2.1]; exact nI_le (by omega) (by omega)) ?_⟩
      rintro _ rfl
      rw [nI_1, ← cpo_s]
      exact ih s ⟨C3, J3⟩
    · rintro j s _ hj ⟨C3, J3⟩ ih2
      have X3 := (C3.co cn).xs hx.2.1 S
      have go : ∀ u s', CW Y' s' nm' p pk sv (upB b k (mB b k n)) → BJ Y' s' nm' (500 + 100 * k) (rwn g) (rwn (g - 1)) n z t → u = (if dcd (PP a (a + 1 + j)) then 1 else 0) → R85 (some (nm' (111 + (2 * 0 + k)))) (some (nm' (500 + 100 * k))) (nI (cpo n PP a + cpi PP a j + u)) (nI a) (nI (a + 1 + j)) kc nc Y' s' := by
        intro u s' C4 J4 eu
        refine c85 _ _ _ _ _ _ _ _ _ ?_
        rintro _ rfl
        rw [nI_1, eu, Nat.add_assoc, ← cpi_s]
        exact ih2 s' ⟨C4, J4⟩
      refine c52 _ _ _ _ _ _ _ _ _ ⟨nm' (111 + (2 * 0 + k)), rfl, X3.1, bq_f (by rw [X3.2.2.2.2.1]; exact nI_ge (by omega) (by omega)) ⟨nm' (500 + 100 * k), rfl, J3.1.1, ⟨m1, m2⟩, ?_⟩⟩
      rw [bit_I (by omega), bit_I (by omega), fa_or]
      refine sp_X1_toldBy C3.1 J3 (sb_two ha (by omega)) (fun h'' v J' f hv => ⟨⟨m1, m2⟩, ?_⟩)
      have C4 := tp_bf C3 hx eg hg f J'
      obtain ⟨Bv, eB, hBv⟩ := hv
      rw [eB]
      have hpp : PP a (a + 1 + j) ↔ TB n z t (2 ^ a ||| 2 ^ (a + 1 + j)) T := by rw [hPP]
      refine sp_X11_has hBv.1 (by omega) (fun hb => ⟨fun c => absurd c (by decide), fun _ => ?_⟩) (fun hb => ⟨fun _ => ?_, fun c => absurd rfl c⟩)
      · rintro _ rfl
        rw [nI_1]
        exact go 1 h'' C4 J' (by rw [dcd_iff.mpr (hpp.mpr ((hBv.2 T).mp hb))]; rfl)
      · exact go 0 h'' C4 J' (by
          rw [dcd_f.mpr (fun c => by
            have := (hBv.2 T).mpr (hpp.mp c)
            rw [hb] at this; cases this)]; rfl)
theorem tp_couples0 {MC MS : Nat} {Y : xg_Y} {h : xg_H} {nm : Nat → Nat} {p : Nat → Nat → Int32} {pk : Nat → Nat → Nat → Int32} {sv : Nat → Bool} {b : Nat → Nat} {Q : Int32 → xg_Y → xg_H → Prop} {x1 x2 : Int32} (C : CW Y h nm p pk sv b) (cn : xt_cnt p) (hb : noN p 0 x1 ∨ ¬ (1 ≤ x2 ∧ x2 ≤ 30)) (q : Q (-1) Y h) : wp_X11_couples MC MS Y Q (nm 0) x1 x2 h := by
  unfold wp_X11_couples
  refine ⟨C.2.1.1, fun R37 R52 R85 c37 c52 c85 => ⟨nm 100, C.2.1.2.1, C.2.2.1.1.1, m00, sp_find2 (s := 0) (C.co cn) (by decide) (fun k hx => ⟨fun c => (by cases c), fun a _ => ⟨m00, ?_⟩⟩) (fun _ => ⟨fun _ => ⟨m00, q⟩, fun a c => (by cases c)⟩)⟩⟩
  exact sp_X11_isT (fun T eT a b => absurd (by rw [eT]; exact tOk a b) (hb.elim (fun c => absurd c (okno hx)) id)) (fun _ => ⟨fun c => absurd rfl c, fun _ => ⟨m00, q⟩⟩)
/-- the questions of times that need a book -/
def tmB (n : Nat) (x : Int32) : Prop := (∃ j, j ≤ 8 ∧ x = nI j) ∨ x = nI 14 ∨ ∃ g, g < n ∧ x = nI (20 + g)
set_option maxHeartbeats 1000000 in
theorem tp_timesA {MC MS : Nat} {Y : xg_Y} {h : xg_H} {nm : Nat → Nat} {p : Nat → Nat → Int32} {pk : Nat → Nat → Nat → Int32} {sv : Nat → Bool} {b : Nat → Nat} {Q : Int32 → xg_Y → xg_H → Prop} {k n : Nat} {z t pr : Nat → Nat} {x1 : Int32} {x2 : Int32} (C : CW Y h nm p pk sv b) (cn : xt_cnt p) (hx : okN p 0 x1 k) (S : SR p k n z t pr) (hw : tmB n x2) (hMC : 40 * dB b k n ≤ MC) (hMS : 120000 * dB b k n ≤ MS) (q : ∀ nm' Y' h' v, CW Y' h' nm' p pk sv (upB b k (mB b k n)) → nm' 0 = nm 0 → TI n z t x2 v → Q v Y' h') : wp_X11_times MC MS Y Q (nm 0) x1 x2 h := by
  have hn4 := S.1
  have X := (C.co cn).xs hx.2.1 S
  unfold wp_X11_times
  refine ⟨C.2.1.1, fun R35 R56 c35 c56 => ⟨nm 100, C.2.1.2.1, C.2.2.1.1.1, m00, sp_findV (s := 0) (C.co cn) (by decide) hx ⟨fun c => (by cases c), fun a _ => ?_⟩⟩⟩
  rcases hw with ⟨j, hj, e⟩ | e | ⟨i, hi, e⟩ <;> rw [e] at q c35 c56 ⊢
  · refine bq_t (nI_lt (b := 9) (by omega) (by decide)) (c35 _ _ _ _ _ (bq_f (nI_pos (by omega)) (bq_f (nI_nlt (a := 8) (by omega) (by decide)) ⟨C.2.1.1, ?_⟩)))
    refine tp_bk C cn hx S hMC hMS (fun nm' Y' h' g C' eg hg J e0 ee => ⟨⟨by omega, by omega⟩, ?_⟩)
    exact sp_X11_ofTimes C'.1 J hj (fun h'' v J' f L => ⟨⟨by omega, by omega⟩, q nm' Y' h'' v (tp_bf C' hx eg hg f J') e0 (TI_k (by omega) (fun _ => L) (fun c => absurd c (by omega)) (fun c => absurd c (by omega)) (fun c => absurd c (by omega)) (fun c => absurd c (by omega)) (fun c => absurd c (by omega)) (fun c => absurd c (by omega)) hn4)⟩)
  · refine bq_f (by decide) (bq_t (by decide) (c35 _ _ _ _ _ (bq_f (by decide) (bq_t (by decide) (c56 _ _ _ _ _ ⟨fun c => absurd rfl c, fun _ => ⟨C.2.1.1, ?_⟩⟩)))))
    refine tp_bk C cn hx S hMC hMS (fun nm' Y' h' g C' eg hg J e0 ee => ⟨nm' (500 + 100 * k), rfl, J.1.1, ⟨by omega, by omega⟩, ?_⟩)
    exact sp_X1_longestStill J (fun v L => ⟨⟨by omega, by omega⟩, q nm' Y' h' v C' e0 (TI_k (by decide) (fun c => absurd c (by decide)) (fun c => absurd c (by decide)) (fun c => absurd c (by decide)) (fun c => absurd c (by decide)) (fun c => absurd c (by decide)) (fun c => absurd c (by decide)) (fun _ => L) hn4)⟩)
  · refine bq_f (nI_nlt (b := 9) (by omega) (by omega)) (bq_t (nI_lt (a := 13) (by omega) (by omega)) (c35 _ _ _ _ _ (bq_f (nI_pos (by omega)) (bq_t (nI_lt (a := 8) (by omega) (by omega)) (c56 _ _ _ _ _ ⟨fun _ => ⟨m00, ?_⟩, fun c => absurd c (nI_ne (b := 14) (by omega) (by decide) (by omega))⟩)))))
    refine sp_X11_isGlass (b := 20) X.1 X.2.2.2.2.1 (by omega) (by decide) (fun v ev b1 b2 => ⟨fun c => absurd c (by decide), fun _ => ⟨C.2.1.1, ?_⟩⟩) (fun no => absurd ⟨by omega, by omega⟩ (no (20 + i) rfl (by omega)))
    refine tp_bk C cn hx S hMC hMS (fun nm' Y' h' g C' eg hg J e0 ee => ⟨nm' (500 + 100 * k), rfl, J.1.1, ⟨by omega, by omega⟩, ?_⟩)
    rw [nl_20, pk_sub (by omega), show 20 + i - 20 = i by omega, bit_I (by omega)]
    refine sp_X1_toldBy C'.1 J (pow_sb hi) (fun h'' v J' f L => ⟨⟨by omega, by omega⟩, q nm' Y' h'' v (tp_bf C' hx eg hg f J') e0 ?_⟩)
    refine ⟨fun j hj c => absurd c (nI_ne (by omega) (by omega) (by omega)), fun c => absurd c (nI_ne (by omega) (by decide) (by omega)), fun c => absurd c (nI_ne (by omega) (by decide) (by omega)), fun c => absurd c (nI_ne (by omega) (by decide) (by omega)), fun c => absurd c (nI_ne (by omega) (by decide) (by omega)), fun c => absurd c (nI_ne (by omega) (by decide) (by omega)), fun c => absurd c (nI_ne (by omega) (by decide) (by omega)), fun g' hg' c => ?_, fun _ c => absurd rfl (c i hi)⟩
    have := (nI_eq (a := 20 + i) (b := 20 + g') (by omega) (by omega)).mp c
    rw [show g' = i by omega]
    exact L
set_option maxHeartbeats 1000000 in
theorem tp_timesB {MC MS : Nat} {Y : xg_Y} {h : xg_H} {nm : Nat → Nat} {p : Nat → Nat → Int32} {pk : Nat → Nat → Nat → Int32} {sv : Nat → Bool} {b : Nat → Nat} {Q : Int32 → xg_Y → xg_H → Prop} {k n : Nat} {z t pr : Nat → Nat} {x1 : Int32} {x2 : Int32} (C : CW Y h nm p pk sv b) (cn : xt_cnt p) (hx : okN p 0 x1 k) (S : SR p k n z t pr) (hw : ¬ tmB n x2) (q : ∀ v, TI n z t x2 v → Q v Y h) : wp_X11_times MC MS Y Q (nm 0) x1 x2 h := by
  have hn4 := S.1
  have X := (C.co cn).xs hx.2.1 S
  have w8 : ∀ j, j ≤ 8 → x2 ≠ nI j := fun j hj e => hw (Or.inl ⟨j, hj, e⟩)
  have w14 : x2 ≠ nI 14 := fun e => hw (Or.inr (Or.inl e))
  have w20 : ∀ g, g < n → x2 ≠ nI (20 + g) := fun g hg e => hw (Or.inr (Or.inr ⟨g, hg, e⟩))
  unfold wp_X11_times
  refine ⟨C.2.1.1, fun R35 R56 c35 c56 => ⟨nm 100, C.2.1.2.1, C.2.2.1.1.1, m00, sp_findV (s := 0) (C.co cn) (by decide) hx ⟨fun c => (by cases c), fun a _ => ?_⟩⟩⟩
  have bad : (∀ j, 9 ≤ j → j ≤ 13 → x2 ≠ nI j) → R56 (some (nm (111 + (2 * 0 + k)))) 0 0 Y h := by
    intro w9
    refine c56 _ _ _ _ _ ⟨fun _ => ⟨m00, ?_⟩, fun c => absurd c w14⟩
    refine sp_X11_isGlass (b := 20) X.1 X.2.2.2.2.1 (by omega) (by decide) (fun v ev b1 b2 => absurd ev (by rw [show v = 20 + (v - 20) by omega]; exact w20 (v - 20) (by omega))) (fun _ => ⟨fun _ => ⟨m00, q (-2) ?_⟩, fun c => absurd rfl c⟩)
    exact ⟨fun j hj c => absurd c (w8 j hj), fun c => absurd c (w9 9 (by decide) (by decide)), fun c => absurd c (w9 10 (by decide) (by decide)), fun c => absurd c (w9 11 (by decide) (by decide)), fun c => absurd c (w9 12 (by decide) (by decide)), fun c => absurd c (w9 13 (by decide) (by decide)), fun c => absurd c w14, fun g hg c => absurd c (w20 g hg), fun _ _ => rfl⟩
  by_cases c0 : x2 < 0
  · have w9 : ∀ j, 9 ≤ j → j ≤ 13 → x2 ≠ nI j := fun j _ h13 e => by rw [e] at c0; exact nI_pos (by omega) c0
    have r35 : R35 (some (nm (111 + (2 * 0 + k)))) 0 0 Y h := c35 _ _ _ _ _ (bq_t c0 (bad w9))
    exact bq_t (Int32.lt_trans c0 (by decide)) r35
  · obtain ⟨j, hj, ej⟩ := nI_of c0
    rcases (show j ≤ 8 ∨ (9 ≤ j ∧ j ≤ 13) ∨ 14 ≤ j by omega) with h8 | ⟨h9, h13⟩ | h14
    · exact absurd ej (w8 j h8)
    · rw [ej] at q ⊢
      refine bq_f (nI_nlt (b := 9) (by omega) (by omega)) (bq_f (nI_nlt (a := 13) (by omega) (by decide)) ⟨m00, ?_⟩)
      exact sp_X11_ofShelf X S.sh h9 h13 (fun v L => ⟨m00, q v L⟩)
    · have w9 : ∀ i, 9 ≤ i → i ≤ 13 → x2 ≠ nI i := fun i _ _ e => by
        have := (nI_eq hj (by omega)).mp (ej.symm.trans e)
        omega
      have r35 : R35 (some (nm (111 + (2 * 0 + k)))) 0 0 Y h := by
        refine c35 _ _ _ _ _ (bq_f c0 (bq_t ?_ (bad w9)))
        rw [ej]; exact nI_lt (a := 8) (by omega) hj
      refine bq_f ?_ (bq_t ?_ r35)
      · rw [ej]; exact nI_nlt (b := 9) (by omega) hj
      · rw [ej]; exact nI_lt (a := 13) (by omega) hj
theorem tp_times0 {MC MS : Nat} {Y : xg_Y} {h : xg_H} {nm : Nat → Nat} {p : Nat → Nat → Int32} {pk : Nat → Nat → Nat → Int32} {sv : Nat → Bool} {b : Nat → Nat} {Q : Int32 → xg_Y → xg_H → Prop} {x1 x2 : Int32} (C : CW Y h nm p pk sv b) (cn : xt_cnt p) (hb : noN p 0 x1) (q : Q (-2) Y h) : wp_X11_times MC MS Y Q (nm 0) x1 x2 h := by
  unfold wp_X11_times
  exact ⟨C.2.1.1, fun R35 R56 c35 c56 => ⟨nm 100, C.2.1.2.1, C.2.2.1.1.1, m00, sp_find0 (s := 0) (C.co cn) (by decide) hb ⟨fun _ => ⟨m00, q⟩, fun a c => (by cases c)⟩⟩⟩
