/-! Game: all turned at each event: fc, ft: code and minute behind k events -/
def fc (z : Nat → Nat) (m c0 : Nat) : Nat → Nat
  | 0 => c0
  | k + 1 => nc z (fc z m c0 k) m
def ft (z : Nat → Nat) (m c0 : Nat) : Nat → Nat
  | 0 => 0
  | k + 1 => ft z m c0 k + dl z (fc z m c0 k) m
theorem fc_ok {z : Nat → Nat} {m c0 : Nat} (hz : zok z) (hc : okc z c0) : ∀ k, okc z (fc z m c0 k)
  | 0 => hc
  | k + 1 => nc_ok hz (fc_ok hz hc k)
/-- behind an event something runs again -/
theorem dl_go {n : Nat} {z t : Nat → Nat} {c : Nat} (H : SH n z t) (hc : okc z c) (hd : 0 < dl z c (2 ^ n - 1)) : 0 < dl z (nc z c (2 ^ n - 1)) (2 ^ n - 1) := by
  have hz := H.zok
  rcases dl_spec (c := c) (s := 2 ^ n - 1) hz with ⟨e, _⟩ | ⟨_, _, ⟨g, hg, e⟩, _⟩
  · omega
  · have h1 := tn_lez (s := 2 ^ n - 1) hc hg
    have hgn : g < n := Nat.lt_of_not_le (fun h9 => by have := (H.2.2 g h9).1; omega)
    have h2 : tn z (nc z c (2 ^ n - 1)) (2 ^ n - 1) g = z g - dg (nc z c (2 ^ n - 1)) g := by unfold tn; rw [if_pos (by rw [full_bit]; exact decide_eq_true hgn)]
    rw [dg_nc hz g hg, e] at h2
    rcases dl_spec (c := nc z c (2 ^ n - 1)) (s := 2 ^ n - 1) hz with ⟨e9, h9⟩ | ⟨h9, _⟩
    · have := h9 g hg; omega
    · exact h9
theorem dl_all {n : Nat} {z t : Nat → Nat} {c0 : Nat} (H : SH n z t) (hc : okc z c0) (hd : 0 < dl z c0 (2 ^ n - 1)) : ∀ k, 0 < dl z (fc z (2 ^ n - 1) c0 k) (2 ^ n - 1)
  | 0 => hd
  | k + 1 => dl_go H (fc_ok H.zok hc k) (dl_all H hc hd k)
theorem ft_mono {n : Nat} {z t : Nat → Nat} {c0 : Nat} (H : SH n z t) (hc : okc z c0) (hd : 0 < dl z c0 (2 ^ n - 1)) {i : Nat} : ∀ j, ft z (2 ^ n - 1) c0 i + j ≤ ft z (2 ^ n - 1) c0 (i + j)
  | 0 => Nat.le_refl _
  | j + 1 => by
    have h1 := ft_mono H hc hd (i := i) j
    have h2 := dl_all H hc hd (i + j)
    show _ ≤ ft z (2 ^ n - 1) c0 (i + j) + dl z (fc z (2 ^ n - 1) c0 (i + j)) (2 ^ n - 1)
    omega
theorem ft_le {z : Nat → Nat} {m c0 : Nat} (hz : zok z) : ∀ k, ft z m c0 k ≤ 7 * k
  | 0 => Nat.le_refl _
  | k + 1 => by
    have h1 := ft_le (m := m) (c0 := c0) hz k
    have h2 := dl_le (c := fc z m c0 k) (s := m) hz
    show ft z m c0 k + dl z (fc z m c0 k) m ≤ _
    omega
/-- whether T is told by all turned at each event -/
def SM (z : Nat → Nat) (m c0 T : Nat) : Prop := 0 < dl z c0 m ∧ ∃ k, ft z m c0 k = T
def GM (Y : xg_Y) (h : xg_H) (nm : Nat → Nat) (n : Nat) (z t : Nat → Nat) : Prop := xg_is Y (nm 35) 4 ∧ xg_o h (nm 35) 3 = some (nm 30) ∧ xg_i h (nm 35) 5 = nI (c4 z) ∧ xg_i h (nm 35) 4 = nI (c4 t) ∧ xg_i h (nm 35) 6 = nI (2 ^ n) ∧ xg_i h (nm 35) 7 = nI n ∧ SH n z t
theorem GM.mv {Y : xg_Y} {h h2 : xg_H} {nm : Nat → Nat} {n : Nat} {z t : Nat → Nat} {L : List Nat} (a : GM Y h nm n z t) (e : xd nm L h h2) (hL : 35 ∉ L) : GM Y h2 nm n z t := ⟨a.1, (e.2 _ _).trans a.2.1, (e.i 35 hL 5).trans a.2.2.1, (e.i 35 hL 4).trans a.2.2.2.1, (e.i 35 hL 6).trans a.2.2.2.2.1, (e.i 35 hL 7).trans a.2.2.2.2.2.1, a.2.2.2.2.2.2⟩
theorem sp_X4_begin {Y : xg_Y} {Q : xg_H → Prop} {h : xg_H} {nm : Nat → Nat} {n tx : Nat} {z t pr : Nat → Nat} (hn : inj nm) (k35 : xg_is Y (nm 35) 4) (o4 : xg_o h (nm 35) 3 = some (nm 30)) (X : XS Y h nm tx n z t pr) (H : SH n z t) (q : ∀ h', xd nm [35] h h' → GM Y h' nm n z t → Q h') : wp_X4_begin Y Q (nm 35) (some (nm tx)) h := by
  have hn4 := H.1
  have htx := X.2.2.2.2.2.2.2.1
  have ez : cp z n = c4 z := cp_n hn4 (fun g hg => (H.2.2 g hg).1)
  have et : cp t n = c4 t := cp_n hn4 (fun g hg => (H.2.2 g hg).2)
  unfold wp_X4_begin
  refine ⟨k35, nm tx, rfl, X.1, ?_⟩
  rintro _ rfl
  rw [X.2.2.2.2.1]
  have e1 : xd nm [35] h (xg_ui h (nm 35) 7 (nI n)) := xd.ui hn xd.rf (by simp)
  have v7 : xg_i (xg_ui h (nm 35) 7 (nI n)) (nm 35) 7 = nI n := by rw [xu hn, if_pos ⟨rfl, rfl⟩]
  rw [(e1.2 _ _).trans X.2.1.1, v7]
  refine sp_X11_codeOf X.2.1.2.1 X.2.1.2.2 hn4 (fun g hg => ⟨(e1.i _ (by simp <;> omega) g).trans (X.2.2.2.2.2.1 g hg).1, (H.le g).1⟩) ?_
  rintro _ rfl
  have e2 : xd nm [35] h (xg_ui (xg_ui h (nm 35) 7 (nI n)) (nm 35) 5 (nI (cp z n))) := xd.ui hn e1 (by simp)
  have v7b : xg_i (xg_ui (xg_ui h (nm 35) 7 (nI n)) (nm 35) 5 (nI (cp z n))) (nm 35) 7 = nI n := by rw [xu_p hn (by decide)]; exact v7
  rw [(e2.2 _ _).trans X.2.2.1.1, v7b]
  refine sp_X11_codeOf X.2.2.1.2.1 X.2.2.1.2.2 hn4 (fun g hg => ⟨(e2.i _ (by simp <;> omega) g).trans (X.2.2.2.2.2.1 g hg).2.1, Nat.le_trans (H.le g).2 (H.le g).1⟩) ?_
  rintro _ rfl _ rfl
  have v7c : xg_i (xg_ui (xg_ui (xg_ui h (nm 35) 7 (nI n)) (nm 35) 5 (nI (cp z n))) (nm 35) 4 (nI (cp t n))) (nm 35) 7 = nI n := by rw [xu_p hn (by decide)]; exact v7b
  rw [v7c, bit_I (by omega)]
  refine q _ (xd.ui hn (xd.ui hn e2 (by simp)) (by simp)) ⟨k35, o4, ?_, ?_, ?_, ?_, H⟩
  · rw [xu_p hn (by decide), xu_p hn (by decide), xu hn, if_pos ⟨rfl, rfl⟩, ez]
  · rw [xu_p hn (by decide), xu hn, if_pos ⟨rfl, rfl⟩, et]
  · rw [xu hn, if_pos ⟨rfl, rfl⟩]
  · rw [xu_p hn (by decide)]; exact v7c
theorem all_ck {n : Nat} {z t : Nat → Nat} {c : Nat} (H : SH n z t) (hc : okc z c) : c4 z - c = ck z c (2 ^ n - 1) 4 ∧ c ≤ c4 z := by
  obtain ⟨e1, e2⟩ := cd_okc hc
  refine ⟨?_, e2⟩
  have key : ∀ g, g < 4 → tn z c (2 ^ n - 1) g = z g - dg c g := fun g hg => by
    unfold tn
    rcases Nat.lt_or_ge g n with h9 | h9
    · rw [if_pos (by rw [full_bit]; exact decide_eq_true h9)]
    · have h1 := hc.2 g hg
      have h2 := (H.2.2 g h9).1
      rw [if_neg (by rw [full_bit, decide_eq_false (by omega)]; decide)]
      omega
  unfold c4
  rw [e1, ck4, key 0 (by decide), key 1 (by decide), key 2 (by decide), key 3 (by decide)]
theorem sp_X4_allTurned {Y : xg_Y} {Q : Int32 → xg_H → Prop} {h : xg_H} {nm : Nat → Nat} {n c : Nat} {z t : Nat → Nat} (hn : inj nm) (G : GM Y h nm n z t) (S : ST Y h nm) (hc : okc z c) (q : ∀ h', xd nm [32] h h' → GM Y h' nm n z t → ST Y h' nm → (dl z c (2 ^ n - 1) = 0 → Q (nI 0) h') ∧ (0 < dl z c (2 ^ n - 1) → Q (nI (dl z c (2 ^ n - 1) * 4096 + nc z c (2 ^ n - 1))) h')) : wp_X4_allTurned Y Q (nm 35) (nI c) h := by
  have H := G.2.2.2.2.2.2
  obtain ⟨e1, e2⟩ := all_ck H hc
  unfold wp_X4_allTurned
  refine ⟨G.1, nm 30, G.2.1, S.1.1, ?_⟩
  rw [G.2.2.1, pk_sub e2, e1]
  refine sp_X7_from hn S.1 S.2.1 (fun h' e K => ?_)
  have hck : ck z c (2 ^ n - 1) 4 < 4096 := ck_lt H.zok 4 (by decide)
  rw [Nat.mod_eq_of_lt hck]
  obtain ⟨t0, t1⟩ := stp_ck (c := c) (s := 2 ^ n - 1) H.zok
  obtain ⟨q0, q1⟩ := q h' e (G.mv e (by decide)) ⟨S.1.mv e, K, fun c hc => by rw [e.i 31 (by decide)]; exact S.2.2 c hc⟩
  rcases Nat.eq_zero_or_pos (dl z c (2 ^ n - 1)) with h9 | h9
  · rw [t0 h9]; exact q0 h9
  · rw [t1 h9]; exact q1 h9
theorem sp_X4_behind {Y : xg_Y} {Q : Int32 → xg_H → Prop} {h : xg_H} {nm : Nat → Nat} {n c : Nat} {z t : Nat → Nat} (hn : inj nm) (G : GM Y h nm n z t) (S : ST Y h nm) (hc : okc z c) (hd : 0 < dl z c (2 ^ n - 1)) (q : ∀ h', xd nm [32] h h' → GM Y h' nm n z t → ST Y h' nm → Q (nI (nc z c (2 ^ n - 1))) h') : wp_X4_behind Y Q (nm 35) (nI c) h := by
  unfold wp_X4_behind
  refine ⟨G.1, sp_X4_allTurned hn G S hc (fun h' e G' S' => ⟨fun h0 => by omega, fun _ => ?_⟩)⟩
  have h1 := nc_lt (c := c) (s := 2 ^ n - 1) G.2.2.2.2.2.2.zok
  rw [nl_4095, m4095, show (dl z c (2 ^ n - 1) * 4096 + nc z c (2 ^ n - 1)) % 4096 = nc z c (2 ^ n - 1) by omega]
  exact q h' e G' S'
theorem sp_X4_roundComesTo {Y : xg_Y} {Q : Int32 → xg_H → Prop} {h : xg_H} {nm : Nat → Nat} {n T : Nat} {z t : Nat → Nat} (hn : inj nm) (G : GM Y h nm n z t) (S : ST Y h nm) (h1 : 1 ≤ T) (h30 : T ≤ 30) (q : ∀ h', xd nm [32] h h' → GM Y h' nm n z t → ST Y h' nm → (SM z (2 ^ n - 1) (c4 t) T → Q 1 h') ∧ (¬ SM z (2 ^ n - 1) (c4 t) T → Q 0 h')) : wp_X4_roundComesTo Y Q (nm 35) (nI T) h := by
  have H := G.2.2.2.2.2.2
  have hz := H.zok
  have hc := H.ok
  unfold wp_X4_roundComesTo
  refine ⟨G.1, fun R10 R56 c10 c56 z1 e1 => ?_⟩
  rw [G.2.2.2.1] at e1
  subst e1
  have out : ∀ i h', xd nm [32] h h' → GM Y h' nm n z t → ST Y h' nm → 0 < dl z (c4 t) (2 ^ n - 1) → T ≤ ft z (2 ^ n - 1) (c4 t) i → ft z (2 ^ n - 1) (c4 t) i < 1000 → (∀ j, j < i → ft z (2 ^ n - 1) (c4 t) j < T) → R56 (nI (ft z (2 ^ n - 1) (c4 t) i)) h' := by
    intro i h' e G' S' hd hle hb hlt
    obtain ⟨q1, q0⟩ := q h' e G' S'
    refine c56 _ _ ⟨fun c => q0 (fun ⟨_, k, ek⟩ => c ?_), fun c => q1 ⟨hd, i, (nI_eq (by omega) (by omega)).mp c⟩⟩
    rcases Nat.lt_trichotomy k i with h9 | h9 | h9
    · have := hlt k h9; omega
    · rw [← h9, ek]
    · have := ft_mono H hc hd (i := i) (k - i)
      rw [show i + (k - i) = k by omega] at this
      omega
  refine lp (σ := xg_H) (R := fun i s => R10 (nI (fc z (2 ^ n - 1) (c4 t) i)) (nI (ft z (2 ^ n - 1) (c4 t) i)) (nI i) s) (fun i s => xd nm [32] h s ∧ GM Y s nm n z t ∧ ST Y s nm ∧ (i = 0 ∨ 0 < dl z (c4 t) (2 ^ n - 1)) ∧ ∀ j, j < i → ft z (2 ^ n - 1) (c4 t) j < T) 0 T (Nat.zero_le T) ?_ ?_ h ⟨xd.rf, G, S, Or.inl rfl, fun j hj => absurd hj (Nat.not_lt_zero j)⟩
  · rintro s ⟨e, G', S', hd, hlt⟩
    have hd : 0 < dl z (c4 t) (2 ^ n - 1) := hd.elim (fun h => by omega) id
    have h2 := ft_mono H hc hd (i := 0) T
    rw [Nat.zero_add] at h2
    have h3 : ft z (2 ^ n - 1) (c4 t) 0 = 0 := rfl
    have h4 := ft_le (m := 2 ^ n - 1) (c0 := c4 t) hz T
    exact c10 _ _ _ _ (bq_t (nI_le (Nat.le_refl T) (by omega)) (out T s e G' S' hd (by omega) (by omega) hlt))
  · rintro i s _ hi ⟨e, G', S', hd, hlt⟩ ih
    have h4 := ft_le (m := 2 ^ n - 1) (c0 := c4 t) hz i
    refine c10 _ _ _ _ (bq_f (nI_ge hi (by omega)) ?_)
    by_cases hT : T ≤ ft z (2 ^ n - 1) (c4 t) i
    · have hd : 0 < dl z (c4 t) (2 ^ n - 1) := hd.elim (fun h => by subst h; have : ft z (2 ^ n - 1) (c4 t) 0 = 0 := rfl; omega) id
      exact bq_t (nI_le hT (by omega)) (out i s e G' S' hd hT (by omega) hlt)
    · refine bq_f (nI_ge (by omega) (by omega)) (sp_X4_allTurned hn G' S' (fc_ok hz hc i) (fun s2 e2 G2 S2 => ⟨fun h0 => ?_, fun h0 => ?_⟩))
      · refine bq_nf rfl ((q s2 (e.tr e2) G2 S2).2 (fun ⟨a, _⟩ => ?_))
        have := dl_all H hc a i
        omega
      · have hd7 := dl_le (c := fc z (2 ^ n - 1) (c4 t) i) (s := 2 ^ n - 1) hz
        have hnc := nc_lt (c := fc z (2 ^ n - 1) (c4 t) i) (s := 2 ^ n - 1) hz
        refine bq_nt (fun e9 => ?_) ?_
        · have := (nI_eq (a := dl z (fc z (2 ^ n - 1) (c4 t) i) (2 ^ n - 1) * 4096 + nc z (fc z (2 ^ n - 1) (c4 t) i) (2 ^ n - 1)) (b := 0) (by omega) (by decide)).mp e9
          omega
        · rw [sh12 (by omega), nl_4095, m4095, show (dl z (fc z (2 ^ n - 1) (c4 t) i) (2 ^ n - 1) * 4096 + nc z (fc z (2 ^ n - 1) (c4 t) i) (2 ^ n - 1)) / 4096 = dl z (fc z (2 ^ n - 1) (c4 t) i) (2 ^ n - 1) by omega, show (dl z (fc z (2 ^ n - 1) (c4 t) i) (2 ^ n - 1) * 4096 + nc z (fc z (2 ^ n - 1) (c4 t) i) (2 ^ n - 1)) % 4096 = nc z (fc z (2 ^ n - 1) (c4 t) i) (2 ^ n - 1) by omega, nI_add, nI_1]
          rintro _ rfl _ rfl _ rfl
          refine ih s2 ⟨e.tr e2, G2, S2, Or.inr ?_, fun j hj => ?_⟩
          · rcases hd with rfl | hd
            · exact h0
            · exact hd
          · rcases Nat.lt_or_ge j i with h9 | h9
            · exact hlt j h9
            · rw [show j = i by omega]; omega
