/-! Game: duel, chance -/
/-- the best of f below k (late: the greatest, else the least), of several the first; and where -/
def bst (late : Bool) (f : Nat → Nat) : Nat → Nat × Nat
  | 0 => (0, 0)
  | k + 1 => if k = 0 ∨ (late = true ∧ (bst late f k).1 < f k) ∨ (late = false ∧ f k < (bst late f k).1) then (f k, k) else bst late f k
theorem bst_le {late : Bool} {f : Nat → Nat} {M : Nat} : ∀ k, (∀ i, i < k → f i ≤ M) → (bst late f k).1 ≤ M ∧ (bst late f k).2 ≤ k
  | 0, _ => ⟨Nat.zero_le _, Nat.zero_le _⟩
  | k + 1, h => by
    have ih := bst_le (late := late) (f := f) (M := M) k (fun i hi => h i (by omega))
    have h1 := h k (by omega)
    simp only [bst]
    split
    · exact ⟨h1, by simp only; omega⟩
    · exact ⟨ih.1, by omega⟩
theorem bst_lt {late : Bool} {f : Nat → Nat} : ∀ k, 0 < k → (bst late f k).2 < k
  | 0, h => absurd h (Nat.lt_irrefl 0)
  | k + 1, _ => by
    simp only [bst]
    split
    · simp only; omega
    · rename_i h
      have := bst_lt (late := late) (f := f) k (by omega)
      omega
theorem bst_congr {late : Bool} {f f' : Nat → Nat} : ∀ k, (∀ i, i < k → f i = f' i) → bst late f k = bst late f' k
  | 0, _ => rfl
  | k + 1, h => by
    have ih := bst_congr (late := late) k (fun i hi => h i (by omega))
    simp only [bst]
    rw [ih, h k (by omega)]
def dm (z : Nat → Nat) (m : Nat) : Nat → Bool → Nat → Nat × Nat
  | 0, _, _ => (0, 0)
  | l + 1, late, c => bst late (fun s => dl z c s + (if 0 < dl z c s then (dm z m l (!late) (nc z c s)).1 else 0)) (m + 1)
theorem dm_le {z : Nat → Nat} {m : Nat} (hz : zok z) : ∀ l late c, (dm z m l late c).1 ≤ 7 * l
  | 0, _, _ => Nat.le_refl _
  | l + 1, late, c => by
    refine (bst_le (M := 7 * (l + 1)) (m + 1) (fun s _ => ?_)).1
    have h1 := dl_le (c := c) (s := s) hz
    have h2 := dm_le (m := m) hz l (!late) (nc z c s)
    split <;> omega
theorem clamp_0' {n : Nat} (hn : n < 2 ^ 31) : (if (0 : Int32) < nI n then nI n else 0) = nI n := by
  rw [nl_0]
  by_cases h : 0 < n
  · rw [if_pos (nI_lt h hn)]
  · rw [if_neg (nI_nlt (a := 0) (b := n) (by omega) (by omega)), show n = 0 by omega]
def lt32 (b : Bool) : Int32 := if b then 1 else 0
theorem sp_X4_duelFrom {Y : xg_Y} {nm : Nat → Nat} {n : Nat} {z t : Nat → Nat} (hn : inj nm) : ∀ d l c late h (Q : Int32 → xg_H → Prop), 1 ≤ l → l ≤ 4 → l ≤ d → GM Y h nm n z t → ST Y h nm → okc z c → (∀ h', xd nm [32] h h' → GM Y h' nm n z t → ST Y h' nm → Q (nI ((dm z (2 ^ n - 1) l late c).1 * 16 + (dm z (2 ^ n - 1) l late c).2)) h') → wp_X4_duelFrom d Y Q (nm 35) (nI c) (nI l) (lt32 late) h := by
  intro d
  induction d with
  | zero => intro l c late h Q h1 _ h2; omega
  | succ d ihd =>
    intro l c late h Q h1 h4 hld G S hc q
    have H := G.2.2.2.2.2.2
    have hz := H.zok
    have hn4 := H.1
    have hp := pow_n hn4
    have hp1 := Nat.two_pow_pos n
    obtain ⟨l, rfl⟩ : ∃ l', l = l' + 1 := ⟨l - 1, by omega⟩
    have F : ∃ F : Nat → Nat, F = fun s => dl z c s + (if 0 < dl z c s then (dm z (2 ^ n - 1) l (!late) (nc z c s)).1 else 0) := ⟨_, rfl⟩
    obtain ⟨F, hF⟩ := F
    have hFb : ∀ s, F s ≤ 28 := fun s => by
      rw [hF]
      have h1 := dl_le (c := c) (s := s) hz
      have h2 := dm_le (m := 2 ^ n - 1) hz l (!late) (nc z c s)
      simp only
      split <;> omega
    have ed : dm z (2 ^ n - 1) (l + 1) late c = bst late F (2 ^ n) := by
      show bst late _ (2 ^ n - 1 + 1) = _
      rw [hF, show 2 ^ n - 1 + 1 = 2 ^ n by omega]
    rw [ed] at q
    simp only [wp_X4_duelFrom]
    refine ⟨G.1, fun R9 R84 R75 R111 R119 c9 c84 c75 c111 c119 => ?_⟩
    have bb : ∀ k, (bst late F k).1 ≤ 28 := fun k => (bst_le k (fun i _ => hFb i)).1
    refine lp (σ := Int32 × Int32 × xg_H) (R := fun k u => R9 u.1 u.2.1 (nI k) u.2.2) (fun k u => xd nm [32] h u.2.2 ∧ GM Y u.2.2 nm n z t ∧ ST Y u.2.2 nm ∧ ((k = 0 ∧ u.2.1 = nM) ∨ (0 < k ∧ u.1 = nI (bst late F k).1 ∧ u.2.1 = nI (bst late F k).2))) 0 (2 ^ n) (Nat.zero_le _) ?_ ?_ (0, -1, h) ⟨xd.rf, G, S, Or.inl ⟨rfl, rfl⟩⟩
    · rintro ⟨y4, y5, s⟩ ⟨e, Gs, Ss, hu⟩
      rcases hu with ⟨a, _⟩ | ⟨_, a, b⟩
      · omega
      · simp only at a b e Gs Ss
        have hb2 := bst_lt (late := late) (f := F) (2 ^ n) hp1
        refine c9 _ _ _ _ (bq_t (by simp only; rw [Gs.2.2.2.2.1]; exact nI_le (Nat.le_refl _) (by omega)) ?_)
        simp only
        rw [a, b, clamp_0' (by omega), nl_16, pk_mul]
        rintro _ rfl
        rw [nI_add]
        exact q s e Gs Ss
    · rintro k ⟨y4, y5, s⟩ _ hk ⟨e, Gs, Ss, hu⟩ ih
      simp only at e Gs Ss hu ih ⊢
      have hd7 := dl_le (c := c) (s := k) hz
      have hnc := nc_lt (c := c) (s := k) hz
      -- what is taken up
      have keep : ∀ s2 b s', xd nm [32] h s2 → GM Y s2 nm n z t → ST Y s2 nm → bst late F (k + 1) = (b, s') → R119 (nI b) (nI s') (nI k) s2 := by
        intro s2 b s' a1 a2 a3 a4
        refine c119 _ _ _ _ ?_
        rintro _ rfl
        rw [nI_1]
        exact ih (nI b, nI s', s2) ⟨a1, a2, a3, Or.inr ⟨by omega, by rw [a4], by rw [a4]⟩⟩
      have judge : ∀ s2 x, xd nm [32] h s2 → GM Y s2 nm n z t → ST Y s2 nm → x = F k → R84 y4 y5 (nI k) (nI x) s2 := by
        rintro s2 x a1 a2 a3 rfl
        have hfk := hFb k
        rcases hu with ⟨rfl, hy5⟩ | ⟨hk0, hy4, hy5⟩
        · exact c84 _ _ _ _ _ (bq_t hy5 (c111 _ _ _ (keep s2 (F 0) 0 a1 a2 a3 (by simp [bst]))))
        · have hbk := bb k
          have hb2 := bst_lt (late := late) (f := F) k hk0
          refine c84 _ _ _ _ _ (bq_f (by rw [hy5, nl_m1, nI_eqM (by omega)]; exact id) ?_)
          rw [hy4, hy5]
          cases late
          · refine bq_t rfl ⟨fun c9' => ?_, fun c9' => ?_⟩
            · have c9' := (nI_leI (by omega) (by omega)).mp c9'
              refine keep s2 _ _ a1 a2 a3 ?_
              simp only [bst]; rw [if_neg (by simp; omega)]
            · have c9' : F k < (bst false F k).1 := Nat.lt_of_not_le (fun h9 => c9' (nI_le h9 (by omega)))
              refine c111 _ _ _ (keep s2 _ _ a1 a2 a3 ?_)
              simp only [bst]; rw [if_pos (Or.inr (Or.inr ⟨trivial, c9'⟩))]
          · refine bq_f (by decide) ⟨fun c9' => ?_, fun c9' => ?_⟩
            · have c9' := (nI_leI (by omega) (by omega)).mp c9'
              refine keep s2 _ _ a1 a2 a3 ?_
              simp only [bst]; rw [if_neg (by simp; omega)]
            · have c9' : (bst true F k).1 < F k := Nat.lt_of_not_le (fun h9 => c9' (nI_le h9 (by omega)))
              refine c111 _ _ _ (keep s2 _ _ a1 a2 a3 ?_)
              simp only [bst]; rw [if_pos (Or.inr (Or.inl ⟨trivial, c9'⟩))]
      refine c9 _ _ _ _ (bq_f (by rw [Gs.2.2.2.2.1]; exact nI_ge hk (by omega)) ?_)
      rw [Gs.2.2.1]
      refine sp_X11_turned hz hc (by omega) ⟨nm 30, Gs.2.1, Ss.1.1, ?_⟩
      refine sp_X7_from hn Ss.1 Ss.2.1 (fun s2 e2 K2 => ?_)
      have hck : ck z c k 4 < 4096 := ck_lt hz 4 (by decide)
      rw [Nat.mod_eq_of_lt hck]
      obtain ⟨t0, t1⟩ := stp_ck (c := c) (s := k) hz
      have G2 := Gs.mv e2 (by decide)
      have S2 : ST Y s2 nm := ⟨Ss.1.mv e2, K2, fun c hc => by rw [e2.i 31 (by decide)]; exact Ss.2.2 c hc⟩
      rcases Nat.eq_zero_or_pos (dl z c k) with h9 | h9
      · rw [t0 h9]
        rintro _ rfl
        refine bq_t rfl ?_
        rw [sh12 (by decide)]
        exact judge s2 _ (e.tr e2) G2 S2 (by rw [hF]; simp [h9])
      · rw [t1 h9]
        rintro _ rfl
        rw [sh12 (by omega), show (dl z c k * 4096 + nc z c k) / 4096 = dl z c k by omega, nl_4095, m4095, show (dl z c k * 4096 + nc z c k) % 4096 = nc z c k by omega]
        refine bq_f (fun e9 => ?_) ?_
        · have := (nI_eq (a := dl z c k * 4096 + nc z c k) (b := 0) (by omega) (by decide)).mp e9
          omega
        rcases Nat.eq_zero_or_pos l with hl | hl
        · subst hl
          exact bq_t (by decide) (judge s2 _ (e.tr e2) G2 S2 (by rw [hF]; simp [h9, dm]))
        · refine bq_f (nI_ge (a := 1) (by omega) (by omega)) ?_
          rw [nI_pred]
          have rcv : R75 y4 y5 (nI k) (lt32 (!late)) (nI l) (nI (nc z c k)) (nI (dl z c k)) s2 := by
            have hv := dm_le (m := 2 ^ n - 1) hz l (!late) (nc z c k)
            have hs : (dm z (2 ^ n - 1) l (!late) (nc z c k)).2 < 16 := by
              obtain ⟨l, rfl⟩ : ∃ l', l = l' + 1 := ⟨l - 1, by omega⟩
              have := bst_lt (late := !late) (f := fun s => dl z (nc z c k) s + (if 0 < dl z (nc z c k) s then (dm z (2 ^ n - 1) l (!!late) (nc z (nc z c k) s)).1 else 0)) (2 ^ n - 1 + 1) (by omega)
              show (bst (!late) _ (2 ^ n - 1 + 1)).2 < 16
              omega
            refine c75 _ _ _ _ _ _ _ _ (ihd l (nc z c k) (!late) s2 _ hl (by omega) (by omega) G2 S2 (nc_ok hz hc) (fun s3 e3 G3 S3 => ?_))
            rintro _ rfl
            rw [nl_16, pk_div (by omega) (by decide) (by decide), nI_add]
            refine judge s3 _ ((e.tr e2).tr e3) G3 S3 ?_
            rw [hF]
            simp only [if_pos h9]
            omega
          cases late
          · exact bq_nf rfl rcv
          · exact bq_nt (by decide) rcv
/-- how likely a set is, p of ten each -/
def cw (p s : Nat) : Nat → Nat
  | 0 => 1
  | k + 1 => cw p s k * (if s.testBit k then p else 10 - p)
theorem cw_le {p s : Nat} (hp : p ≤ 10) : ∀ k, cw p s k ≤ 10 ^ k
  | 0 => Nat.le_refl _
  | k + 1 => by
    have h1 := cw_le (s := s) hp k
    simp only [cw]
    rw [Nat.pow_succ]
    exact Nat.mul_le_mul h1 (by split <;> omega)
def CH (z : Nat → Nat) (n c0 p m : Nat) : Nat := fb_sm (fun s => if dl z c0 s = m then cw p s n else 0) (2 ^ n)
theorem CH_le {z : Nat → Nat} {n c0 p m : Nat} (hp : p ≤ 10) (hn : n ≤ 4) : CH z n c0 p m ≤ 160000 := by
  have h1 := fb_sm_bound (f := fun s => if dl z c0 s = m then cw p s n else 0) (c := 10000) (n := 2 ^ n) (fun s _ => by
    have h2 := cw_le (s := s) hp n
    have h3 := ten_n hn
    split <;> omega)
  have h4 := Nat.mul_le_mul_right 10000 (pow_n hn)
  unfold CH
  omega
theorem sp_X4_chanceOver {Y : xg_Y} {Q : Int32 → xg_H → Prop} {h : xg_H} {nm : Nat → Nat} {n p m : Nat} {z t : Nat → Nat} (hn : inj nm) (G : GM Y h nm n z t) (S : ST Y h nm) (hp : p ≤ 10) (hm : m ≤ 7) (q : ∀ h', xd nm [32] h h' → GM Y h' nm n z t → ST Y h' nm → Q (nI (CH z n (c4 t) p m)) h') : wp_X4_chanceOver Y Q (nm 35) (nI p) (nI m) h := by
  have H := G.2.2.2.2.2.2
  have hz := H.zok
  have hc := H.ok
  have hn4 := H.1
  have hp2 := pow_n hn4
  unfold wp_X4_chanceOver
  refine ⟨G.1, fun R5 R90 R47 R76 c5 c90 c47 c76 => ?_⟩
  have F : ∃ F : Nat → Nat, F = fun s => if dl z (c4 t) s = m then cw p s n else 0 := ⟨_, rfl⟩
  obtain ⟨F, hF⟩ := F
  have eC : CH z n (c4 t) p m = fb_sm F (2 ^ n) := by rw [hF]; rfl
  have hFb : ∀ s, F s ≤ 10000 := fun s => by
    have h2 := cw_le (s := s) hp n
    have h3 := ten_n hn4
    rw [hF]; simp only
    split <;> omega
  rw [eC] at q
  refine lp (σ := xg_H) (R := fun k s => R5 (nI (fb_sm F k)) (nI k) s) (fun k s => xd nm [32] h s ∧ GM Y s nm n z t ∧ ST Y s nm) 0 (2 ^ n) (Nat.zero_le _) ?_ ?_ h ⟨xd.rf, G, S⟩
  · rintro s ⟨e, Gs, Ss⟩
    exact c5 _ _ _ (bq_t (by rw [Gs.2.2.2.2.1]; exact nI_le (Nat.le_refl _) (by omega)) (q s e Gs Ss))
  · rintro k s _ hk ⟨e, Gs, Ss⟩ ih
    have hd7 := dl_le (c := c4 t) (s := k) hz
    have nxt : ∀ s2 x, xd nm [32] h s2 → GM Y s2 nm n z t → ST Y s2 nm → x = fb_sm F (k + 1) → R90 (nI x) (nI k) s2 := by
      rintro s2 x a1 a2 a3 rfl
      refine c90 _ _ _ ?_
      rintro _ rfl
      rw [nI_1]
      exact ih s2 ⟨a1, a2, a3⟩
    rw [fb_sm_succ] at nxt
    refine c5 _ _ _ (bq_f (by rw [Gs.2.2.2.2.1]; exact nI_ge hk (by omega)) ?_)
    rw [Gs.2.2.1, Gs.2.2.2.1]
    refine sp_X11_turned hz hc (by omega) ⟨nm 30, Gs.2.1, Ss.1.1, ?_⟩
    refine sp_X7_from hn Ss.1 Ss.2.1 (fun s2 e2 K2 => ?_)
    have hck : ck z (c4 t) k 4 < 4096 := ck_lt hz 4 (by decide)
    have hnc := nc_lt (c := c4 t) (s := k) hz
    rw [Nat.mod_eq_of_lt hck]
    obtain ⟨t0, t1⟩ := stp_ck (c := c4 t) (s := k) hz
    have G2 := Gs.mv e2 (by decide)
    have S2 : ST Y s2 nm := ⟨Ss.1.mv e2, K2, fun c hc => by rw [e2.i 31 (by decide)]; exact Ss.2.2 c hc⟩
    have e12 : nI (stp (ck z (c4 t) k 4)) >>> ((12 : Int32) &&& 31) = nI (dl z (c4 t) k) := by
      rcases Nat.eq_zero_or_pos (dl z (c4 t) k) with h9 | h9
      · rw [t0 h9, sh12 (by decide), h9]
      · rw [t1 h9, sh12 (by omega), show (dl z (c4 t) k * 4096 + nc z (c4 t) k) / 4096 = dl z (c4 t) k by omega]
    rw [e12]
    by_cases hdm : dl z (c4 t) k = m
    · refine bq_nf (by rw [hdm]) ?_
      refine mp_up (P := fun g => R47 (nI (fb_sm F k)) (nI k) (nI (cw p k g)) (nI g) s2) (n := n) ?_ ?_
      · refine c47 _ _ _ _ _ (bq_t (by rw [G2.2.2.2.2.2.1]; exact nI_le (Nat.le_refl _) (by omega)) ?_)
        rintro _ rfl
        rw [nI_add]
        exact nxt s2 _ (e.tr e2) G2 S2 (by rw [show F k = cw p k n by rw [hF]; simp only; rw [if_pos hdm]])
      · intro g hg ih2
        have join : ∀ u, u = (if k.testBit g then p else 10 - p) → R76 (nI (fb_sm F k)) (nI k) (nI g) (nI u) (nI (cw p k g)) s2 := by
          rintro u rfl
          refine c76 _ _ _ _ _ _ ?_
          rintro _ rfl _ rfl
          rw [pk_mul, nI_1]
          exact ih2
        refine c47 _ _ _ _ _ (bq_f (by rw [G2.2.2.2.2.2.1]; exact nI_ge hg (by omega)) (sp_X11_has (by omega) (by omega) (fun hb => ⟨fun c => absurd c (by decide), fun _ => join p (by rw [if_pos hb])⟩) (fun hb => ⟨fun _ => ?_, fun c => absurd rfl c⟩)))
        rw [nl_10, pk_sub hp]
        exact join _ (by rw [if_neg (by rw [hb]; decide)])
    · refine bq_nt (fun e9 => hdm ((nI_eq (by omega) (by omega)).mp e9)) (nxt s2 _ (e.tr e2) G2 S2 ?_)
      rw [show F k = 0 by rw [hF]; simp only; rw [if_neg hdm], Nat.add_zero]
theorem sp_X4_bestOfDuel {Y : xg_Y} {Q : Int32 → xg_H → Prop} {h : xg_H} {nm : Nat → Nat} {n l : Nat} {z t : Nat → Nat} (hn : inj nm) (G : GM Y h nm n z t) (S : ST Y h nm) (h1 : 1 ≤ l) (h4 : l ≤ 4) (q : ∀ h', xd nm [32] h h' → GM Y h' nm n z t → ST Y h' nm → Q (nI ((dm z (2 ^ n - 1) l true (c4 t)).1 * 16 + (dm z (2 ^ n - 1) l true (c4 t)).2)) h') : wp_X4_bestOfDuel Y Q (nm 35) (nI l) h := by
  have e : (if (4 : Int32) < nI l then (4 : Int32) else nI l) = nI l := if_neg (nI_nlt (a := 4) (b := l) (by omega) (by omega))
  unfold wp_X4_bestOfDuel
  refine ⟨G.1, fun z1 e1 => ?_⟩
  rw [e1, e, G.2.2.2.1]
  exact sp_X4_duelFrom (late := true) hn 6 l (c4 t) h _ h1 h4 (by omega) G S G.2.2.2.2.2.2.ok q
