/-! the class: Told: a text becomes another, is kept; text() -/
theorem xi_cp (h : xg_H) (a b sp dp n d k : Nat) : xg_i (xg_cp h a b sp dp n) d k = if d = b then (if dp ≤ k ∧ k < dp + n then xg_i h a (sp + (k - dp)) else xg_i h b k) else xg_i h d k := by
  show (if d = b then va_cpy (h.1 a) (h.1 b) sp dp n else h.1 d) k = _
  by_cases c : d = b
  · rw [if_pos c, if_pos c]; rfl
  · rw [if_neg c, if_neg c]; rfl
theorem xl_cp (h : xg_H) (a b sp dp n d k : Nat) : xg_l (xg_cp h a b sp dp n) d k = xg_l h d k := rfl
theorem xo_cp (h : xg_H) (a b sp dp n d k : Nat) : xg_o (xg_cp h a b sp dp n) d k = xg_o h d k := rfl
/-- a copy of the first n places, by names -/
theorem xd.cp {nm : Nat → Nat} (hn : inj nm) {L : List Nat} {h h2 : xg_H} {a b n : Nat} (e : xd nm L h h2) (hb : b ∈ L) : xd nm L h (xg_cp h2 (nm a) (nm b) 0 0 n) := by
  refine ⟨fun c hc j => ⟨?_, ?_⟩, fun c j => ?_⟩
  · rw [xi_cp, if_neg (fun e9 => hc (by rw [hn _ _ e9]; exact hb))]; exact (e.1 c hc j).1
  · rw [xl_cp]; exact (e.1 c hc j).2
  · rw [xo_cp]; exact e.2 c j
theorem cp_to {h : xg_H} {a b n j : Nat} (hj : j < n) : xg_i (xg_cp h a b 0 0 n) b j = xg_i h a j := by
  rw [xi_cp, if_pos rfl, if_pos ⟨Nat.zero_le j, by omega⟩, Nat.zero_add, Nat.sub_zero]
theorem cp_no {nm : Nat → Nat} (hn : inj nm) {h : xg_H} {a b c n j : Nat} (hc : c ≠ b) : xg_i (xg_cp h (nm a) (nm b) 0 0 n) (nm c) j = xg_i h (nm c) j := by
  rw [xi_cp, if_neg (fun e => hc (hn _ _ e))]
/-- a text by names -/
def TXn (Y : xg_Y) (h : xg_H) (nm : Nat → Nat) (t n n3 : Nat) : Prop := xg_is Y (nm t) 8 ∧ (xg_o h (nm t) 1 = some (nm (t + 10)) ∧ xk Y nm (t + 10) 22 n) ∧ (xg_o h (nm t) 2 = some (nm (t + 20)) ∧ xk Y nm (t + 20) 22 n) ∧ (xg_o h (nm t) 3 = some (nm (t + 30)) ∧ xk Y nm (t + 30) 22 n3)
theorem sp_become {Y : xg_Y} {Q : xg_H → Prop} {h : xg_H} {nm : Nat → Nat} {t s n n3 : Nat} (hn : inj nm) (A : TXn Y h nm t n n3) (B : TXn Y h nm s n n3) (hd : t + 31 ≤ s ∨ s + 31 ≤ t) (h1 : n < 1000) (h3 : n3 < 1000) (q : ∀ h', xd nm [t, t + 10, t + 20, t + 30] h h' → xg_i h' (nm t) 0 = xg_i h (nm s) 0 → (∀ j, j < n → xg_i h' (nm (t + 10)) j = xg_i h (nm (s + 10)) j ∧ xg_i h' (nm (t + 20)) j = xg_i h (nm (s + 20)) j) → (∀ j, j < n3 → xg_i h' (nm (t + 30)) j = xg_i h (nm (s + 30)) j) → Q h') : wp_X8_become Y Q (nm t) (some (nm s)) h := by
  obtain ⟨a0, ⟨a1, a1k⟩, ⟨a2, a2k⟩, ⟨a3, a3k⟩⟩ := A
  obtain ⟨b0, ⟨b1, b1k⟩, ⟨b2, b2k⟩, ⟨b3, b3k⟩⟩ := B
  refine sp_X8_become a0 b0 a1 a2 a3 b1 b2 b3 a1k.1 a2k.1 a3k.1 b1k.1 b2k.1 b3k.1 a1k.2 a2k.2 a3k.2 b1k.2 b2k.2 b3k.2 (by omega) (by omega) ?_
  unfold xt_bec
  have e1 : xd nm [t, t + 10, t + 20, t + 30] h (xg_ui h (nm t) 0 (xg_i h (nm s) 0)) := xd.ui hn xd.rf (by simp)
  refine q _ (xd.cp hn (xd.cp hn (xd.cp hn e1 (by simp)) (by simp)) (by simp)) ?_ (fun j hj => ⟨?_, ?_⟩) (fun j hj => ?_)
  · rw [cp_no hn (by omega), cp_no hn (by omega), cp_no hn (by omega), xi_same]
  · rw [cp_no hn (by omega), cp_no hn (by omega), cp_to hj, xu_c hn (by omega)]
  · rw [cp_no hn (by omega), cp_to hj, cp_no hn (by omega), xu_c hn (by omega)]
  · rw [cp_to hj, cp_no hn (by omega), cp_no hn (by omega), xu_c hn (by omega)]
/-- Told at b by names -/
def TLd (Y : xg_Y) (h : xg_H) (nm : Nat → Nat) (b : Nat) : Prop := xt_lay Y h (nm b) (fun i => nm (b + 1 + i))
theorem TLd.tx {Y : xg_Y} {h : xg_H} {nm : Nat → Nat} {b j : Nat} (T : TLd Y h nm b) (hj : j < 8) : xg_o h (nm (b + 3)) j = some (nm (b + 11 + j)) ∧ TXn Y h nm (b + 11 + j) (xt_room (j / 2)) (if j < 2 then 4 else 0) := by
  obtain ⟨_, _, _, _, ht⟩ := T
  obtain ⟨t0, t1, ⟨o1, k1, n1⟩, ⟨o2, k2, n2⟩, ⟨o3, k3, n3⟩⟩ := ht j hj
  have e0 : b + 1 + (10 + j) = b + 11 + j := by omega
  have e1 : b + 1 + (20 + j) = b + 11 + j + 10 := by omega
  have e2 : b + 1 + (30 + j) = b + 11 + j + 20 := by omega
  have e3 : b + 1 + (40 + j) = b + 11 + j + 30 := by omega
  dsimp only at t0 t1 o1 k1 n1 o2 k2 n2 o3 k3 n3
  rw [e0] at t0 t1 o1 o2 o3
  rw [e1] at o1 k1 n1
  rw [e2] at o2 k2 n2
  rw [e3] at o3 k3 n3
  exact ⟨t0, t1, ⟨o1, k1, n1⟩, ⟨o2, k2, n2⟩, ⟨o3, k3, n3⟩⟩
theorem TLd.o {Y : xg_Y} {h h2 : xg_H} {nm : Nat → Nat} {b : Nat} (T : TLd Y h nm b) (hb : 100 ≤ b) (e : ∀ c j, 100 ≤ c → xg_o h2 (nm c) j = xg_o h (nm c) j) : TLd Y h2 nm b := by
  obtain ⟨k, ⟨a1, a2⟩, ⟨b1, b2⟩, ⟨c1, c2⟩, ht⟩ := T
  refine ⟨k, ⟨(e b 0 hb).trans a1, a2⟩, ⟨(e b 4 hb).trans b1, b2⟩, ⟨(e b 5 hb).trans c1, c2⟩, fun j hj => ?_⟩
  obtain ⟨t0, t1, ⟨o1, r1⟩, ⟨o2, r2⟩, ⟨o3, r3⟩⟩ := ht j hj
  exact ⟨(e _ j (by omega)).trans t0, t1, ⟨(e _ 1 (by omega)).trans o1, r1⟩, ⟨(e _ 2 (by omega)).trans o2, r2⟩, ⟨(e _ 3 (by omega)).trans o3, r3⟩⟩
theorem room_b (s : Nat) : xt_room s ≤ 40 := by
  unfold xt_room; split <;> omega
theorem sp_X9_numberFor {Y : xg_Y} {Q : Int32 → xg_H → Prop} {h : xg_H} {nm : Nat → Nat} {b : Nat} {x1 x2 : Int32} (T : TLd Y h nm b) (cn : ∀ s, s < 4 → ∃ m, m ≤ 2 ∧ xg_i h (nm (b + 2)) s = nI m) (q1 : ∀ s m k, s < 4 → m ≤ 2 → x1 = nI s → xg_i h (nm (b + 2)) s = nI m → tNo m x2 k → Q (nI k) h) (q0 : (∀ s m, s < 4 → x1 = nI s → xg_i h (nm (b + 2)) s = nI m → m ≤ 2 → ∀ k, ¬ tNo m x2 k) → Q (-1) h) : wp_X9_numberFor Y Q (nm b) x1 x2 h := by
  obtain ⟨k9, _, ⟨o4, k4, n4⟩, _, _⟩ := T
  have o4 : xg_o h (nm b) 4 = some (nm (b + 2)) := o4
  have k4 : xg_is Y (nm (b + 2)) 22 := k4
  have n4 : xg_n Y (nm (b + 2)) = 4 := n4
  unfold wp_X9_numberFor
  refine ⟨k9, ?_⟩
  by_cases c0 : x1 < 0
  · exact bq_t c0 (q0 (fun s m hs ex _ _ k _ => by rw [ex] at c0; exact nI_pos (by omega) c0))
  refine bq_f c0 ?_
  by_cases c4 : x1 < 4
  · refine bq_t c4 ?_
    obtain ⟨s, hs, ex⟩ := nI_of c0
    subst ex
    have hs4 : s < 4 := Nat.lt_of_not_le (fun c => nI_nlt (b := 4) c hs c4)
    obtain ⟨m, hm, em⟩ := cn s hs4
    have un : ∀ s' m', s' < 4 → nI s = nI s' → xg_i h (nm (b + 2)) s' = nI m' → m' ≤ 2 → m' = m := fun s' m' hs' ex' em' hm' => by
      have e9 := (nI_eq (by omega) (by omega)).mp ex'
      rw [← e9, em] at em'
      exact ((nI_eq (by omega) (by omega)).mp em').symm
    by_cases xm : x2 = -1
    · refine bq_nf xm ⟨nm (b + 2), o4, k4, ?_⟩
      rw [n4, nI_clamp (by omega), em]
      refine ⟨vp_in_nI hs4 (by decide), ?_⟩
      by_cases m2 : m = 2
      · refine bq_t (by rw [m2]; decide) (q0 (fun s' m' hs' ex' em' hm' k hk => ?_))
        have := un s' m' hs' ex' em' hm'
        rcases hk with ⟨c1, c2⟩ | ⟨c1, c2, c3⟩
        · rw [c1, nl_m1, nI_eqM (by omega)] at xm
          exact xm
        · omega
      · exact bq_f (nI_ge (b := 2) (by omega) (by decide)) ⟨vp_in_nI hs4 (by decide), q1 s m m hs4 hm rfl em (Or.inr ⟨xm, by omega, rfl⟩)⟩
    · refine bq_nt xm ?_
      by_cases x0 : x2 < 0
      · refine bq_t x0 (q0 (fun s' m' hs' ex' em' hm' k hk => ?_))
        rcases hk with ⟨c1, c2⟩ | ⟨c1, c2, c3⟩
        · rw [c1] at x0; exact nI_pos (by omega) x0
        · exact xm c1
      · refine bq_f x0 ⟨nm (b + 2), o4, k4, ?_⟩
        rw [n4, nI_clamp (by omega), em]
        refine ⟨vp_in_nI hs4 (by decide), ?_⟩
        obtain ⟨k, hk, ek⟩ := nI_of x0
        rw [ek]
        by_cases km : k < m
        · exact bq_f (nI_ge km (by omega)) (q1 s m k hs4 hm rfl em (Or.inl ⟨ek, km⟩))
        · refine bq_t (nI_le (by omega) hk) (q0 (fun s' m' hs' ex' em' hm' k' hk' => ?_))
          have := un s' m' hs' ex' em' hm'
          rcases hk' with ⟨c1, c2⟩ | ⟨c1, c2, c3⟩
          · have := (nI_eq hk (by omega)).mp (ek.symm.trans c1)
            omega
          · exact xm c1
  · exact bq_f c4 (q0 (fun s m hs ex _ _ k _ => c4 (by rw [ex]; exact nI_lt (b := 4) hs (by decide))))
def lK (b s j : Nat) : List Nat := [b + 2, b + 11 + j, b + 11 + j + 10, b + 11 + j + 20, b + 11 + j + 30]
theorem sp_X9_keep {Y : xg_Y} {Q : xg_H → Prop} {h : xg_H} {nm : Nat → Nat} {b s k m t : Nat} (hn : inj nm) (T : TLd Y h nm b) (hs : s < 4) (hk : k < 2) (hm : m ≤ 2) (em : xg_i h (nm (b + 2)) s = nI m) (hkm : k ≤ m) (B : TXn Y h nm t (xt_room s) (if s = 0 then 4 else 0)) (htb : t + 31 ≤ b) (q : ∀ h', xd nm (lK b s (2 * s + k)) h h' → (∀ j, xg_i h' (nm (b + 2)) j = if j = s then nI (if k = m then m + 1 else m) else xg_i h (nm (b + 2)) j) → xg_i h' (nm (b + 11 + (2 * s + k))) 0 = xg_i h (nm t) 0 → (∀ j, j < xt_room s → xg_i h' (nm (b + 11 + (2 * s + k) + 10)) j = xg_i h (nm (t + 10)) j ∧ xg_i h' (nm (b + 11 + (2 * s + k) + 20)) j = xg_i h (nm (t + 20)) j) → (s = 0 → ∀ j, j < 4 → xg_i h' (nm (b + 11 + (2 * s + k) + 30)) j = xg_i h (nm (t + 30)) j) → Q h') : wp_X9_keep Y Q (nm b) (nI s) (nI k) (some (nm t)) h := by
  have hj : 2 * s + k < 8 := by omega
  obtain ⟨tx0, tx⟩ := T.tx hj
  have ed : (2 * s + k) / 2 = s := by omega
  have ei : (if 2 * s + k < 2 then 4 else 0) = (if s = 0 then 4 else 0) := by
    by_cases c : s = 0
    · rw [if_pos c, if_pos (by omega)]
    · rw [if_neg c, if_neg (by omega)]
  rw [ed, ei] at tx
  obtain ⟨k9, _, ⟨o4, k4, n4⟩, ⟨o5, k5, n5⟩, _⟩ := T
  have o4 : xg_o h (nm b) 4 = some (nm (b + 2)) := o4
  have k4 : xg_is Y (nm (b + 2)) 22 := k4
  have n4 : xg_n Y (nm (b + 2)) = 4 := n4
  have o5 : xg_o h (nm b) 5 = some (nm (b + 3)) := o5
  have k5 : xg_is Y (nm (b + 3)) 27 := k5
  have n5 : xg_n Y (nm (b + 3)) = 8 := n5
  have hr := room_b s
  have h34 : (if s = 0 then 4 else 0) < 1000 := by split <;> omega
  unfold wp_X9_keep
  refine ⟨k9, bq_f (nI_pos (by omega)) (bq_f (nI_ge (b := 4) hs (by decide)) (bq_f (nI_pos (by omega)) (bq_t (nI_lt (b := 2) hk (by decide)) ⟨nm (b + 3), o5, k5, ?_⟩)))⟩
  have e2 : nI s * 2 + nI k = nI (2 * s + k) := by
    rw [nl_2, pk_mul, nI_add, Nat.mul_comm]
  rw [e2, n5, nI_clamp (by omega)]
  refine ⟨vp_in_nI hj (by decide), nm (b + 11 + (2 * s + k)), tx0, tx.1, ?_⟩
  refine sp_become hn tx B (by omega) (by omega) h34 (fun h3 e3 l3 r3 p3 => ⟨nm (b + 2), (e3.2 b 4).trans o4, k4, ?_⟩)
  have c3 : ∀ j, xg_i h3 (nm (b + 2)) j = xg_i h (nm (b + 2)) j := fun j => e3.i (b + 2) (by simp <;> omega) j
  rw [n4, nI_clamp (by omega), c3, em, nI_1]
  refine ⟨vp_in_nI hs (by decide), ?_⟩
  have ez : (if nI m < nI (k + 1) then nI (k + 1) else nI m) = nI (if k = m then m + 1 else m) := by
    by_cases c : k = m
    · rw [if_pos c, if_pos (nI_lt (by omega) (by omega)), c]
    · rw [if_neg c, if_neg (nI_nlt (by omega) (by omega))]
  rw [ez]
  rintro _ rfl
  refine ⟨vp_in_nI hs (by decide), ?_⟩
  rintro _ rfl
  refine q _ (xd.ui hn (e3.mono (by unfold lK; simp)) (by unfold lK; simp)) (fun j => ?_) ?_ (fun j hj9 => ⟨?_, ?_⟩) (fun s0 j hj9 => ?_)
  · by_cases c : j = s
    · rw [if_pos c, c, xi_same]
    · rw [if_neg c, xu_p hn c]; exact c3 j
  · rw [xu_c hn (by omega)]; exact l3
  · rw [xu_c hn (by omega)]; exact (r3 j hj9).1
  · rw [xu_c hn (by omega)]; exact (r3 j hj9).2
  · rw [xu_c hn (by omega)]; exact p3 j (by rw [if_pos s0]; exact hj9)
