/-! the class: Cloth: rows of tops, facts, stops -/
/-- the row-th row of tops by numbers, the last glass's first -/
def rst (z : Nat → Nat) (row : Nat) : Nat → Nat
  | 0 => row / (z 3 + 1) / (z 2 + 1) / (z 1 + 1)
  | 1 => row / (z 3 + 1) / (z 2 + 1)
  | 2 => row / (z 3 + 1)
  | _ => row
def tpr (z : Nat → Nat) (row g : Nat) : Nat := if g < 4 then rst z row g % (z g + 1) else 0
theorem rst_s {z : Nat → Nat} {row g : Nat} (hg : g < 3) : rst z row g = rst z row (g + 1) / (z (g + 1) + 1) := by
  rcases (show g = 0 ∨ g = 1 ∨ g = 2 by omega) with e | e | e <;> subst e <;> rfl
theorem rst_le {z : Nat → Nat} {row g : Nat} : rst z row g ≤ row := by
  have a3 : row / (z 3 + 1) ≤ row := Nat.div_le_self _ _
  have a2 : row / (z 3 + 1) / (z 2 + 1) ≤ row / (z 3 + 1) := Nat.div_le_self _ _
  have a1 : row / (z 3 + 1) / (z 2 + 1) / (z 1 + 1) ≤ row / (z 3 + 1) / (z 2 + 1) := Nat.div_le_self _ _
  match g with
  | 0 => show row / (z 3 + 1) / (z 2 + 1) / (z 1 + 1) ≤ row; omega
  | 1 => show row / (z 3 + 1) / (z 2 + 1) ≤ row; omega
  | 2 => exact a3
  | g + 3 => exact Nat.le_refl row
theorem rst_top {n : Nat} {z : Nat → Nat} {row : Nat} (hn : n ≤ 4) (h1 : 1 ≤ n) (h0 : ∀ j, n ≤ j → z j = 0) : rst z row (n - 1) = row := by
  rcases (show n = 1 ∨ n = 2 ∨ n = 3 ∨ n = 4 by omega) with e | e | e | e
  · subst e
    show row / (z 3 + 1) / (z 2 + 1) / (z 1 + 1) = row
    rw [h0 3 (by decide), h0 2 (by decide), h0 1 (by decide), Nat.div_one, Nat.div_one, Nat.div_one]
  · subst e
    show row / (z 3 + 1) / (z 2 + 1) = row
    rw [h0 3 (by decide), h0 2 (by decide), Nat.div_one, Nat.div_one]
  · subst e
    show row / (z 3 + 1) = row
    rw [h0 3 (by decide), Nat.div_one]
  · subst e
    rfl
theorem tpr_le {z : Nat → Nat} {row g : Nat} : tpr z row g ≤ z g := by
  unfold tpr
  by_cases h : g < 4
  · rw [if_pos h]; have := Nat.mod_lt (rst z row g) (show 0 < z g + 1 by omega); omega
  · rw [if_neg h]; exact Nat.zero_le _
theorem sp_X2_layOut {Y : xg_Y} {Q : xg_H → Prop} {h : xg_H} {nm : Nat → Nat} {tx dx n m row : Nat} {z t pr kd yy : Nat → Nat} (hn : inj nm) (X : XQ Y h nm tx dx n m z t pr kd yy) (hrow : row < 4096) (q : ∀ h', xd nm [22] h h' → (∀ g, g < n → xg_i h' (nm 22) g = nI (tpr z row g)) → Q h') : wp_X2_layOut Y Q (nm 20) (nI row) h := by
  have X0 := X
  obtain ⟨C, o12, o13, S, D, H⟩ := X
  have hn4 := H.1
  unfold wp_X2_layOut
  refine ⟨C.1, fun R12 c12 => ⟨nm tx, o12, S.1, ?_⟩⟩
  rw [S.2.2.2.2.1]
  rintro _ rfl
  have key : ∀ k, k ≤ n → ∀ rest s, (1 ≤ k → rest = rst z row (k - 1)) → rest < 5000 → xd nm [22] h s → (∀ g, k ≤ g → g < n → xg_i s (nm 22) g = nI (tpr z row g)) → R12 (nI rest) (nI k - 1) s := by
    intro k
    induction k with
    | zero => exact fun _ rest s _ _ e hg => c12 _ _ _ (bq_t (by decide) (q s e (fun g hg2 => hg g (Nat.zero_le g) hg2)))
    | succ k ih =>
      intro hk rest s hr hr5 e hg
      have hr := hr (by omega)
      rw [Nat.add_sub_cancel] at hr
      have Ss := S.mx e (fun c hc => by rw [List.mem_singleton.mp hc]; decide)
      have hz := H.2.1 k (by omega)
      rw [nI_pred]
      refine c12 _ _ _ (bq_f (nI_pos (by omega)) ⟨nm tx, (e.2 _ _).trans o12, Ss.1, nm (tx + 10), Ss.2.1.1, Ss.2.1.2.1, ?_⟩)
      rw [Ss.2.1.2.2, nI_clamp (by omega), (Ss.2.2.2.2.2.1 k (by omega)).1, nI_1]
      refine ⟨vp_in_nI (by omega) (by decide), ?_⟩
      have ez1 : (if 1 < nI (z k + 1) then nI (z k + 1) else 1) = nI (z k + 1) := if_pos (nI_lt (a := 1) (b := z k + 1) (by omega) (by omega))
      rw [ez1]
      rintro _ rfl
      refine ⟨nI_ne0 (by omega) (by omega), nm 22, (e.2 _ _).trans C.2.2.1.1, C.2.2.1.2.1, ?_⟩
      rw [C.2.2.1.2.2, pk_rem (by omega) (by omega) (by omega), pk_div (by omega) (by omega) (by omega)]
      refine ⟨vp_in_nI (by omega) (by decide), ?_⟩
      rintro _ rfl
      refine ⟨nI_ne0 (by omega) (by omega), ?_⟩
      rintro _ rfl _ rfl
      have e9 : nI k + -1 = nI k - 1 := by rw [Int32.sub_eq_add_neg]
      rw [e9]
      refine ih (by omega) _ _ (fun h1 => ?_) (Nat.lt_of_le_of_lt (Nat.div_le_self _ _) hr5) (xd.ui hn e (List.mem_singleton_self 22)) (fun g h1 h2 => ?_)
      · rw [hr, rst_s (g := k - 1) (by omega), show k - 1 + 1 = k by omega]
      · by_cases ek : g = k
        · rw [ek, xi_same, hr]
          unfold tpr
          rw [if_pos (show k < 4 by omega)]
        · rw [xu_p hn ek]; exact hg g (by omega) h2
  refine key n (Nat.le_refl n) row h (fun h1 => (rst_top hn4 h1 (fun j hj => (H.2.2 j hj).1)).symm) (by omega) xd.rf (fun g h1 h2 => by omega)
/-- a log as a text of the class; 9: nobody -/
def glI (v : Nat) : Int32 := if v = 9 then nM else nI v
def XL (Y : xg_Y) (h : xg_H) (nm : Nat → Nat) (lx c : Nat) (mi gl : Nat → Nat) : Prop := xg_is Y (nm lx) 8 ∧ (xg_o h (nm lx) 1 = some (nm (lx + 10)) ∧ xk Y nm (lx + 10) 22 8) ∧ (xg_o h (nm lx) 2 = some (nm (lx + 20)) ∧ xk Y nm (lx + 20) 22 8) ∧ xg_i h (nm lx) 0 = nI c ∧ c ≤ 8 ∧ (∀ j, j < c → xg_i h (nm (lx + 10)) j = nI (mi j) ∧ xg_i h (nm (lx + 20)) j = glI (gl j) ∧ 1 ≤ mi j ∧ mi j ≤ 40 ∧ (gl j ≤ 3 ∨ gl j = 9)) ∧ 100 ≤ lx ∧ lx < 400
theorem XL.mv {Y : xg_Y} {h h2 : xg_H} {nm : Nat → Nat} {lx c : Nat} {mi gl : Nat → Nat} {L : List Nat} (a : XL Y h nm lx c mi gl) (e : xd nm L h h2) (hL : ∀ c, c ∈ L → c < 100) : XL Y h2 nm lx c mi gl := by
  obtain ⟨a1, a2, a3, a4, a5, a6, a7, a8⟩ := a
  have E : ∀ c, 100 ≤ c → ∀ j, xg_i h2 (nm c) j = xg_i h (nm c) j := fun c h1 j => e.i c (fun hc => by have := hL c hc; omega) j
  refine ⟨a1, ⟨(e.2 _ _).trans a2.1, a2.2⟩, ⟨(e.2 _ _).trans a3.1, a3.2⟩, (E lx (by omega) 0).trans a4, a5, fun j hj => ?_, a7, a8⟩
  rw [E _ (by omega), E _ (by omega)]
  exact a6 j hj
/-- what the facts ask for, of the first k -/
def MF (h : xg_H) (nm : Nat → Nat) (n k : Nat) (mi gl : Nat → Nat) : Prop := (∀ g, g < 4 → isL6 (xg_l h (nm 27) g) (fun i => g < n ∧ ∃ j, j < k ∧ gl j = g ∧ mi j = i)) ∧ isL6 (xg_l h (nm 20) 9) (fun i => ∃ j, j < k ∧ gl j = 9 ∧ mi j = i) ∧ ((xg_i h (nm 20) 10 = 0 ∧ ¬ ∃ j, j < k ∧ gl j ≠ 9 ∧ n ≤ gl j) ∨ (xg_i h (nm 20) 10 = 1 ∧ ∃ j, j < k ∧ gl j ≠ 9 ∧ n ≤ gl j))
theorem l2027 : ∀ c : Nat, c ∈ [20, 27] → c < 100 := fun c h => by simp at h <;> omega
set_option maxHeartbeats 1000000 in
theorem sp_X2_readFacts {Y : xg_Y} {Q : xg_H → Prop} {h : xg_H} {nm : Nat → Nat} {tx dx lx n m c : Nat} {z t pr kd yy mi gl : Nat → Nat} (hn : inj nm) (X : XQ Y h nm tx dx n m z t pr kd yy) (L : XL Y h nm lx c mi gl) (q : ∀ h', xd nm [20, 27] h h' → (∀ j, j ≠ 10 → xg_i h' (nm 20) j = xg_i h (nm 20) j) → MF h' nm n c mi gl → Q h') : wp_X2_readFacts Y Q (nm 20) (some (nm lx)) h := by
  have X0 := X
  obtain ⟨C, o12, o13, S, D, H⟩ := X
  have hn4 := H.1
  have k27 := C.2.2.2.2.2.2.2.2
  have hc8 := L.2.2.2.2.1
  unfold wp_X2_readFacts
  refine ⟨C.1, fun R20 R93 R98 c20 c93 c98 => ?_⟩
  rw [C.2.2.2.2.2.2.2.1]
  refine sp_fillL (c := 27) hn k27 (by decide) (fun h1 e1 p1 => ?_)
  rintro _ rfl _ rfl
  have e3 : xd nm [20, 27] h (xg_ui (xg_ul h1 (nm 20) 9 0) (nm 20) 10 0) := xd.ui hn (xd.ul hn (e1.mono (by simp)) (by simp)) (by simp)
  refine lp (σ := xg_H) (R := fun k s => R20 (nI k) s) (fun k s => xd nm [20, 27] h s ∧ (∀ j, j ≠ 10 → xg_i s (nm 20) j = xg_i h (nm 20) j) ∧ MF s nm n k mi gl) 0 c (Nat.zero_le c) ?_ ?_ _ ⟨e3, fun j hj => by rw [xu_p hn hj, xi_ul]; exact e1.i 20 (by decide) j, fun g hg => ?_, ?_, Or.inl ⟨xi_same, fun ⟨j, hj, _⟩ => absurd hj (Nat.not_lt_zero j)⟩⟩
  · rintro s ⟨e, k20, M⟩
    have Ls := L.mv e l2027
    refine c20 _ _ ⟨nm lx, rfl, Ls.1, ?_⟩
    rw [Ls.2.2.2.1]
    exact bq_t (nI_le (Nat.le_refl c) (by omega)) (q s e k20 M)
  · rintro k s _ hk ⟨e, k20, M⟩ ih
    have Ls := L.mv e l2027
    have Ss := S.mx e l2027
    obtain ⟨f1, f2, f3, f4, f5⟩ := Ls.2.2.2.2.2.1 k hk
    obtain ⟨M1, M2, M3⟩ := M
    have next : ∀ s2, xd nm [20, 27] h s2 → (∀ j, j ≠ 10 → xg_i s2 (nm 20) j = xg_i h (nm 20) j) → MF s2 nm n (k + 1) mi gl → R98 (nI k) s2 := fun s2 e2 k2 M2 => by
      refine c98 _ _ ?_
      rintro _ rfl
      rw [nI_1]
      exact ih s2 ⟨e2, k2, M2⟩
    have ex : ∀ P : Nat → Prop, (∃ j, j < k + 1 ∧ P j) ↔ ((∃ j, j < k ∧ P j) ∨ P k) := fun P => ⟨fun ⟨j, hj, hp⟩ => by
      rcases Nat.lt_or_ge j k with h9 | h9
      · exact Or.inl ⟨j, h9, hp⟩
      · rw [show j = k by omega] at hp; exact Or.inr hp, fun c => c.elim (fun ⟨j, hj, hp⟩ => ⟨j, by omega, hp⟩) (fun hp => ⟨k, by omega, hp⟩)⟩
    refine c20 _ _ ⟨nm lx, rfl, Ls.1, ?_⟩
    rw [Ls.2.2.2.1]
    refine bq_f (nI_ge hk (by omega)) ⟨nm (lx + 20), Ls.2.2.1.1, Ls.2.2.1.2.1, ?_⟩
    rw [Ls.2.2.1.2.2, nI_clamp (by omega), f2]
    refine ⟨vp_in_nI (by omega) (by decide), ?_⟩
    rintro _ rfl
    refine ⟨nm (lx + 10), Ls.2.1.1, Ls.2.1.2.1, ?_⟩
    rw [Ls.2.1.2.2, f1]
    refine ⟨vp_in_nI (by omega) (by decide), ?_⟩
    rintro _ rfl
    have hbit := isL6_bit (k := mi k) (by omega)
    by_cases g9 : gl k = 9
    · have eg : glI (gl k) = nM := if_pos g9
      rw [eg]
      refine bq_nf rfl ?_
      rintro _ rfl
      refine next _ (xd.ul hn e (by simp)) (fun j hj => by rw [xi_ul]; exact k20 j hj) ⟨fun g hg => ?_, ?_, ?_⟩
      · rw [xv hn, if_neg (by omega)]
        refine (M1 g hg).congr (fun i => and_congr_right (fun _ => ?_))
        rw [ex]
        exact ⟨Or.inl, fun c => c.elim id (fun c => by omega)⟩
      · rw [xv hn, if_pos ⟨rfl, rfl⟩]
        refine (isL6_or M2 hbit).congr (fun i => ?_)
        rw [ex]
        exact or_congr Iff.rfl ⟨fun c => ⟨g9, c.symm⟩, fun c => c.2.symm⟩
      · rw [xi_ul, ex]
        refine M3.imp (fun c => ⟨c.1, fun c2 => c2.elim c.2 (fun c2 => c2.1 g9)⟩) (fun c => ⟨c.1, Or.inl c.2⟩)
    · have eg : glI (gl k) = nI (gl k) := if_neg g9
      have hg3 : gl k ≤ 3 := f5.elim id (fun c => absurd c g9)
      rw [eg]
      refine bq_nt (by rw [nl_m1, nI_eqM (by omega)]; exact id) (bq_f (nI_pos (by omega)) ⟨nm tx, (e.2 _ _).trans o12, Ss.1, ?_⟩)
      rw [Ss.2.2.2.2.1]
      by_cases gn : gl k < n
      · refine bq_f (nI_ge gn (by omega)) ⟨nm 27, (e.2 _ _).trans C.2.2.2.2.2.2.2.1, k27.1, ?_⟩
        rw [k27.2, nI_clamp (by omega)]
        refine ⟨vp_in_nI (by omega) (by decide), vp_in_nI (by omega) (by decide), ?_⟩
        rintro _ rfl
        refine next _ (xd.ul hn e (by simp)) (fun j hj => by rw [xi_ul]; exact k20 j hj) ⟨fun g hg => ?_, ?_, ?_⟩
        · rw [xv hn]
          by_cases e2 : g = gl k
          · rw [if_pos ⟨rfl, e2⟩, ← e2]
            refine (isL6_or (M1 g hg) hbit).congr (fun i => ?_)
            constructor
            · intro c
              rcases c with ⟨c1, j, c2, c3⟩ | c
              · exact ⟨c1, j, by omega, c3⟩
              · exact ⟨by omega, k, by omega, e2.symm, c.symm⟩
            · rintro ⟨c1, c2⟩
              rcases (ex _).mp c2 with c3 | c3
              · exact Or.inl ⟨c1, c3⟩
              · exact Or.inr c3.2.symm
          · rw [if_neg (fun c => e2 c.2)]
            refine (M1 g hg).congr (fun i => and_congr_right (fun _ => ?_))
            rw [ex]
            exact ⟨Or.inl, fun c => c.elim id (fun c => absurd c.1.symm e2)⟩
        · rw [xv hn, if_neg (by omega)]
          refine M2.congr (fun i => ?_)
          rw [ex]
          exact ⟨Or.inl, fun c => c.elim id (fun c => absurd c.1 g9)⟩
        · rw [xi_ul, ex]
          refine M3.imp (fun c => ⟨c.1, fun c2 => c2.elim c.2 (fun c2 => by omega)⟩) (fun c => ⟨c.1, Or.inl c.2⟩)
      · refine bq_t (nI_le (by omega) (by omega)) (c93 _ _ ?_)
        rintro _ rfl
        refine next _ (xd.ui hn e (by simp)) (fun j hj => by rw [xu_p hn hj]; exact k20 j hj) ⟨fun g hg => ?_, ?_, Or.inr ⟨xi_same, k, by omega, g9, by omega⟩⟩
        · rw [xl_ui]
          refine (M1 g hg).congr (fun i => ?_)
          constructor
          · rintro ⟨c1, j, c2, c3⟩; exact ⟨c1, j, by omega, c3⟩
          · rintro ⟨c1, c2⟩
            rcases (ex _).mp c2 with c3 | c3
            · exact ⟨c1, c3⟩
            · omega
        · rw [xl_ui]
          refine M2.congr (fun i => ?_)
          rw [ex]
          exact ⟨Or.inl, fun c => c.elim id (fun c => absurd c.1 g9)⟩
  · rw [xl_ui, xv hn, if_neg (by omega), p1 g, if_pos hg]
    exact isL6_0 (fun i c => by obtain ⟨_, j, hj, _⟩ := c; exact absurd hj (Nat.not_lt_zero j))
  · rw [xl_ui, xv hn, if_pos ⟨rfl, rfl⟩]
    exact isL6_0 (fun i c => by obtain ⟨j, hj, _⟩ := c; exact absurd hj (Nat.not_lt_zero j))
theorem isF_min {P P' : Nat → Prop} {m a b : Nat} (h : isF P m a) (h' : isF P' m b) : isF (fun k => P k ∨ P' k) m (min a b) := by
  obtain ⟨h1, h2, h3⟩ := h
  obtain ⟨g1, g2, g3⟩ := h'
  refine ⟨by omega, fun i hi c => c.elim (h2 i (by omega)) (g2 i (by omega)), fun hm => ?_⟩
  by_cases e : a ≤ b
  · rw [Nat.min_eq_left e] at hm ⊢; exact Or.inl (h3 hm)
  · rw [Nat.min_eq_right (by omega)] at hm ⊢; exact Or.inr (g3 hm)
theorem isF_congr {P P' : Nat → Prop} {m a : Nat} (h : isF P m a) (e : ∀ k, P k ↔ P' k) : isF P' m a := ⟨h.1, fun i hi c => h.2.1 i hi ((e i).mpr c), fun hm => (e a).mp (h.2.2 hm)⟩
/-- the stops as they are found -/
def SPv (h : xg_H) (nm : Nat → Nat) (n m : Nat) (z kd yy : Nat → Nat) (g tp : Nat) : Prop := ∃ v, xg_i h (nm 23) (g * 8 + tp) = nI v ∧ isF (fun k => shP n kd yy k ∨ owP g kd yy (h0 (z g) tp) k) m v
theorem l2123 : ∀ c : Nat, c ∈ [21, 23] → c < 100 := fun c h => by simp at h <;> omega
theorem mnr_I {a b : Nat} (ha : a < 2 ^ 31) (hb : b < 2 ^ 31) : (if nI b < nI a then nI b else nI a) = nI (min a b) := by
  by_cases g : b < a
  · rw [if_pos (nI_lt g ha), Nat.min_eq_right (by omega)]
  · rw [if_neg (nI_nlt (by omega) hb), Nat.min_eq_left (by omega)]
theorem sp_X2_findStops {Y : xg_Y} {Q : xg_H → Prop} {h : xg_H} {nm : Nat → Nat} {tx dx n m : Nat} {z t pr kd yy : Nat → Nat} (hn : inj nm) (X : XQ Y h nm tx dx n m z t pr kd yy) (q : ∀ h', xd nm [21, 23] h h' → (∀ g tp, g < n → tp ≤ z g → SPv h' nm n m z kd yy g tp) → Q h') : wp_X2_findStops Y Q (nm 20) h := by
  have X0 := X
  have hm40 := X.2.2.2.2.1.2.2.2.2.1
  obtain ⟨C, o12, o13, S, D, H⟩ := X
  have hn4 := H.1
  have k23 := C.2.2.2.1.2
  unfold wp_X2_findStops
  refine ⟨C.1, fun R7 R20 R66 c7 c20 c66 => sp_X2_sharedStop X0 (fun v0 F0 => ?_)⟩
  have hv0 := F0.1
  refine lp (σ := xg_H) (R := fun g s => R7 (nI v0) (nI g) s) (fun g s => xd nm [21, 23] h s ∧ ∀ g' tp, g' < g → tp ≤ z g' → SPv s nm n m z kd yy g' tp) 0 n (Nat.zero_le n) ?_ ?_ h ⟨xd.rf, fun g' tp hg => absurd hg (Nat.not_lt_zero g')⟩
  · rintro s ⟨e, hs⟩
    have Xs := X0.mv e l2123
    refine c7 _ _ _ ⟨nm tx, Xs.2.1, Xs.2.2.2.1.1, ?_⟩
    rw [Xs.2.2.2.1.2.2.2.2.1]
    exact bq_t (nI_le (Nat.le_refl n) (by omega)) (q s e hs)
  · rintro g s _ hg ⟨e, hs⟩ ih
    have Xs := X0.mv e l2123
    have hz := H.2.1 g hg
    refine c7 _ _ _ ⟨nm tx, Xs.2.1, Xs.2.2.2.1.1, ?_⟩
    rw [Xs.2.2.2.1.2.2.2.2.1]
    refine bq_f (nI_ge hg (by omega)) ?_
    refine lp (σ := xg_H) (R := fun tp s2 => R20 (nI v0) (nI g) (nI tp) s2) (fun tp s2 => xd nm [21, 23] h s2 ∧ (∀ g' tp', g' < g → tp' ≤ z g' → SPv s2 nm n m z kd yy g' tp') ∧ ∀ tp', tp' < tp → SPv s2 nm n m z kd yy g tp') 0 (z g + 1) (Nat.zero_le _) ?_ ?_ s ⟨e, hs, fun tp' h9 => absurd h9 (Nat.not_lt_zero tp')⟩
    · rintro s2 ⟨e2, hs2, ht2⟩
      have X2 := X0.mv e2 l2123
      have hs3 := X2.2.2.2.1
      refine c20 _ _ _ _ ⟨nm tx, X2.2.1, hs3.1, nm (tx + 10), hs3.2.1.1, hs3.2.1.2.1, ?_⟩
      rw [hs3.2.1.2.2, nI_clamp (by omega), (hs3.2.2.2.2.2.1 g hg).1]
      refine ⟨vp_in_nI (by omega) (by decide), bq_t (nI_lt (by omega) (by omega)) (c66 _ _ _ ?_)⟩
      rintro _ rfl
      rw [nI_1]
      refine ih s2 ⟨e2, fun g' tp' h1 h2 => ?_⟩
      rcases Nat.lt_or_ge g' g with h9 | h9
      · exact hs2 g' tp' h9 h2
      · have e9 : g' = g := by omega
        subst e9
        exact ht2 tp' (by omega)
    · rintro tp s2 _ htp ⟨e2, hs2, ht2⟩ ih2
      have X2 := X0.mv e2 l2123
      have hs3 := X2.2.2.2.1
      refine c20 _ _ _ _ ⟨nm tx, X2.2.1, hs3.1, nm (tx + 10), hs3.2.1.1, hs3.2.1.2.1, ?_⟩
      rw [hs3.2.1.2.2, nI_clamp (by omega), (hs3.2.2.2.2.2.1 g hg).1]
      refine ⟨vp_in_nI (by omega) (by decide), bq_f (nI_nlt (by omega) (by omega)) (bq_f (nI_ge (b := 8) (by omega) (by decide)) ?_)⟩
      refine sp_X2_ownStop hn X2 hg (by omega) (fun v1 s3 e3 F1 => ?_)
      have hv1 := F1.1
      rw [mnr_I (by omega) (by omega)]
      rintro _ rfl
      refine ⟨nm 23, (e2.2 _ _).trans C.2.2.2.1.1, k23.1, ?_⟩
      rw [k23.2, nl_8, pk_mul, nI_add, nI_clamp (by omega)]
      refine ⟨vp_in_nI (by omega) (by decide), ?_⟩
      rintro _ rfl _ rfl
      rw [nI_1]
      have keep : ∀ g' tp', g' < n → tp' ≤ z g' → (g' ≠ g ∨ tp' ≠ tp) → SPv s2 nm n m z kd yy g' tp' → SPv (xg_ui s3 (nm 23) (g * 8 + tp) (nI (min v0 v1))) nm n m z kd yy g' tp' := by
        intro g' tp' h1 h2 h3 ⟨v, a1, a2⟩
        have hz' := H.2.1 g' h1
        exact ⟨v, by rw [xu_p hn (by omega), e3.i 23 (by decide)]; exact a1, a2⟩
      refine ih2 _ ⟨xd.ui hn (e2.tr (e3.mono (by simp))) (by simp), fun g' tp' h1 h2 => keep g' tp' (by omega) h2 (Or.inl (by omega)) (hs2 g' tp' h1 h2), fun tp' h1 => ?_⟩
      rcases Nat.lt_or_ge tp' tp with h9 | h9
      · exact keep g tp' hg (by omega) (Or.inr (by omega)) (ht2 tp' h9)
      · have e9 : tp' = tp := by omega
        subst e9
        exact ⟨min v0 v1, xi_same, isF_min F0 F1⟩
