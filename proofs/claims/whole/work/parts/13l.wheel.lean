/-! reference: the wheel -/
theorem sp_wheelBy {Q : Int32 → mg_H → Prop} {h : mg_H} {n : Nat} {z t : Nat → Nat} {x1 : Int32} (SHh : SH n z t) (HH : HS h z (2 ^ n - 1) (c4 t)) (q : ∀ v1 v2 v3 h', md [47, 48] [39] h h' → WH z (2 ^ n - 1) (c4 t) v1 v2 v3 → Q (if x1 = 1 then v1 else if x1 = 2 then v2 else v3) h') : wp_wheelBy Q x1 h := by
  have hz := SHh.zok
  have hc0 := SHh.ok
  have hm := SHh.m
  unfold wp_wheelBy
  intro R2 R32 c2 c32
  refine lp (σ := mg_H) (R := fun k s => R2 (nI k) s) (fun k s => md [47, 48] [39] h s ∧ ∀ x, x < k → mg_i s 47 x = nM) 0 4096 (Nat.zero_le _) ?_ ?_ h ⟨md.rf, fun x hx => absurd hx (Nat.not_lt_zero x)⟩
  · rintro s0 ⟨e0, k0⟩
    refine c2 _ _ (bq_t (by decide) ?_)
    rintro _ rfl
    rw [(e0.2 26 (by decide)).trans HH.2.2]
    refine lp (σ := mg_H) (R := fun i s => R32 (nI i) (nI (fc z (2 ^ n - 1) (c4 t) i)) (nI (ft z (2 ^ n - 1) (c4 t) i)) s) (fun i s => md [47, 48] [39] h s ∧ (i = 0 ∨ 0 < dl z (c4 t) (2 ^ n - 1)) ∧ (∀ a b, a < b → b < i → fc z (2 ^ n - 1) (c4 t) a ≠ fc z (2 ^ n - 1) (c4 t) b) ∧ (∀ c, c < 4096 → (mg_i s 47 c = nM ∧ ∀ j, j < i → fc z (2 ^ n - 1) (c4 t) j ≠ c) ∨ ∃ j, j < i ∧ fc z (2 ^ n - 1) (c4 t) j = c ∧ mg_i s 47 c = nI j) ∧ ∀ j, j < i → mg_i s 48 j = nI (ft z (2 ^ n - 1) (c4 t) j)) 0 4097 (Nat.zero_le _) ?_ ?_ s0 ⟨e0, Or.inl rfl, fun a b _ hb => absurd hb (Nat.not_lt_zero b), fun c hc => Or.inl ⟨k0 c hc, fun j hj => absurd hj (Nat.not_lt_zero j)⟩, fun j hj => absurd hj (Nat.not_lt_zero j)⟩
    · rintro s ⟨_, _, hno, _⟩
      obtain ⟨i, p, h1, h2, h3⟩ := fc_twice (m := 2 ^ n - 1) hz hc0
      exact absurd h3 (hno i (i + p) (by omega) (by omega))
    · rintro i s _ hi ⟨e, hd, hno, h47, h48⟩ ih
      have hok := fc_ok (m := 2 ^ n - 1) hz hc0 i
      have hfi := hok.1
      have hft := ft_le (m := 2 ^ n - 1) (c0 := c4 t) hz i
      refine c32 _ _ _ _ ?_
      rw [nI_clamp (n := fc z (2 ^ n - 1) (c4 t) i) (by omega)]
      refine ⟨vp_in_nI (show fc z (2 ^ n - 1) (c4 t) i < 4096 from hfi) (by decide), fun hne => ⟨vp_in_nI (show fc z (2 ^ n - 1) (c4 t) i < 4096 from hfi) (by decide), ?_⟩, fun he => ⟨vp_in_nI (show fc z (2 ^ n - 1) (c4 t) i < 4096 from hfi) (by decide), ?_⟩⟩
      · rcases h47 _ hfi with ⟨e9, _⟩ | ⟨j, hj, ej, e9⟩
        · exact absurd e9 hne
        · rintro _ rfl
          have hd0 : 0 < dl z (c4 t) (2 ^ n - 1) := hd.elim (fun h => by omega) id
          have hfj := ft_le (m := 2 ^ n - 1) (c0 := c4 t) hz j
          have hmo := ft_mono SHh hc0 hd0 (i := j) (i - j)
          rw [show j + (i - j) = i by omega] at hmo
          have W : WH z (2 ^ n - 1) (c4 t) (nI j) (nI (i - j)) (nI (ft z (2 ^ n - 1) (c4 t) i - ft z (2 ^ n - 1) (c4 t) j)) := Or.inr ⟨hd0, j, i - j, by omega, by rw [show j + (i - j) = i by omega]; exact ej, fun a b h1 h2 => hno a b h1 (by omega), rfl, rfl, by rw [show j + (i - j) = i by omega]⟩
          have F := q _ _ _ s e W
          rw [e9]
          refine ⟨fun n1 => ⟨fun n2 => ?_, fun y2 => ?_⟩, fun y1 => ?_⟩
          · rw [if_neg n1, if_neg n2] at F
            rw [nI_clamp (by omega), h48 j hj, pk_sub (by omega)]
            exact ⟨vp_in_nI (show j < 4097 by omega) (by decide), F⟩
          · rw [if_neg n1, if_pos y2] at F
            rw [pk_sub (by omega)]; exact F
          · rw [if_pos y1] at F
            exact F
      · have new : ∀ j, j < i → fc z (2 ^ n - 1) (c4 t) j ≠ fc z (2 ^ n - 1) (c4 t) i := by
          rcases h47 _ hfi with ⟨_, e9⟩ | ⟨j, hj, ej, e9⟩
          · exact e9
          · rw [e9, nl_m1, nI_eqM (by omega)] at he
            exact he.elim
        rintro _ rfl
        rw [nI_clamp (n := i) (by omega)]
        refine ⟨vp_in_nI (show i < 4097 from hi) (by decide), ?_⟩
        rintro _ rfl _ rfl
        have e2 : md [47, 48] [39] h (mg_ui (mg_ui s 47 (fc z (2 ^ n - 1) (c4 t) i) (nI i)) 48 i (nI (ft z (2 ^ n - 1) (c4 t) i))) := (e.ui (by decide) (by decide)).ui (by decide) (by decide)
        have k47 : ∀ c, c < 4096 → (mg_i (mg_ui (mg_ui s 47 (fc z (2 ^ n - 1) (c4 t) i) (nI i)) 48 i (nI (ft z (2 ^ n - 1) (c4 t) i))) 47 c = nM ∧ ∀ j, j < i + 1 → fc z (2 ^ n - 1) (c4 t) j ≠ c) ∨ ∃ j, j < i + 1 ∧ fc z (2 ^ n - 1) (c4 t) j = c ∧ mg_i (mg_ui (mg_ui s 47 (fc z (2 ^ n - 1) (c4 t) i) (nI i)) 48 i (nI (ft z (2 ^ n - 1) (c4 t) i))) 47 c = nI j := by
          intro c hc
          rw [mi_cell (by decide)]
          by_cases ec : c = fc z (2 ^ n - 1) (c4 t) i
          · exact Or.inr ⟨i, by omega, ec.symm, by rw [ec, mi_same]⟩
          · rw [mi_place ec]
            rcases h47 c hc with ⟨a, b⟩ | ⟨j, hj, a, b⟩
            · refine Or.inl ⟨a, fun j hj => ?_⟩
              rcases Nat.lt_or_ge j i with h9 | h9
              · exact b j h9
              · rw [show j = i by omega]; exact fun c9 => ec c9.symm
            · exact Or.inr ⟨j, by omega, a, b⟩
        have k48 : ∀ j, j < i + 1 → mg_i (mg_ui (mg_ui s 47 (fc z (2 ^ n - 1) (c4 t) i) (nI i)) 48 i (nI (ft z (2 ^ n - 1) (c4 t) i))) 48 j = nI (ft z (2 ^ n - 1) (c4 t) j) := by
          intro j hj
          by_cases ej : j = i
          · rw [ej, mi_same]
          · rw [mi_place ej, mi_cell (by decide)]
            exact h48 j (by omega)
        revert e2 k47 k48
        generalize mg_ui (mg_ui s 47 (fc z (2 ^ n - 1) (c4 t) i) (nI i)) 48 i (nI (ft z (2 ^ n - 1) (c4 t) i)) = s2
        intro e2 k47 k48
        rw [(e2.2 25 (by decide)).trans HH.2.1]
        have hd7 := dl_le (z := z) (c := fc z (2 ^ n - 1) (c4 t) i) (s := 2 ^ n - 1) hz
        refine sp_next hz (fun l hl => (e2.1 27 (by decide) (by decide) l).trans (HH.1 l hl)) hok hm (fun d0 => bq_nf rfl ?_) (fun d0 => bq_nt (fun e9 => by have := (nI_eq (a := dl z (fc z (2 ^ n - 1) (c4 t) i) (2 ^ n - 1)) (b := 0) (by omega) (by decide)).mp e9; omega) ?_)
        · have hd0 : dl z (c4 t) (2 ^ n - 1) = 0 := by
            rcases Nat.eq_zero_or_pos (dl z (c4 t) (2 ^ n - 1)) with h9 | h9
            · exact h9
            · have := dl_all SHh hc0 h9 i
              omega
          have F := q nM nM nM s2 e2 (Or.inl ⟨hd0, rfl, rfl, rfl⟩)
          have e9 : (if x1 = 1 then nM else if x1 = 2 then nM else nM) = nM := by rw [ite_self, ite_self]
          rw [e9] at F
          exact F
        · rintro _ rfl _ rfl
          rw [nI_add, nI_1, mi_same]
          refine ih _ ⟨e2.u0 (by decide), Or.inr ?_, fun a b h1 h2 => ?_, fun c hc => ?_, fun j hj => ?_⟩
          · rcases hd with rfl | hd
            · exact d0
            · exact hd
          · rcases Nat.lt_or_ge b i with h9 | h9
            · exact hno a b h1 h9
            · rw [show b = i by omega]; exact new a (by omega)
          · rw [mi_cell (by decide)]; exact k47 c hc
          · rw [mi_cell (by decide)]; exact k48 j hj
  · rintro i s _ hi ⟨e, hs⟩ ih
    refine c2 _ _ (bq_f (nI_ge hi (by decide)) ?_)
    rw [nI_clamp (by omega)]
    refine ⟨vp_in_nI (show i < 4096 from hi) (by decide), ?_⟩
    rintro _ rfl _ rfl
    rw [nI_1]
    refine ih _ ⟨e.ui (by decide) (by decide), fun x hx => ?_⟩
    by_cases e9 : x = i
    · subst e9; exact mi_same
    · rw [mi_place e9]; exact hs x (by omega)
/-- wheel 0: all at once; 1, 2, 3: the round -/
def WHL (n : Nat) (z t : Nat → Nat) (w v : Int32) : Prop := (w = 0 → isB v (AO z (2 ^ n - 1) (c4 t) n)) ∧ (w = nI 1 → ∃ v2 v3, WH z (2 ^ n - 1) (c4 t) v v2 v3) ∧ (w = nI 2 → ∃ v1 v3, WH z (2 ^ n - 1) (c4 t) v1 v v3) ∧ (w = nI 3 → ∃ v1 v2, WH z (2 ^ n - 1) (c4 t) v1 v2 v)
theorem WHL_one {n k : Nat} {z t : Nat → Nat} {v v' : Int32} (hk : k ≤ 3) (h : WHL n z t (nI k) v) (h' : WHL n z t (nI k) v') : v = v' := by
  obtain ⟨a0, a1, a2, a3⟩ := h
  obtain ⟨b0, b1, b2, b3⟩ := h'
  rcases (show k = 0 ∨ k = 1 ∨ k = 2 ∨ k = 3 by omega) with rfl | rfl | rfl | rfl
  · exact isB_one (a0 rfl) (b0 rfl) (fun _ => Iff.rfl)
  · obtain ⟨_, _, hu⟩ := a1 rfl
    obtain ⟨_, _, hu'⟩ := b1 rfl
    exact (WH_one hu hu').1
  · obtain ⟨_, _, hu⟩ := a2 rfl
    obtain ⟨_, _, hu'⟩ := b2 rfl
    exact (WH_one hu hu').2.1
  · obtain ⟨_, _, hu⟩ := a3 rfl
    obtain ⟨_, _, hu'⟩ := b3 rfl
    exact (WH_one hu hu').2.2
theorem sp_wheel {Q : Int32 → mg_H → Prop} {h : mg_H} {k n w : Nat} {z t pr : Nat → Nat} (ok : mp_shs h) (hv : 0 ≤ nI k ∧ nI k ≤ mg_i h 5 0 - 1) (hk : k < 2) (S : SR (mg_i h) k n z t pr) (hw : w ≤ 3) (q : ∀ v h', mp_same h h' → WHL n z t (nI w) v → Q v h') : wp_wheel Q (nI k) (nI w) h := by
  have SHh := S.sh
  unfold wp_wheel
  rintro _ rfl
  refine sp_hand0 ok hv hk S (fun h2 es2 H2 f23 f24 _ S2 => bq_f (by decide) (sp_inT (lo := 0) (hi := 3) (Nat.zero_le w) hw (by decide) (bq_nt (by decide) ?_)))
  have by' : ∀ x : Nat, (x = 1 ∨ x = 2 ∨ x = 3) → w = x → wp_wheelBy Q (nI x) h2 := by
    intro x hx ex
    subst ex
    refine sp_wheelBy SHh H2 (fun v1 v2 v3 h3 e3 W => q _ h3 (es2.tr (e3.same (by decide))) ?_)
    rcases hx with rfl | rfl | rfl
    · exact ⟨fun c => absurd c (by decide), fun _ => ⟨v2, v3, W⟩, fun c => absurd c (by decide), fun c => absurd c (by decide)⟩
    · exact ⟨fun c => absurd c (by decide), fun c => absurd c (by decide), fun _ => ⟨v1, v3, W⟩, fun c => absurd c (by decide)⟩
    · exact ⟨fun c => absurd c (by decide), fun c => absurd c (by decide), fun c => absurd c (by decide), fun _ => ⟨v1, v2, W⟩⟩
  rcases (show w = 0 ∨ w = 1 ∨ w = 2 ∨ w = 3 by omega) with rfl | rfl | rfl | rfl
  · exact bq_nf rfl (sp_atOnce SHh H2 f24 (fun v h3 e3 hv => q v h3 (es2.tr (e3.same (by decide))) ⟨fun _ => hv, fun c => absurd c (by decide), fun c => absurd c (by decide), fun c => absurd c (by decide)⟩))
  · exact bq_nt (by decide) (by' 1 (by omega) rfl)
  · exact bq_nt (by decide) (by' 2 (by omega) rfl)
  · exact bq_nt (by decide) (by' 3 (by omega) rfl)
