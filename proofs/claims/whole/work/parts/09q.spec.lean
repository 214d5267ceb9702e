/-! play, in the reference -/
theorem mp_does_b {g : mg_H} {t n : Nat} {x : Int32} {y : Nat} : mg_b (mp_does g t n x y).1 := by
  unfold mp_does mp_act
  repeat' split
  all_goals first | exact Or.inl rfl | exact Or.inr rfl
theorem mp_does_no {g : mg_H} {t n : Nat} {x : Int32} {y : Nat} : (mp_does g t n x y).1 = 0 → (mp_does g t n x y).2 = g := by
  unfold mp_does mp_act
  repeat' split
  all_goals first | exact fun _ => rfl | exact fun h => absurd (show (1 : Int32) = 0 from h) (by decide)
/-- minute and state when k deeds are done, kd their kinds, yy their numbers -/
def mp_st (g : mg_H) (n : Nat) (kd : Nat → Int32) (yy : Nat → Nat) : Nat → Nat × mg_H
  | 0 => (0, g)
  | k + 1 =>
    let s := mp_st g n kd yy k
    (mp_min s.1 (mp_does s.2 s.1 n (kd k) (yy k)).1 (kd k) (yy k), (mp_does s.2 s.1 n (kd k) (yy k)).2)
/-- deed k can be done -/
def mp_ok (g : mg_H) (n : Nat) (kd : Nat → Int32) (yy : Nat → Nat) (k : Nat) : Prop := ¬ (mp_does (mp_st g n kd yy k).2 (mp_st g n kd yy k).1 n (kd k) (yy k)).1 = 0
theorem mp_st_inv {g : mg_H} {n d : Nat} {kd : Nat → Int32} {yy : Nat → Nat} (e30 : mg_i g 0 30 = nI 0) (e24 : mg_i g 0 24 = nI n) (e29 : mg_i g 0 29 = nI d) : ∀ k, mg_i (mp_st g n kd yy k).2 0 30 = nI (mp_st g n kd yy k).1 ∧ (mp_st g n kd yy k).1 ≤ 99 ∧ mg_i (mp_st g n kd yy k).2 0 24 = nI n ∧ mg_i (mp_st g n kd yy k).2 0 29 = nI d ∧ mp_same g (mp_st g n kd yy k).2
  | 0 => ⟨e30, Nat.zero_le _, e24, e29, mp_same.rf⟩
  | k + 1 => by
    obtain ⟨i1, i2, i3, i4, i5⟩ := mp_st_inv e30 e24 e29 (kd := kd) (yy := yy) k
    exact ⟨mp_does_30 i1, mp_min_le i2, (mp_does_24 (by decide) (by decide) (by decide) (by decide) (by decide) (by decide) (by decide)).trans i3, (mp_does_24 (by decide) (by decide) (by decide) (by decide) (by decide) (by decide) (by decide)).trans i4, ms_does i5⟩
theorem sp_play {Q : Int32 → mg_H → Prop} {g : mg_H} {n d m : Nat} {kd : Nat → Int32} {yy : Nat → Nat} (hn : n ≤ 4) (hd : d < 8) (hm : m ≤ 40) (e30 : mg_i g 0 30 = nI 0) (e24 : mg_i g 0 24 = nI n) (e29 : mg_i g 0 29 = nI d) (hk : ∀ k, k < m → mg_i g 7 (81 * d + (1 + 2 * k + 0)) = kd k ∧ mg_i g 7 (81 * d + (1 + 2 * k + 1)) = nI (yy k) ∧ yy k < 1000) (q : ∀ k, k ≤ m → (∀ i, i < k → mp_ok g n kd yy i) → (k = m ∨ ¬ mp_ok g n kd yy k) → Q (nI k) (mp_st g n kd yy k).2) : wp_play Q (nI m) g := by
  unfold wp_play
  intro R2 c2
  refine mp_up (P := fun k => (∀ i, i < k → mp_ok g n kd yy i) → R2 (nI k) (mp_st g n kd yy k).2) (n := m) (fun hok => ?_) (fun k hkm ih hok => ?_) (fun i hi => absurd hi (Nat.not_lt_zero i))
  · exact c2 _ _ ⟨fun _ => q m (Nat.le_refl m) hok (Or.inl rfl), fun c => absurd (nI_le (Nat.le_refl m) (by omega)) c⟩
  · obtain ⟨i1, i2, i3, i4, i5⟩ := mp_st_inv e30 e24 e29 (kd := kd) (yy := yy) k
    obtain ⟨h1, h2, h3⟩ := hk k hkm
    refine c2 _ _ ⟨fun c => absurd c (nI_ge hkm (by omega)), fun _ => ?_⟩
    unfold wp_doesDeed
    refine sp_deedOf (d := d) (k := k) (w := 0) hd (by omega) (by decide) i4 ?_
    refine sp_deedOf (d := d) (k := k) (w := 1) hd (by omega) (by decide) i4 ?_
    rw [i5 7 (Or.inl ⟨by decide, by decide⟩), i5 7 (Or.inl ⟨by decide, by decide⟩), h1, h2]
    refine sp_does i1 i2 i3 hn h3 ⟨mp_does_b, fun c => ?_, fun c z ez => ?_⟩
    · rw [mp_does_no c]
      exact q k (by omega) hok (Or.inr (fun h9 => h9 c))
    · rw [ez, nI_1]
      refine ih (fun i hi => ?_)
      rcases Nat.lt_or_ge i k with h9 | h9
      · exact hok i h9
      · have e9 : i = k := by omega
        rw [e9]
        exact c
