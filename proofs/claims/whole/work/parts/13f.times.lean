/-! reference: times -/
theorem b_one : ∀ i, i < 32 → bt 1 i = decide (i = 0) := by decide +kernel
theorem has_bt {x : Int32} {k : Nat} (hk : k < 32) : mp_has x (nI k) ↔ bt x k = true := by
  constructor
  · intro h
    have := congrArg (fun y => bt y 0) h
    rw [b_and, b_sshr k hk _ (by decide), if_pos (by omega), b_one 0 (by decide)] at this
    simpa using this
  · intro h
    show (x >>> (nI k &&& 31)) &&& 1 = 1
    apply b_ext
    intro i hi
    rw [b_and, b_one i hi]
    by_cases e : i = 0
    · subst e
      rw [b_sshr k hk _ (by decide), if_pos (by omega)]
      simpa using h
    · simp [e]
theorem has_not {B k : Nat} (hk : k < 32) : mp_has (nI B ^^^ (-1)) (nI k) ↔ ¬ B.testBit k = true := by
  rw [has_bt hk, bt_not _ hk, bt_nI _ hk]
  cases B.testBit k <;> simp
/-- what is read off the minutes told -/
def LO (n : Nat) (z t : Nat → Nat) (k : Nat) (v : Int32) : Prop :=
  (k = 0 → isB v (fun T => (1 ≤ T ∧ T ≤ 30) ∧ ∃ b, rc z (2 ^ n - 1) (c4 t) T b)) ∧
  (k = 1 → v = nI (cntc (fun c => ∃ T, T ≤ 30 ∧ rc z (2 ^ n - 1) (c4 t) T c))) ∧
  (k = 2 → lst (fun T => (1 ≤ T ∧ T ≤ 30) ∧ ∃ b, rc z (2 ^ n - 1) (c4 t) T b) v) ∧
  (k = 3 → gst (fun T => (1 ≤ T ∧ T ≤ 30) ∧ ∃ b, rc z (2 ^ n - 1) (c4 t) T b) v) ∧
  (k = 4 → lst (fun T => (1 ≤ T ∧ T ≤ 30) ∧ ¬ ∃ b, rc z (2 ^ n - 1) (c4 t) T b) v) ∧
  (k = 5 → v = nI (lr1 (fun T => (1 ≤ T ∧ T ≤ 30) ∧ ∃ b, rc z (2 ^ n - 1) (c4 t) T b) 30).1) ∧
  (k = 6 → ∃ u, DE z (2 ^ n - 1) (c4 t) v u) ∧
  (k = 7 → ∃ u, DE z (2 ^ n - 1) (c4 t) u v) ∧
  (k = 8 → isB v (fun T => (1 ≤ T ∧ T ≤ 30) ∧ TL z (2 ^ n - 1) (c4 t) on4 T 0))
theorem LO_one {n : Nat} {z t : Nat → Nat} {k : Nat} {v v' : Int32} (hk : k ≤ 8) (h : LO n z t k v) (h' : LO n z t k v') : v = v' := by
  obtain ⟨a0, a1, a2, a3, a4, a5, a6, a7, a8⟩ := h
  obtain ⟨b0, b1, b2, b3, b4, b5, b6, b7, b8⟩ := h'
  rcases (show k = 0 ∨ k = 1 ∨ k = 2 ∨ k = 3 ∨ k = 4 ∨ k = 5 ∨ k = 6 ∨ k = 7 ∨ k = 8 by omega) with e | e | e | e | e | e | e | e | e
  · exact isB_one (a0 e) (b0 e) (fun _ => Iff.rfl)
  · rw [a1 e, b1 e]
  · exact lst_one (a2 e) (b2 e) (fun _ => Iff.rfl)
  · exact gst_one (a3 e) (b3 e) (fun _ => Iff.rfl)
  · exact lst_one (a4 e) (b4 e) (fun _ => Iff.rfl)
  · rw [a5 e, b5 e]
  · obtain ⟨u, hu⟩ := a6 e
    obtain ⟨u', hu'⟩ := b6 e
    exact (DE_one hu hu').1
  · obtain ⟨u, hu⟩ := a7 e
    obtain ⟨u', hu'⟩ := b7 e
    exact (DE_one hu hu').2
  · exact isB_one (a8 e) (b8 e) (fun _ => Iff.rfl)
theorem sp_laidOut {Q : Int32 → mg_H → Prop} {h : mg_H} {n k : Nat} {z t : Nat → Nat} (SHh : SH n z t) (C : CL z (2 ^ n - 1) on4 (fun a => a = c4 t) 0 30 h) (hk : k ≤ 8) (q : ∀ v, LO n z t k v → Q v h) : wp_laidOut Q (nI k) h := by
  have hz := SHh.zok
  have hc := SHh.ok
  have hB : ∀ s, s ≤ 2 ^ n - 1 → on4 s ≤ 40 := fun s _ => Nat.le_trans (on4_le s) (by decide)
  unfold wp_laidOut
  intro R63 R74 c63 c74
  rw [nl_1000000]
  refine sp_bitsC hz hc hB (by decide) C (fun r2 h2 => ?_)
  have hT : isB r2 (fun T => (1 ≤ T ∧ T ≤ 30) ∧ ∃ b, rc z (2 ^ n - 1) (c4 t) T b) := h2.congr (fun T => by
    refine and_congr_right (fun hT => ⟨fun ⟨w, _, ⟨k, b, hp⟩⟩ => ⟨b, rc_of hp⟩, fun ⟨b, hb⟩ => ?_⟩)
    obtain ⟨k, w, hp⟩ := rc_to (wt := on4) hb
    have ht : TL z (2 ^ n - 1) (c4 t) on4 T w := ⟨k, b, hp⟩
    have := TL_b hT.2 ht
    exact ⟨w, by omega, ht⟩)
  have hh : ∀ T, 1 ≤ T → T ≤ 30 → (mp_has r2 (nI T) ↔ ∃ b, rc z (2 ^ n - 1) (c4 t) T b) := by
    intro T t1 t2
    obtain ⟨B, rfl, hB⟩ := hT
    rw [has_I hB.1 (by omega), hB.2 T]
    exact ⟨fun h => h.2, fun h => ⟨⟨t1, t2⟩, h⟩⟩
  have hh4 : ∀ T, 1 ≤ T → T ≤ 30 → (mp_has (r2 ^^^ (-1)) (nI T) ↔ ¬ ∃ b, rc z (2 ^ n - 1) (c4 t) T b) := by
    intro T t1 t2
    obtain ⟨B, rfl, hB⟩ := hT
    rw [has_not (by omega), hB.2 T]
    exact not_congr ⟨fun h => h.2, fun h => ⟨⟨t1, t2⟩, h⟩⟩
  have lit : ∀ j, j < 100 → nI k = nI j → k = j := fun j hj e => (nI_eq (by omega) (by omega)).mp e
  refine ⟨fun e => ?_, fun e => ?_, fun e => ?_, fun e => ?_, fun e => ?_, fun e => ?_, fun e => ?_, fun e => ?_, fun n0 n1 n2 n3 n4 n5 n6 n7 => ?_⟩
  · have := lit 0 (by decide) e; subst this
    exact q _ ⟨fun _ => hT, fun c => absurd c (by decide), fun c => absurd c (by decide), fun c => absurd c (by decide), fun c => absurd c (by decide), fun c => absurd c (by decide), fun c => absurd c (by decide), fun c => absurd c (by decide), fun c => absurd c (by decide)⟩
  · have := lit 1 (by decide) e; subst this
    exact sp_reachedTops hB C (q _ ⟨fun c => absurd c (by decide), fun _ => rfl, fun c => absurd c (by decide), fun c => absurd c (by decide), fun c => absurd c (by decide), fun c => absurd c (by decide), fun c => absurd c (by decide), fun c => absurd c (by decide), fun c => absurd c (by decide)⟩)
  · have := lit 2 (by decide) e; subst this
    exact c63 _ _ (bq_nt (by decide) (c74 _ _ _ (sp_edge0 hh (fun r hr => q r ⟨fun c => absurd c (by decide), fun c => absurd c (by decide), fun _ => hr, fun c => absurd c (by decide), fun c => absurd c (by decide), fun c => absurd c (by decide), fun c => absurd c (by decide), fun c => absurd c (by decide), fun c => absurd c (by decide)⟩))))
  · have := lit 3 (by decide) e; subst this
    exact c63 _ _ (bq_nf rfl (c74 _ _ _ (sp_edge1 hh (fun r hr => q r ⟨fun c => absurd c (by decide), fun c => absurd c (by decide), fun c => absurd c (by decide), fun _ => hr, fun c => absurd c (by decide), fun c => absurd c (by decide), fun c => absurd c (by decide), fun c => absurd c (by decide), fun c => absurd c (by decide)⟩))))
  · have := lit 4 (by decide) e; subst this
    exact sp_edge0 hh4 (fun r hr => q r ⟨fun c => absurd c (by decide), fun c => absurd c (by decide), fun c => absurd c (by decide), fun c => absurd c (by decide), fun _ => hr, fun c => absurd c (by decide), fun c => absurd c (by decide), fun c => absurd c (by decide), fun c => absurd c (by decide)⟩)
  · have := lit 5 (by decide) e; subst this
    exact sp_longestRow hT (q _ ⟨fun c => absurd c (by decide), fun c => absurd c (by decide), fun c => absurd c (by decide), fun c => absurd c (by decide), fun c => absurd c (by decide), fun _ => rfl, fun c => absurd c (by decide), fun c => absurd c (by decide), fun c => absurd c (by decide)⟩)
  · have := lit 6 (by decide) e; subst this
    exact sp_dearest hz hc hB C (fun v u hd => q v ⟨fun c => absurd c (by decide), fun c => absurd c (by decide), fun c => absurd c (by decide), fun c => absurd c (by decide), fun c => absurd c (by decide), fun c => absurd c (by decide), fun _ => ⟨u, hd⟩, fun c => absurd c (by decide), fun c => absurd c (by decide)⟩)
  · have := lit 7 (by decide) e; subst this
    have fin : ∀ v u, DE z (2 ^ n - 1) (c4 t) v u → Q u h := fun v u hd => q u ⟨fun c => absurd c (by decide), fun c => absurd c (by decide), fun c => absurd c (by decide), fun c => absurd c (by decide), fun c => absurd c (by decide), fun c => absurd c (by decide), fun c => absurd c (by decide), fun _ => ⟨v, hd⟩, fun c => absurd c (by decide)⟩
    refine sp_dearest hz hc hB C (fun v u hd => ⟨fun hne => sp_dearest hz hc hB C (fun v2 u2 hd2 => ?_), fun he => ?_⟩)
    · rw [(DE_one hd2 hd).1]
      have hd0 := hd
      rcases hd with ⟨e1, _⟩ | ⟨b, xb, rfl, rfl, hb, hxb, hl⟩
      · exact absurd e1 hne
      · refine sp_leastC hz hc hB hb.2 C (fun u3 hu3 => ?_)
        have : u3 = nI xb := lst_one hu3 (Or.inr ⟨xb, rfl, hxb.1, hxb.2⟩) (fun _ => Iff.rfl)
        rw [this]
        exact fin _ _ hd0
    · have hd0 := hd
      rcases hd with ⟨e1, e2, _⟩ | ⟨b, xb, e1, e2, hb, _⟩
      · have := fin _ _ hd0
        rw [e2] at this
        exact this
      · rw [e1, nl_m1, nI_eqM (by omega)] at he
        exact he.elim
  · have : k = 8 := by
      have w : ∀ j, j < 8 → k ≠ j := by
        intro j hj e
        subst e
        rcases (show k = 0 ∨ k = 1 ∨ k = 2 ∨ k = 3 ∨ k = 4 ∨ k = 5 ∨ k = 6 ∨ k = 7 by omega) with e | e | e | e | e | e | e | e <;> subst e
        · exact n0 rfl
        · exact n1 rfl
        · exact n2 rfl
        · exact n3 rfl
        · exact n4 rfl
        · exact n5 rfl
        · exact n6 rfl
        · exact n7 rfl
      have := w k
      omega
    subst this
    rw [nl_0]
    refine sp_bitsC hz hc hB (by decide) C (fun r hr => q r ⟨fun c => absurd c (by decide), fun c => absurd c (by decide), fun c => absurd c (by decide), fun c => absurd c (by decide), fun c => absurd c (by decide), fun c => absurd c (by decide), fun c => absurd c (by decide), fun c => absurd c (by decide), fun _ => hr.congr (fun T => and_congr_right (fun _ => ⟨fun ⟨w, h0, hw⟩ => ?_, fun h => ⟨0, Nat.le_refl 0, h⟩⟩))⟩)
    have : w = 0 := by omega
    subst this; exact hw
