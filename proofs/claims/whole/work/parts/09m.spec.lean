/-! waiting, in the reference -/
theorem mp_ge_0 {t : Nat} {s : Int32 × mg_H} {j : Nat} (h1 : j ≠ 32) (h2 : j ≠ 35) (h3 : j ≠ 34) (h4 : j ≠ 36) : mg_i (mp_ge t s) 0 j = mg_i s.2 0 j := by
  show mg_i (mg_ui (mg_ui (mg_ui (mg_ui s.2 0 32 _) 0 35 _) 0 34 _) 0 36 _) 0 j = _
  rw [mi_place h4, mi_place h3, mi_place h2, mi_place h1]
theorem mp_goBy_30 {g : mg_H} {t n : Nat} : mg_i (mp_goBy g t n) 0 30 = nI (t + 1) := (mp_ge_0 (by decide) (by decide) (by decide) (by decide)).trans ((mp_gl_0 n).trans mi_same)
theorem mp_goBy_0 {g : mg_H} {t n j : Nat} (h0 : j ≠ 30) (h1 : j ≠ 32) (h2 : j ≠ 35) (h3 : j ≠ 34) (h4 : j ≠ 36) : mg_i (mp_goBy g t n) 0 j = mg_i g 0 j := (mp_ge_0 h1 h2 h3 h4).trans ((mp_gl_0 n).trans (mi_place h0))
/-- k minutes from minute t on -/
def mp_wait (g : mg_H) (t n : Nat) : Nat → mg_H
  | 0 => g
  | k + 1 => mp_goBy (mp_wait g t n k) (t + k) n
theorem mp_wait_30 {g : mg_H} {t n : Nat} (e : mg_i g 0 30 = nI t) : ∀ k, mg_i (mp_wait g t n k) 0 30 = nI (t + k)
  | 0 => e
  | _ + 1 => mp_goBy_30
theorem mp_wait_0 {g : mg_H} {t n j : Nat} (h0 : j ≠ 30) (h1 : j ≠ 32) (h2 : j ≠ 35) (h3 : j ≠ 34) (h4 : j ≠ 36) : ∀ k, mg_i (mp_wait g t n k) 0 j = mg_i g 0 j
  | 0 => rfl
  | k + 1 => (mp_goBy_0 h0 h1 h2 h3 h4).trans (mp_wait_0 h0 h1 h2 h3 h4 k)
theorem sp_waits {Q : Int32 → mg_H → Prop} {h : mg_H} {t n w : Nat} (em : mg_i h 0 30 = nI t) (ht : t ≤ 99) (en : mg_i h 0 24 = nI n) (hn : n ≤ 4) (hw : w < 1000) (q1 : t + w ≤ 99 → Q 1 (mp_wait h t n w)) (q0 : 99 < t + w → Q 0 h) : wp_waits Q (nI w) h := by
  unfold wp_waits
  intro R15 c15
  have e1 : mg_i h 0 30 + nI w = nI (t + w) := by rw [em, nI_add]
  rw [e1]
  refine ⟨fun c => ?_, fun c => q0 (Nat.lt_of_not_le (fun h9 => c ((nI_leI (a := t + w) (b := 99) (by omega) (by decide)).mpr h9)))⟩
  have h99 : t + w ≤ 99 := (nI_leI (a := t + w) (b := 99) (by omega) (by decide)).mp c
  refine mp_up (P := fun k => R15 (nI k) (mp_wait h t n k)) (n := w) (c15 _ _ ⟨fun _ => q1 h99, fun c9 => absurd (nI_le (Nat.le_refl w) (by omega)) c9⟩) (fun k hk hr => ?_)
  refine c15 _ _ ⟨fun c9 => absurd c9 (nI_ge hk (by omega)), fun _ => ?_⟩
  refine sp_goBy (t := t + k) (n := n) (mp_wait_30 em k) (by omega) ((mp_wait_0 (by decide) (by decide) (by decide) (by decide) (by decide) k).trans en) hn (fun z ez => ?_)
  rw [ez, nI_1]
  exact hr
