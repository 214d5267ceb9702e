/-! a minute goes by, in the reference -/
/-- glass y in the minute t: runs so far and the state -/
def mp_gs (t y : Nat) (s : Int32 × mg_H) : Int32 × mg_H :=
  if mp_has (mg_i s.2 0 31) (nI y) then s else if mg_i s.2 28 y ≤ 0 then s else
    let g1 := mg_ui s.2 28 y (mg_i s.2 28 y - 1)
    let g2 := mg_ui g1 38 t (mg_i g1 38 t ||| (if mg_i g1 28 y = 0 then 1 <<< (nI y &&& 31) else 0))
    (1, mg_ui g2 37 y (mg_i g2 37 y + (if mg_i g1 28 y = 0 then 1 else 0)))
def mp_gl (t : Nat) (s : Int32 × mg_H) : Nat → Int32 × mg_H
  | 0 => s
  | k + 1 => mp_gs t k (mp_gl t s k)
def mp_ge (t : Nat) (s : Int32 × mg_H) : mg_H :=
  let n := mp_ones (mg_i s.2 38 t) 4
  let g1 := mg_ui s.2 0 32 (mg_i s.2 0 32 + n)
  let g2 := mg_ui g1 0 35 (if mg_i g1 0 35 ≤ n then n else mg_i g1 0 35)
  let g3 := mg_ui g2 0 34 (if mg_i g2 0 34 = -1 then (if n ≤ 0 then mg_i g2 0 34 else mg_i g2 0 30) else mg_i g2 0 34)
  mg_ui g3 0 36 (mg_i g3 0 36 + (if s.1 = 0 then 1 else 0))
def mp_goBy (g : mg_H) (t n : Nat) : mg_H := mp_ge (t + 1) (mp_gl (t + 1) (0, mg_ui g 0 30 (nI (t + 1))) n)
theorem mp_gs_0 {t y : Nat} {s : Int32 × mg_H} {j : Nat} : mg_i (mp_gs t y s).2 0 j = mg_i s.2 0 j := by
  unfold mp_gs
  split
  · rfl
  · split
    · rfl
    · show mg_i (mg_ui (mg_ui (mg_ui s.2 28 y _) 38 t _) 37 y _) 0 j = _
      rw [mi_cell (by decide), mi_cell (by decide), mi_cell (by decide)]
theorem mp_gl_0 {t : Nat} {s : Int32 × mg_H} {j : Nat} : ∀ k, mg_i (mp_gl t s k).2 0 j = mg_i s.2 0 j
  | 0 => rfl
  | k + 1 => mp_gs_0.trans (mp_gl_0 k)
theorem sp_goBy {Q : mg_H → Prop} {h : mg_H} {t n : Nat} (em : mg_i h 0 30 = nI t) (ht : t < 99) (en : mg_i h 0 24 = nI n) (hn : n ≤ 4) (q : Q (mp_goBy h t n)) : wp_goBy Q h := by
  unfold wp_goBy
  intro R14 R166 R170 R105 R80 R187 R103 c14 c166 c170 c105 c80 c187 c103 h1 e1
  rw [em, nI_1] at e1
  have h24 : ∀ k, mg_i (mp_gl (t + 1) (0, h1) k).2 0 24 = nI n := fun k => (mp_gl_0 k).trans (by rw [e1]; exact en)
  have h30 : ∀ k, mg_i (mp_gl (t + 1) (0, h1) k).2 0 30 = nI (t + 1) := fun k => (mp_gl_0 k).trans (by rw [e1]; exact mi_same)
  have q : Q (mp_ge (t + 1) (mp_gl (t + 1) (0, h1) n)) := by rw [e1]; exact q
  refine mp_up (P := fun k => R14 (mp_gl (t + 1) (0, h1) k).1 (nI k) (mp_gl (t + 1) (0, h1) k).2) (n := n) ?_ (fun k hk hr => ?_)
  · have e30 := h30 n
    have e24 := h24 n
    generalize hS : mp_gl (t + 1) (0, h1) n = S at q e30 e24 ⊢
    obtain ⟨ru, g⟩ := S
    refine c14 _ _ _ ⟨fun _ => ?_, fun c => absurd (by rw [e24]; exact nI_le (Nat.le_refl n) (by omega)) c⟩
    rw [e30, nI_clamp (by omega)]
    refine ⟨vp_in_nI (show t + 1 < 100 by omega) (by decide), sp_ones (fun h4 e4 => sp_greater (fun h7 e7 => ?_))⟩
    have fin : ∀ v : Int32, v = (if mg_i h7 0 34 = -1 then (if mp_ones (mg_i g 38 (t + 1)) 4 ≤ 0 then mg_i h7 0 34 else mg_i h7 0 30) else mg_i h7 0 34) → R170 ru v h7 := by
      intro v hv
      refine c170 _ _ _ (fun h11 e11 => ?_)
      have lst : ∀ w : Int32, w = (if ru = 0 then 1 else 0) → R187 w (mg_i h11 0 36) h11 := by
        intro w hw
        refine c187 _ _ _ (fun h14 e14 => ?_)
        have e15 : h14 = mp_ge (t + 1) (ru, g) := by
          rw [e14, e11, hv, e7, e4, hw]; rfl
        rw [e15]
        exact q
      exact ⟨fun c => lst 1 (by rw [if_pos c]), fun c => lst 0 (by rw [if_neg c])⟩
    refine ⟨fun c => c166 _ _ (fin _ (by rw [if_neg c])), fun c => ⟨fun c2 => c166 _ _ (fin _ (by rw [if_pos c, if_pos c2])), fun c2 => fin _ (by rw [if_pos c, if_neg c2])⟩⟩
  · have e30 := h30 k
    have e24 := h24 k
    have hr : R14 (mp_gs (t + 1) k (mp_gl (t + 1) (0, h1) k)).1 (nI (k + 1)) (mp_gs (t + 1) k (mp_gl (t + 1) (0, h1) k)).2 := hr
    generalize hS : mp_gl (t + 1) (0, h1) k = S at hr e30 e24 ⊢
    obtain ⟨ru, g⟩ := S
    have nx : ∀ (ru2 : Int32) (g2 : mg_H), mp_gs (t + 1) k (ru, g) = (ru2, g2) → R105 ru2 (nI k) g2 := by
      intro ru2 g2 e
      rw [e] at hr
      refine c105 _ _ _ (fun z ez => ?_)
      rw [ez, nI_1]
      exact hr
    refine c14 _ _ _ ⟨fun c => absurd c (by rw [e24]; exact nI_ge hk (by omega)), fun _ => ?_⟩
    rw [nI_clamp (by omega)]
    refine sp_has (fun hh => ⟨fun _ => nx _ _ (by rw [mp_gs, if_pos hh]), fun c => absurd c (by decide)⟩) (fun hh => ⟨fun c => absurd rfl c, fun _ => ⟨vp_in_nI (show k < 4 by omega) (by decide), fun c0 => nx _ _ (by rw [mp_gs, if_neg hh, if_pos c0]), fun c0 => ?_⟩⟩)
    refine ⟨vp_in_nI (show k < 4 by omega) (by decide), vp_in_nI (show k < 4 by omega) (by decide), fun h10 e10 => ?_⟩
    have e31 : mg_i h10 0 30 = nI (t + 1) := by rw [e10, mi_cell (by decide)]; exact e30
    rw [e31, nI_clamp (by omega)]
    have s80 : ∀ v : Int32, v = (if mg_i h10 28 k = 0 then 1 <<< (nI k &&& 31) else 0) → R80 1 (nI k) v (mg_i h10 38 (t + 1)) (nI (t + 1)) h10 := by
      intro v hv
      refine c80 _ _ _ _ _ _ ⟨vp_in_nI (show t + 1 < 100 by omega) (by decide), fun h13 e13 => ?_⟩
      rw [nI_clamp (by omega)] at e13
      rw [nI_clamp (by omega)]
      have e28 : mg_i h13 28 k = mg_i h10 28 k := by rw [e13, mi_cell (by decide)]
      have s103 : ∀ w : Int32, w = (if mg_i h10 28 k = 0 then 1 else 0) → R103 1 (nI k) w (mg_i h13 37 k) (nI k) h13 := by
        intro w hw
        refine c103 _ _ _ _ _ _ ⟨vp_in_nI (show k < 4 by omega) (by decide), fun h15 e15 => nx _ _ ?_⟩
        rw [nI_clamp (by omega)] at e15
        rw [mp_gs, if_neg hh, if_neg c0, e15, hw, e13, hv, e10]
      refine ⟨vp_in_nI (show k < 4 by omega) (by decide), vp_in_nI (show k < 4 by omega) (by decide), fun c => s103 0 ?_, fun c => s103 1 ?_⟩
      · rw [e28] at c; rw [if_neg c]
      · rw [e28] at c; rw [if_pos c]
    refine ⟨vp_in_nI (show t + 1 < 100 by omega) (by decide), vp_in_nI (show k < 4 by omega) (by decide), fun c => s80 0 ?_, fun c => s80 _ ?_⟩
    · rw [if_neg c]
    · rw [if_pos c]
