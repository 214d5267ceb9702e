/-! a deed, in the reference -/
def mp_act (g : mg_H) (x : Int32) (y : Nat) : Int32 × mg_H :=
  if x = 1 then (1, mg_ui (mg_ui g 28 y (mg_i g 27 y - mg_i g 28 y)) 0 33 (mg_i g 0 33 + 1))
  else if x = 2 then (1, mg_ui g 0 31 (mg_i g 0 31 ||| (1 <<< (nI y &&& 31))))
  else if x = 3 then (1, mg_ui g 0 31 (mg_i g 0 31 &&& ((1 <<< (nI y &&& 31)) ^^^ (-1))))
  else if mg_i g 27 y = 1 then (0, g) else if mg_i g 28 y = mg_i g 27 y then (0, g) else (1, mg_ui g 27 y (mg_i g 27 y - 1))
/-- deed x (0 wait, 1 turn, 2 lay, 3 stand, 4 leak) with the number y at minute t, n glasses: done (1) or not, and the state then -/
def mp_does (g : mg_H) (t n : Nat) (x : Int32) (y : Nat) : Int32 × mg_H :=
  if x = 0 then (if t + y ≤ 99 then (1, mp_wait g t n y) else (0, g))
  else if y < n then (if (if mp_has (mg_i g 0 31) (nI y) then (1 : Int32) else 0) = (if x = 3 then 1 else 0) ∨ x = 4 then mp_act g x y else (0, g)) else (0, g)
theorem sp_does {Q : Int32 → mg_H → Prop} {h : mg_H} {t n y : Nat} {x : Int32} (em : mg_i h 0 30 = nI t) (ht : t ≤ 99) (en : mg_i h 0 24 = nI n) (hn : n ≤ 4) (hy : y < 1000) (q : Q (mp_does h t n x y).1 (mp_does h t n x y).2) : wp_does Q x (nI y) h := by
  unfold wp_does
  intro R36 R46 c36 c46
  rw [mp_does] at q
  refine ⟨fun c0 => ?_, fun c0 => ?_⟩
  · rw [if_neg c0] at q
    refine sp_isGlass en (fun a b => ⟨fun c => absurd c (by decide), fun _ => ?_⟩) (fun hh => ⟨fun _ => ?_, fun c => absurd rfl c⟩)
    · obtain ⟨y2, hy2, ey⟩ := mp_rng (by omega) a b
      have hyn : y < n := by
        have := (nI_eq (a := y) (b := y2) (by omega) (by omega)).mp ey
        omega
      rw [if_pos hyn] at q
      have act : (∀ v, v = mp_act h x y → Q v.1 v.2) → R46 h := by
        intro q
        have q := q _ rfl
        rw [mp_act] at q
        have hc4 : ∀ m : Nat, m = 4 → vp_in (nI y) m := fun m e => by rw [e]; exact vp_in_nI (by omega) (by decide)
        refine c46 h ⟨fun e => ?_, fun e => ?_, fun e => ?_, fun e1 e2 e3 => ?_⟩
        · rw [if_pos e] at q
          rw [nI_clamp (by omega)]
          refine ⟨hc4 _ rfl, hc4 _ rfl, hc4 _ rfl, fun h7 e7 h8 e8 => ?_⟩
          rw [e7, mi_cell (by decide)] at e8
          rw [e8]
          exact q
        · rw [if_neg (by rw [e]; decide), if_pos e] at q
          exact fun h9 e9 => by rw [e9]; exact q
        · rw [if_neg (by rw [e]; decide), if_neg (by rw [e]; decide), if_pos e] at q
          exact fun h9 e9 => by rw [e9]; exact q
        · rw [if_neg e1, if_neg e2, if_neg e3] at q
          rw [nI_clamp (by omega)]
          refine ⟨hc4 _ rfl, fun d1 => ?_, fun d1 => ⟨hc4 _ rfl, hc4 _ rfl, fun d2 => ⟨hc4 _ rfl, hc4 _ rfl, fun h11 e11 => ?_⟩, fun d2 => ?_⟩⟩
          · rw [if_pos d1] at q; exact q
          · rw [if_neg d1, if_neg d2] at q
            rw [e11]; exact q
          · rw [if_neg d1, if_pos d2] at q; exact q
      have jn : ∀ ld sd : Int32, ld = (if mp_has (mg_i h 0 31) (nI y) then (1 : Int32) else 0) → sd = (if x = 3 then (1 : Int32) else 0) → R36 sd ld h := by
        intro ld sd hl hs
        rw [← hl, ← hs] at q
        refine c36 _ _ _ ⟨fun e => act (fun v hv => ?_), fun e => ⟨fun e4 => act (fun v hv => ?_), fun e4 => ?_⟩⟩
        · rw [if_pos (Or.inl e)] at q; rw [hv]; exact q
        · rw [if_pos (Or.inr e4)] at q; rw [hv]; exact q
        · rw [if_neg (fun o => o.elim e e4)] at q; exact q
      exact sp_has (fun hh => ⟨fun e => jn 1 0 (by rw [if_pos hh]) (by rw [if_neg e]), fun e => jn 1 1 (by rw [if_pos hh]) (by rw [if_pos e])⟩) (fun hh => ⟨fun e => jn 0 0 (by rw [if_neg hh]) (by rw [if_neg e]), fun e => jn 0 1 (by rw [if_neg hh]) (by rw [if_pos e])⟩)
    · have hyn : ¬ y < n := fun h9 => hh (mp_rngI (by omega) h9)
      rw [if_neg hyn] at q
      exact q
  · rw [if_pos c0] at q
    refine sp_waits em ht en hn hy (fun h9 => ⟨Or.inr rfl, ?_⟩) (fun h9 => ⟨Or.inl rfl, ?_⟩)
    · rw [if_pos h9] at q; exact q
    · rw [if_neg (by omega)] at q; exact q
