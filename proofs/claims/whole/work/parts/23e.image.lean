/-! the class: image -/
theorem TLd_of {Y : xg_Y} {h : xg_H} {nm : Nat → Nat} {b : Nat} (t : xg_is Y (nm b) 9 ∧ (xg_o h (nm b) 0 = some (nm (b + 1)) ∧ xk Y nm (b + 1) 22 600) ∧ (xg_o h (nm b) 4 = some (nm (b + 2)) ∧ xk Y nm (b + 2) 22 4) ∧ (xg_o h (nm b) 5 = some (nm (b + 3)) ∧ xk Y nm (b + 3) 27 8)) (tx : ∀ j, j < 8 → xg_o h (nm (b + 3)) j = some (nm (b + 11 + j)) ∧ TXn Y h nm (b + 11 + j) (xt_room (j / 2)) (if j < 2 then 4 else 0)) : TLd Y h nm b := by
  obtain ⟨t0, ⟨t1, t2⟩, ⟨t3, t4⟩, ⟨t5, t6⟩⟩ := t
  refine ⟨t0, ⟨t1, t2.1, t2.2⟩, ⟨t3, t4.1, t4.2⟩, ⟨t5, t6.1, t6.2⟩, fun j hj => ?_⟩
  obtain ⟨x0, ⟨y0, ⟨y1, y1k⟩, ⟨y2, y2k⟩, ⟨y3, y3k⟩⟩⟩ := tx j hj
  dsimp only
  rw [show b + 1 + (10 + j) = b + 11 + j by omega, show b + 1 + (20 + j) = b + 11 + j + 10 by omega, show b + 1 + (30 + j) = b + 11 + j + 20 by omega, show b + 1 + (40 + j) = b + 11 + j + 30 by omega]
  exact ⟨x0, y0, ⟨y1, y1k.1, y1k.2⟩, ⟨y2, y2k.1, y2k.2⟩, ⟨y3, y3k.1, y3k.2⟩⟩
theorem TLd_g {P : Nat → Prop} {nm nm2 : Nat → Nat} {Y Y2 : xg_Y} {h h2 : xg_H} {b : Nat} (a : gro P nm Y h nm2 Y2 h2) (T : TLd Y h nm b) (hp : ∀ d, DT b 8 d → P d) : TLd Y2 h2 nm2 b := by
  have b0 : P b := hp _ (Or.inl rfl)
  have b1 : P (b + 1) := hp _ (Or.inr (Or.inl rfl))
  have b2 : P (b + 2) := hp _ (Or.inr (Or.inr (Or.inl rfl)))
  have b3 : P (b + 3) := hp _ (Or.inr (Or.inr (Or.inr (Or.inl rfl))))
  have T0 := T
  obtain ⟨t0, ⟨t1, t2⟩, ⟨t3, t4⟩, ⟨t5, t6⟩, _⟩ := T
  refine TLd_of ⟨gro_is a b0 t0, ⟨gro_o a b0 b1 t1, gro_xk a b1 t2⟩, ⟨gro_o a b0 b2 t3, gro_xk a b2 t4⟩, ⟨gro_o a b0 b3 t5, gro_xk a b3 t6⟩⟩ (fun j hj => ?_)
  obtain ⟨x0, x1⟩ := T0.tx hj
  have p0 : P (b + 11 + j) := hp _ (Or.inr (Or.inr (Or.inr (Or.inr ⟨j, hj, Or.inl rfl⟩))))
  have p1 : P (b + 11 + j + 10) := hp _ (Or.inr (Or.inr (Or.inr (Or.inr ⟨j, hj, Or.inr (Or.inl rfl)⟩))))
  have p2 : P (b + 11 + j + 20) := hp _ (Or.inr (Or.inr (Or.inr (Or.inr ⟨j, hj, Or.inr (Or.inr (Or.inl rfl))⟩))))
  have p3 : P (b + 11 + j + 30) := hp _ (Or.inr (Or.inr (Or.inr (Or.inr ⟨j, hj, Or.inr (Or.inr (Or.inr rfl))⟩))))
  exact ⟨gro_o a b3 p0 x0, TXn_g a x1 p0 p1 p2 p3⟩
set_option maxHeartbeats 1000000 in
theorem sp_X11_image {P : Nat → Prop} {MC MS : Nat} {Y : xg_Y} {Q : Int32 → xg_Y → xg_H → Prop} {h : xg_H} {nm : Nat → Nat} {x : Int32} {sv : Nat → Bool} (hn : inj nm) (l : liv (fun d => P d ∨ d = 40) nm Y) (k0 : xg_is Y (nm 0) 11) (o0 : xg_o h (nm 0) 0 = some (nm 100)) (o1 : xg_o h (nm 0) 1 = some (nm 40)) (k40 : xk Y nm 40 28 3) (im : ∀ k, k < 3 → (sv k = true → xg_o h (nm 40) k = some (nm (200 + 100 * k)) ∧ TLd Y h nm (200 + 100 * k)) ∧ (sv k = false → xg_o h (nm 40) k = none ∧ ∀ d, DT (200 + 100 * k) 8 d → ¬ P d)) (T : TLd Y h nm 100) (hP0 : P 0) (hP1 : ∀ d, DT 100 8 d → P d) (hP4 : ¬ P 40) (hM : ∀ k, k < 3 → x = nI k → sv k = false → 36 ≤ MC ∧ 890 ≤ MS)
    (q1 : ∀ k nm' Y' h2 h', k < 3 → x = nI k → inj nm' → gro P nm Y h nm' Y' h2 → nm' 40 = nm 40 → xk Y' nm' 40 28 3 → (∀ j, xg_o h2 (nm' 40) j = if j = k then some (nm' (200 + 100 * k)) else xg_o h (nm 40) j) → TLd Y' h2 nm' (200 + 100 * k) → TLd Y' h2 nm' 100 → xq nm' (200 + 100 * k) h2 h' → TDe h' (200 + 100 * k) h2 100 nm' → Q 1 Y' h') (q0 : (∀ k, k < 3 → ¬ x = nI k) → Q 0 Y h) : wp_X11_image MC MS Y Q (nm 0) x h := by
  unfold wp_X11_image
  refine ⟨k0, fun R33 c33 => ?_⟩
  by_cases c0 : x < 0
  · exact bq_t c0 ⟨⟨Nat.zero_le _, Nat.zero_le _⟩, q0 (fun k hk e => by rw [e] at c0; exact nI_pos (by omega) c0)⟩
  refine bq_f c0 ?_
  obtain ⟨k, hk, ek⟩ := nI_of c0
  by_cases c3 : k < 3
  · have q1 := q1 k
    have hM := hM k c3 ek
    rw [ek]
    refine bq_t (nI_lt (b := 3) c3 (by decide)) ⟨nm 40, o1, k40.1, ?_⟩
    rw [k40.2, nI_clamp hk]
    refine ⟨vp_in_nI c3 (by decide), ?_⟩
    -- the copy
    have fin : ∀ kc nc nm' Y' h2, kc ≤ MC → nc ≤ MS → inj nm' → gro P nm Y h nm' Y' h2 → nm' 40 = nm 40 → xk Y' nm' 40 28 3 → (∀ j, xg_o h2 (nm' 40) j = if j = k then some (nm' (200 + 100 * k)) else xg_o h (nm 40) j) → TLd Y' h2 nm' (200 + 100 * k) → R33 kc nc Y' h2 := by
      intro kc nc nm' Y' h2 m1 m2 i' g' e40 x40 o40 T2
      have T1 := TLd_g g' T hP1
      have n0 : nm' 0 = nm 0 := (g' 0 hP0).1
      have p100 : P 100 := hP1 _ (Or.inl rfl)
      have p40 : xg_o h2 (nm 0) 1 = some (nm' 40) := by rw [((g' 0 hP0).2.2.2.2 1).2.2, e40]; exact o1
      have p0 : xg_o h2 (nm 0) 0 = some (nm' 100) := by rw [((g' 0 hP0).2.2.2.2 0).2.2, (g' 100 p100).1]; exact o0
      refine c33 _ _ _ _ ⟨(g' 0 hP0).2.2.1 11 k0, nm' 40, p40, x40.1, ?_⟩
      rw [ek, x40.2, nI_clamp hk, p0]
      refine ⟨vp_in_nI c3 (by decide), nm' (200 + 100 * k), by rw [o40, if_pos rfl], T2.1, ⟨m1, m2⟩, ?_⟩
      exact sp_X9_become i' (by omega) (by decide) (by omega) T2 T1 (fun h' e d => ⟨⟨m1, m2⟩, q1 nm' Y' h2 h' c3 ek i' g' e40 x40 o40 T2 T1 e d⟩)
    cases hs : sv k with
    | true =>
      obtain ⟨s1, s2⟩ := (im k c3).1 hs
      rw [s1]
      refine ⟨fun c => (by cases c), fun a _ => fin 0 0 nm Y h (Nat.zero_le _) (Nat.zero_le _) hn (gro.rf (fun d hd => l d (Or.inl hd))) rfl k40 (fun j => ?_) s2⟩
      by_cases ej : j = k
      · rw [if_pos ej, ej]; exact s1
      · rw [if_neg ej]
    | false =>
      obtain ⟨s1, s2⟩ := (im k c3).2 hs
      obtain ⟨m1, m2⟩ := hM hs
      rw [s1]
      refine ⟨fun _ => ⟨by omega, by omega, ?_⟩, fun a c => (by cases c)⟩
      intro q3 f3 Y4 eY4 h5 eh5
      refine ⟨35, 884, ⟨by omega, by omega⟩, ?_⟩
      have hb : ∀ d, DT (200 + 100 * k) 8 d → ¬ (P d ∨ d = 40) := fun d hd c => c.elim (s2 d hd) (fun e => by rcases hd with e2 | e2 | e2 | e2 | ⟨j, hj, e2⟩ <;> omega)
      have nb : ¬ (P (200 + 100 * k) ∨ 200 + 100 * k = 40) := hb _ (Or.inl rfl)
      have nt : nm1 nm (200 + 100 * k) q3 (200 + 100 * k) = q3 := nm1_at
      have i' := nm1_inj hn (200 + 100 * k) q3
      have g' : gro (fun d => P d ∨ d = 40) nm Y h (nm1 nm (200 + 100 * k) q3) Y4 h5 := by rw [eY4, eh5]; exact gro_new l nb f3
      have k3 : xg_is Y4 q3 9 := by rw [eY4]; exact is_new
      have z3 : ∀ j, xg_i h5 q3 j = 0 := fun j => by rw [eh5]; exact ih_new.1
      generalize nm1 nm (200 + 100 * k) q3 = n' at nt i' g'
      rw [← nt] at k3 z3 ⊢
      refine sp_X9_init (P := fun d => P d ∨ d = 40) i' (gro_liv g') k3 z3 hb (by decide) (by decide) (fun n2 Y2 h2 in2 gr2 et T2 => ?_)
      have G := g'.tr gr2
      have e40 : n2 40 = nm 40 := (G 40 (Or.inr rfl)).1
      have x40 : xk Y2 n2 40 28 3 := gro_xk G (Or.inr rfl) k40
      rw [← et, ← e40]
      refine ⟨x40.1, T2.1.1, ?_⟩
      rw [x40.2]
      refine ⟨vp_in_nI c3 (by decide), ?_⟩
      rintro _ rfl
      have TL2 := TB_TLd T2
      refine fin _ _ n2 Y2 _ (by omega) (by omega) in2 (gro_uo in2 (G.sub (fun d hd => Or.inl hd)) hP4) e40 x40 (fun j => ?_) (TL2.o (by omega) (fun c j hc => by rw [xo_uo, if_neg (fun e => by have := in2 _ _ e.1; omega)]))
      rw [xo_uo]
      by_cases ej : j = k
      · rw [if_pos ⟨rfl, ej⟩, if_pos ej]
      · rw [if_neg (fun c => ej c.2), if_neg ej, e40]
        exact ((G 40 (Or.inr rfl)).2.2.2.2 j).2.2
  · refine bq_f (by rw [ek]; exact nI_nlt (b := 3) (by omega) hk) ⟨⟨Nat.zero_le _, Nat.zero_le _⟩, q0 (fun k' hk' e => ?_)⟩
    have := (nI_eq hk (by omega)).mp (ek.symm.trans e)
    omega
