/-! bookOf: the book of a shelf, large enough and open -/
/-- something new was made: what P names stands -/
theorem CW_a {P : Nat → Prop} {Y Y2 : xg_Y} {h h2 : xg_H} {nm nm2 : Nat → Nat} {p : Nat → Nat → Int32} {pk pk2 : Nat → Nat → Nat → Int32} {sv sv2 : Nat → Bool} {b b2 : Nat → Nat} (C : CW Y h nm p pk sv b) (i2 : inj nm2) (g : gro P nm Y h nm2 Y2 h2) (hp : ∀ d, PV0 d → P d) (x40 : nm2 40 = nm 40 ∧ xk Y2 nm2 40 28 3) (x41 : nm2 41 = nm 41 ∧ xk Y2 nm2 41 25 2) (im : ∀ k, k < 3 → IM Y2 h2 nm2 k (sv2 k) (pk2 k)) (bk : ∀ i, i < 2 → BK Y2 h2 nm2 i (b2 i)) : CW Y2 h2 nm2 p pk2 sv2 b2 := by
  obtain ⟨hn, O, ⟨T, R⟩, ⟨xb, xc, xr⟩, S, _, _⟩ := C
  have a := grs_g g
  have pv : ∀ d, (d = 0 ∨ (10 ≤ d ∧ d ≤ 15) ∨ (20 ≤ d ∧ d ≤ 27) ∨ (30 ≤ d ∧ d ≤ 32) ∨ d = 35) → P d := fun d hd => hp d (by
    rcases hd with e | e | e | e | e
    · exact Or.inl e
    · exact Or.inr (Or.inl e)
    · exact Or.inr (Or.inr (Or.inl e))
    · exact Or.inr (Or.inr (Or.inr (Or.inl e)))
    · exact Or.inr (Or.inr (Or.inr (Or.inr (Or.inl e)))))
  have pr : ∀ d, PRd d → P d := fun d hd => hp d (Or.inr (Or.inr (Or.inr (Or.inr (Or.inr (Or.inl hd))))))
  have pt : ∀ d, DT 100 8 d → P d := fun d hd => hp d (Or.inr (Or.inr (Or.inr (Or.inr (Or.inr (Or.inr hd))))))
  have vi : ∀ d, P d → ∀ j, xg_i h2 (nm2 d) j = xg_i h (nm d) j := fun d hd j => by
    rw [(g d hd).1]; exact ((g d hd).2.2.2.2 j).1
  have p30 := pv 30 (by decide)
  have p31 := pv 31 (by decide)
  have p32 := pv 32 (by decide)
  refine ⟨i2, OB_s a (pv 0 (by decide)) (pv 10 (by decide)) (pv 20 (by decide)) p30 (pv 35 (by decide)) (pr 50 (by unfold PRd; decide)) (pt 100 (Or.inl rfl)) x40 x41 O, ⟨TLd_s (by decide) a pt T, REL_v (fun d hd j => vi d (pt d hd) j) R⟩, ⟨XB_s a (fun d d1 d2 => pv d (by omega)) xb, XC_s a (fun d d1 d2 => pv d (by omega)) xc, XR_s a pr xr⟩, ⟨LSt_s a p30 p31 p32 S.1, fun c hc => ?_, fun c hc => ?_⟩, im, bk⟩
  · rw [vi 32 p32]; exact S.2.1 c hc
  · rw [vi 31 p31]; exact S.2.2 c hc
def upB (b : Nat → Nat) (i v : Nat) : Nat → Nat := fun j => if j = i then v else b j
theorem upB_at {b : Nat → Nat} {i v : Nat} : upB b i v i = v := if_pos rfl
theorem upB_no {b : Nat → Nat} {i v j : Nat} (h : j ≠ i) : upB b i v j = b j := if_neg h
theorem upB_same {b : Nat → Nat} {i v : Nat} (h : b i = v) : upB b i v = b := funext fun j => by
  by_cases e : j = i
  · rw [e, upB_at, h]
  · exact upB_no e
set_option maxHeartbeats 2000000 in
theorem sp_bookOf {MC MS : Nat} {Y : xg_Y} {Q : Option Nat → xg_Y → xg_H → Prop} {h : xg_H} {nm : Nat → Nat} {p : Nat → Nat → Int32} {pk : Nat → Nat → Nat → Int32} {sv : Nat → Bool} {b : Nat → Nat} {k n : Nat} {z t pr : Nat → Nat} {x1 : Int32} (C : CW Y h nm p pk sv b) (cn : xt_cnt p) (hk : k < 2) (hx : x1 = nI k) (S : SR p k n z t pr) (hMC : 40 * (max (b k) (n + 1) - b k) ≤ MC) (hMS : 120000 * (max (b k) (n + 1) - b k) ≤ MS)
    (q : ∀ nm' Y' h' g, CW Y' h' nm' p pk sv (upB b k (g + 1)) → g + 1 = max (b k) (n + 1) → n ≤ g → BJ Y' h' nm' (500 + 100 * k) (rwn g) (rwn (g - 1)) n z t → (∀ d, PV0 d → nm' d = nm d) → Q (some (nm' (500 + 100 * k))) Y' h') : wp_X11_bookOf MC MS Y Q (nm 0) x1 (some (nm (111 + (2 * 0 + k)))) h := by
  have H := S.sh
  have hn4 : n ≤ 4 := H.1
  have ptx : PV0 (111 + (2 * 0 + k)) := Or.inr (Or.inr (Or.inr (Or.inr (Or.inr (Or.inr (Or.inr (Or.inr (Or.inr (Or.inr ⟨k, by omega, Or.inl (by omega)⟩)))))))))
  have X := (C.co cn).xs hk S
  generalize etx : 111 + (2 * 0 + k) = tx at ptx X ⊢
  obtain ⟨k0, _, ⟨o1, x40⟩, _, _, _, o5, _, ⟨o7, x41⟩⟩ := C.2.1
  unfold wp_X11_bookOf
  refine ⟨k0, fun R9 R35 R56 c9 c35 c56 => ?_⟩
  -- open it
  have fin : ∀ kc nc nm' Y' h' g, kc ≤ MC → nc ≤ MS → CW Y' h' nm' p pk sv (upB b k (g + 1)) → g + 1 = max (b k) (n + 1) → n ≤ g → (∀ d, PV0 d → nm' d = nm d) → R56 (nI k) kc nc Y' h' := by
    intro kc nc nm' Y' h' g m1 m2 C' eg hg ee
    have e0 : nm' 0 = nm 0 := ee 0 (Or.inl rfl)
    have X' := (C'.co cn).xs hk S
    rw [etx] at X'
    obtain ⟨k0', _, _, _, _, _, _, _, ⟨o7', x41'⟩⟩ := C'.2.1
    have B' := C'.2.2.2.2.2.2 k hk
    rw [upB_at] at B'
    rcases B' with ⟨c, _⟩ | ⟨g', eg', o', L'⟩
    · omega
    have egg : g' = g := by omega
    rw [egg] at L'
    refine c56 _ _ _ _ _ ?_
    rw [← e0, ← ee tx ptx]
    refine ⟨k0', nm' 41, o7', x41'.1, ?_⟩
    rw [x41'.2, nI_clamp (by omega)]
    refine ⟨vp_in_nI hk (by decide), nm' (500 + 100 * k), o', L'.2.1.1, ⟨m1, m2⟩, ?_⟩
    refine sp_X1_open C'.1 L' C'.2.2.2.2.1 X' H hg (fun h'' J f => ?_)
    refine ⟨nm' 41, (f.2 0 7).trans o7', x41'.1, ?_⟩
    rw [x41'.2, f.2, o']
    exact ⟨vp_in_nI hk (by decide), ⟨m1, m2⟩, q nm' Y' h'' g (CW_bf C' hk upB_at hg f J) eg hg J ee⟩
  -- a new one
  have r35 : b k < n + 1 → R35 (nI k) 0 0 Y h := by
    intro hlt
    have hmx : max (b k) (n + 1) = n + 1 := by omega
    rw [hmx] at hMC hMS
    refine c35 _ _ _ _ _ ⟨k0, by omega, by omega, ?_⟩
    intro q9 f9 Y10 eY10 h11 eh11
    have lB : liv (fun d => PV0 d ∨ d = 40 ∨ d = 41 ∨ (∃ j, j < 3 ∧ sv j = true ∧ DT (200 + 100 * j) 8 d) ∨ (∃ j, j < 2 ∧ j ≠ k ∧ 0 < b j ∧ BNs (500 + 100 * j) d)) nm Y := by
      rintro d (hd | hd | hd | ⟨j, hj, sj, hd⟩ | ⟨j, hj, jk, bj, hd⟩)
      · exact CW_liv0 C d hd
      · rw [hd]; exact x40.1.1
      · rw [hd]; exact x41.1.1
      · rcases C.2.2.2.2.2.1 j hj with ⟨e, _⟩ | ⟨_, _, T, _⟩
        · rw [e] at sj; cases sj
        · exact TLd_liv T hd
      · rcases C.2.2.2.2.2.2 j hj with ⟨e, _⟩ | ⟨g, _, _, L⟩
        · omega
        · exact LB_liv L.2.1 hd
    have nB : ∀ d, 500 + 100 * k ≤ d → d < 500 + 100 * k + 100 → ¬ (PV0 d ∨ d = 40 ∨ d = 41 ∨ (∃ j, j < 3 ∧ sv j = true ∧ DT (200 + 100 * j) 8 d) ∨ (∃ j, j < 2 ∧ j ≠ k ∧ 0 < b j ∧ BNs (500 + 100 * j) d)) := by
      rintro d d1 d2 (hd | hd | hd | ⟨j, hj, sj, hd⟩ | ⟨j, hj, jk, bj, hd⟩)
      · rcases hd with e | e | e | e | e | e | e
        · omega
        · omega
        · omega
        · omega
        · omega
        · unfold PRd at e; omega
        · rcases e with e | e | e | e | ⟨j, hj, e⟩ <;> omega
      · omega
      · omega
      · rcases hd with e | e | e | e | ⟨j', hj', e⟩ <;> omega
      · unfold BNs at hd; omega
    generalize hPB : (fun d => PV0 d ∨ d = 40 ∨ d = 41 ∨ (∃ j, j < 3 ∧ sv j = true ∧ DT (200 + 100 * j) 8 d) ∨ (∃ j, j < 2 ∧ j ≠ k ∧ 0 < b j ∧ BNs (500 + 100 * j) d)) = PB at lB
    have nPB : ∀ d, 500 + 100 * k ≤ d → d < 500 + 100 * k + 100 → ¬ PB d := by rw [← hPB]; exact nB
    have pv : ∀ d, PV0 d → PB d := by rw [← hPB]; exact fun d hd => Or.inl hd
    have p40 : PB 40 := by rw [← hPB]; exact Or.inr (Or.inl rfl)
    have p41 : PB 41 := by rw [← hPB]; exact Or.inr (Or.inr (Or.inl rfl))
    have pim : ∀ j, j < 3 → sv j = true → ∀ d, DT (200 + 100 * j) 8 d → PB d := by rw [← hPB]; exact fun j hj sj d hd => Or.inr (Or.inr (Or.inr (Or.inl ⟨j, hj, sj, hd⟩)))
    have pbk : ∀ j, j < 2 → j ≠ k → 0 < b j → ∀ d, BNs (500 + 100 * j) d → PB d := by rw [← hPB]; exact fun j hj jk bj d hd => Or.inr (Or.inr (Or.inr (Or.inr ⟨j, hj, jk, bj, hd⟩)))
    have hp41 : ∀ d, PB d → d = 41 ∨ ((PB d ∧ d ≠ 41)) := fun d hd => by
      by_cases e : d = 41
      · exact Or.inl e
      · exact Or.inr ⟨hd, e⟩
    clear hPB nB
    have nB0 := nPB (500 + 100 * k) (by omega) (by omega)
    have g1 : gro PB nm Y h (nm1 nm (500 + 100 * k) q9) Y10 h11 := by rw [eY10, eh11]; exact gro_new lB nB0 f9
    have i1 := nm1_inj C.1 (500 + 100 * k) q9
    have e9 : nm1 nm (500 + 100 * k) q9 (500 + 100 * k) = q9 := nm1_at
    have k1 : xg_is Y10 q9 1 := by rw [eY10]; exact is_new
    generalize nm1 nm (500 + 100 * k) q9 = n1 at g1 i1 e9
    have q0 : PV0 0 := Or.inl rfl
    have q30 : PV0 30 := Or.inr (Or.inr (Or.inr (Or.inl (by decide))))
    have z0 := g1 0 (pv 0 q0)
    have ztx := g1 tx (pv tx ptx)
    refine ⟨z0.2.2.1 11 k0, nm tx, rfl, ztx.2.2.1 8 X.1, 25, 111000, ⟨by omega, by omega⟩, ?_⟩
    rw [(z0.2.2.2.2 5).2.2, o5, (ztx.2.2.2.2 0).1, X.2.2.2.2.1, ← (g1 30 (pv 30 q30)).1, ← e9]
    rw [← e9] at k1
    refine sp_X1_init i1 (gro_liv g1) k1 (pv 30 q30) (gro_is g1 (pv 30 q30) C.2.2.2.2.1.1.1) (by omega) nPB hn4 (by decide) (by decide) (fun n2 Y15 h16 i2 g2 eB L => ?_)
    have G := g1.tr g2
    have a41 : n2 41 = nm 41 := (G 41 p41).1
    have y41 : xk Y15 n2 41 25 2 := gro_xk G p41 x41
    rw [← eB]
    refine ⟨nm 41, o7, ?_⟩
    rw [← a41, y41.2, nI_clamp (by omega)]
    refine ⟨y41.1, L.2.1.1, vp_in_nI hk (by decide), ?_⟩
    intro h19 eh19
    have so2 : ∀ d j, ¬ (d = 41 ∧ j = k) → xg_o h19 (n2 d) j = xg_o h16 (n2 d) j := fun d j hd => by
      rw [eh19, xo_uo, if_neg (fun e => hd ⟨i2 _ _ e.1, e.2⟩)]
    have vi2 : ∀ d j, xg_i h19 d j = xg_i h16 d j ∧ xg_l h19 d j = xg_l h16 d j := fun d j => by rw [eh19]; exact ⟨rfl, rfl⟩
    have G2 : gro (fun d => PB d ∧ d ≠ 41) nm Y h n2 Y15 h19 := by
      rw [eh19]
      exact gro_uo i2 (G.sub (fun d hd => hd.1)) (fun c => c.2 rfl)
    have n41 : ∀ d, PV0 d → d ≠ 41 := fun d hd e => by
      rcases hd with c | c | c | c | c | c | c
      · omega
      · omega
      · omega
      · omega
      · omega
      · unfold PRd at c; omega
      · rcases c with c | c | c | c | ⟨j, hj, c⟩ <;> omega
    have CN : CW Y15 h19 n2 p pk sv (upB b k (n + 1)) := by
      refine CW_a C i2 G2 (fun d hd => ⟨pv d hd, n41 d hd⟩) ⟨(G 40 p40).1, gro_xk G p40 x40⟩ ⟨a41, y41⟩ (fun j hj => ?_) (fun j hj => ?_)
      · refine IM_s (grs_g G2) (G 40 p40).1 ?_ (fun s d hd => ⟨pim j hj s d hd, fun e => by rcases hd with c | c | c | c | ⟨j', hj', c⟩ <;> omega⟩) (fun s d hd q => ?_) (C.2.2.2.2.2.1 j hj)
        · have := so2 40 j (by omega)
          rw [(G 40 p40).1] at this
          rw [this]; exact ((G 40 p40).2.2.2.2 j).2.2
        · have hP := pim j hj s d hd
          rw [(vi2 _ _).1, (G d hP).1]; exact ((G d hP).2.2.2.2 q).1
      · by_cases ej : j = k
        · rw [ej, upB_at]
          refine Or.inr ⟨n, rfl, ?_, ?_⟩
          · rw [eh19, xo_uo, if_pos ⟨rfl, rfl⟩]
          · refine BB_s (P := fun d => d ≠ 41) (fun d hd => ⟨rfl, fun _ x => x, rfl, fun j' _ => so2 d j' (fun c => hd c.1)⟩) (fun d hd => by unfold BNs at hd; omega) (by decide) (fun d _ j' => vi2 _ j') L
        · rw [upB_no ej]
          refine BK_s (grs_g G2) a41 ?_ (fun bj d hd => ⟨pbk j hj ej bj d hd, fun e => by unfold BNs at hd; omega⟩) ⟨pv 30 q30, by decide⟩ (fun bj d hd q => ?_) (C.2.2.2.2.2.2 j hj)
          · have := so2 41 j (fun c => ej c.2)
            rw [a41] at this
            rw [this]; exact ((G 41 p41).2.2.2.2 j).2.2
          · have hP := pbk j hj ej bj d hd
            rw [(vi2 _ _).1, (vi2 _ _).2, (G d hP).1]
            exact ⟨((G d hP).2.2.2.2 q).1, ((G d hP).2.2.2.2 q).2.1⟩
    exact fin _ _ n2 Y15 h19 n (by omega) (by omega) CN (by omega) (Nat.le_refl n) (fun d hd => (G d (pv d hd)).1)
  have main : R9 (nI k) 0 0 Y h := by
    refine c9 _ _ _ _ _ ⟨k0, nm 41, o7, x41.1, ?_⟩
    rw [x41.2, nI_clamp (by omega)]
    refine ⟨vp_in_nI hk (by decide), ?_⟩
    rcases C.2.2.2.2.2.2 k hk with ⟨e, o⟩ | ⟨g, e, o, L⟩
    · rw [o]
      exact ⟨fun _ => r35 (by omega), fun a c => (by cases c)⟩
    · rw [o]
      refine ⟨fun c => (by cases c), fun a ea => ?_⟩
      rw [← Option.some.inj ea]
      refine ⟨vp_in_nI hk (by decide), nm tx, rfl, X.1, L.2.1.1, ⟨Nat.zero_le _, Nat.zero_le _⟩, ?_⟩
      rw [X.2.2.2.2.1]
      refine sp_X1_hasRoomFor L.2.1 L.1 hn4 (fun le => ⟨fun _ => ?_, fun c => absurd c (by decide)⟩) (fun lt => ⟨fun c => absurd rfl c, fun _ => r35 (by omega)⟩)
      exact fin 0 0 nm Y h g (Nat.zero_le _) (Nat.zero_le _) (by rw [upB_same e]; exact C) (by omega) le (fun d _ => rfl)
  rw [hx]
  rcases (show k = 0 ∨ k = 1 by omega) with e | e
  · rw [e] at main ⊢
    exact ⟨fun c => absurd rfl c, fun _ => main⟩
  · rw [e] at main ⊢
    exact ⟨fun _ => main, fun c => absurd c (by decide)⟩
