/-! the class's world in one -/
def OB (Y : xg_Y) (h : xg_H) (nm : Nat → Nat) : Prop := xg_is Y (nm 0) 11 ∧ xg_o h (nm 0) 0 = some (nm 100) ∧ (xg_o h (nm 0) 1 = some (nm 40) ∧ xk Y nm 40 28 3) ∧ xg_o h (nm 0) 2 = some (nm 50) ∧ xg_o h (nm 0) 3 = some (nm 10) ∧ xg_o h (nm 0) 4 = some (nm 20) ∧ xg_o h (nm 0) 5 = some (nm 30) ∧ (xg_o h (nm 0) 6 = some (nm 35) ∧ xg_is Y (nm 35) 4 ∧ xg_o h (nm 35) 3 = some (nm 30)) ∧ (xg_o h (nm 0) 7 = some (nm 41) ∧ xk Y nm 41 25 2)
theorem OB_s {P : Nat → Prop} {nm nm2 : Nat → Nat} {Y Y2 : xg_Y} {h h2 : xg_H} (a : grs P nm Y h nm2 Y2 h2) (p0 : P 0) (p10 : P 10) (p20 : P 20) (p30 : P 30) (p35 : P 35) (p50 : P 50) (p100 : P 100) (x40 : nm2 40 = nm 40 ∧ xk Y2 nm2 40 28 3) (x41 : nm2 41 = nm 41 ∧ xk Y2 nm2 41 25 2) (X : OB Y h nm) : OB Y2 h2 nm2 := by
  obtain ⟨k0, o0, ⟨o1, _⟩, o2, o3, o4, o5, ⟨o6, k35, s4⟩, ⟨o7, _⟩⟩ := X
  have n0 : ∀ j, ¬ exS 0 j := fun j => exS_n (by decide) (by decide)
  refine ⟨grs_is a p0 k0, grs_o a p0 p100 (n0 _) o0, ⟨?_, x40.2⟩, grs_o a p0 p50 (n0 _) o2, grs_o a p0 p10 (n0 _) o3, grs_o a p0 p20 (n0 _) o4, grs_o a p0 p30 (n0 _) o5, ⟨grs_o a p0 p35 (n0 _) o6, grs_is a p35 k35, grs_o a p35 p30 (exS_n (by decide) (by decide)) s4⟩, ⟨?_, x41.2⟩⟩
  · rw [(a 0 p0).1, (a 0 p0).2.2.2 1 (n0 _), x40.1]; exact o1
  · rw [(a 0 p0).1, (a 0 p0).2.2.2 7 (n0 _), x41.1]; exact o7
/-- the book of shelf i: q = 0 none, else it has room for q - 1 glasses -/
def BK (Y : xg_Y) (h : xg_H) (nm : Nat → Nat) (i q : Nat) : Prop := (q = 0 ∧ xg_o h (nm 41) i = none) ∨ ∃ g, q = g + 1 ∧ xg_o h (nm 41) i = some (nm (500 + 100 * i)) ∧ BB Y h nm (500 + 100 * i) g
/-- the image k -/
def IM (Y : xg_Y) (h : xg_H) (nm : Nat → Nat) (k : Nat) (s : Bool) (p : Nat → Nat → Int32) : Prop := (s = false ∧ xg_o h (nm 40) k = none) ∨ (s = true ∧ xg_o h (nm 40) k = some (nm (200 + 100 * k)) ∧ TLd Y h nm (200 + 100 * k) ∧ REL h nm (200 + 100 * k) p)
def CW (Y : xg_Y) (h : xg_H) (nm : Nat → Nat) (p : Nat → Nat → Int32) (pk : Nat → Nat → Nat → Int32) (sv : Nat → Bool) (b : Nat → Nat) : Prop := inj nm ∧ OB Y h nm ∧ (TLd Y h nm 100 ∧ REL h nm 100 p) ∧ (XB Y h nm ∧ XC Y h nm ∧ XR Y h nm) ∧ ST Y h nm ∧ (∀ k, k < 3 → IM Y h nm k (sv k) (pk k)) ∧ ∀ i, i < 2 → BK Y h nm i (b i)
/-- the names that live, but for images and books -/
def PV0 (d : Nat) : Prop := d = 0 ∨ (10 ≤ d ∧ d ≤ 15) ∨ (20 ≤ d ∧ d ≤ 27) ∨ (30 ≤ d ∧ d ≤ 32) ∨ d = 35 ∨ PRd d ∨ DT 100 8 d
theorem CW.co {Y : xg_Y} {h : xg_H} {nm : Nat → Nat} {p : Nat → Nat → Int32} {pk : Nat → Nat → Nat → Int32} {sv : Nat → Bool} {b : Nat → Nat} (C : CW Y h nm p pk sv b) (cn : xt_cnt p) : CO Y h nm p := ⟨C.2.1.1, C.2.1.2.1, C.2.2.1.1, C.2.2.1.2, cn⟩
theorem TLd_liv {Y : xg_Y} {h : xg_H} {nm : Nat → Nat} {b d : Nat} (T : TLd Y h nm b) (hd : DT b 8 d) : nm d ∈ Y.1 := by
  have T0 := T
  obtain ⟨t0, ⟨t1, t2⟩, ⟨t3, t4⟩, ⟨t5, t6⟩, _⟩ := T
  rcases hd with e | e | e | e | ⟨j, hj, e⟩
  · rw [e]; exact t0.1
  · rw [e]; exact t2.1.1
  · rw [e]; exact t4.1.1
  · rw [e]; exact t6.1.1
  · obtain ⟨x0, ⟨y0, ⟨y1, z1⟩, ⟨y2, z2⟩, ⟨y3, z3⟩⟩⟩ := T0.tx hj
    rcases e with e | e | e | e <;> rw [e]
    · exact y0.1
    · exact z1.1.1
    · exact z2.1.1
    · exact z3.1.1
theorem LW_liv {Y : xg_Y} {h : xg_H} {nm : Nat → Nat} {w N d : Nat} (L : LW Y h nm w N) (d1 : w ≤ d) (d2 : d ≤ w + 6) : nm d ∈ Y.1 := by
  rcases (show d = w ∨ d = w + 1 ∨ d = w + 2 ∨ d = w + 3 ∨ d = w + 4 ∨ d = w + 5 ∨ d = w + 6 by omega) with e | e | e | e | e | e | e <;> rw [e]
  · exact L.1.1
  · exact L.2.1.2.1.1
  · exact L.2.2.1.2.1.1
  · exact L.2.2.2.1.2.1.1
  · exact L.2.2.2.2.1.2.1.1
  · exact L.2.2.2.2.2.2.1.2.1.1
  · exact L.2.2.2.2.2.2.2.1.2.1.1
theorem LB_liv {Y : xg_Y} {h : xg_H} {nm : Nat → Nat} {B N N2 d : Nat} (L : LB Y h nm B N N2) (hd : BNs B d) : nm d ∈ Y.1 := by
  obtain ⟨k1, ⟨o0, l0⟩, ⟨o1, l1⟩, ⟨o2, ⟨c0, ⟨c1, c2⟩, ⟨c3, c4⟩, c5, c6, ⟨c7, c8⟩, c9⟩⟩, ⟨o3, x3⟩, ⟨o4, x4⟩, ⟨o5, x5⟩, ⟨o6, x6⟩, ⟨o7, x7⟩, ⟨o8, x8⟩, ⟨o9, x9⟩, hB⟩ := L
  rcases hd with e | e | e | e | e
  · rw [e]; exact k1.1
  · rcases (show d = B + 4 ∨ d = B + 5 ∨ d = B + 6 ∨ d = B + 7 ∨ d = B + 8 ∨ d = B + 9 ∨ d = B + 10 by omega) with e | e | e | e | e | e | e <;> rw [e]
    · exact x3.1.1
    · exact x4.1.1
    · exact x5.1.1
    · exact x6.1.1
    · exact x7.1.1
    · exact x8.1.1
    · exact x9.1.1
  · exact LW_liv l0 (by omega) (by omega)
  · exact LW_liv l1 (by omega) (by omega)
  · rcases (show d = B + 40 ∨ d = B + 40 + 1 ∨ d = B + 40 + 2 ∨ d = B + 40 + 3 by omega) with e | e | e | e <;> rw [e]
    · exact c0.1
    · exact c2.1.1
    · exact c4.1.1
    · exact c8.1.1
theorem CW_liv0 {Y : xg_Y} {h : xg_H} {nm : Nat → Nat} {p : Nat → Nat → Int32} {pk : Nat → Nat → Nat → Int32} {sv : Nat → Bool} {b : Nat → Nat} (C : CW Y h nm p pk sv b) : liv PV0 nm Y := by
  obtain ⟨hn, ⟨k0, _, _, _, _, _, _, ⟨_, k35, _⟩, _⟩, ⟨T, _⟩, ⟨⟨b0, b1, b2, b3⟩, ⟨c0, ⟨_, c1⟩, ⟨_, c2⟩, ⟨_, c3⟩, ⟨_, c4⟩, ⟨_, c5⟩, ⟨_, c6⟩, ⟨_, c7⟩⟩, ⟨r0, ⟨_, r1⟩, ⟨_, r2⟩, ⟨_, r3⟩, r4⟩⟩, ⟨⟨s0, _, s1, _, s2⟩, _⟩, _⟩ := C
  rintro d (e | e | e | e | e | e | e)
  · rw [e]; exact k0.1
  · rcases (show d = 10 ∨ d = 11 ∨ ∃ g, g < 4 ∧ d = 12 + g by
      rcases (show d = 10 ∨ d = 11 ∨ 12 ≤ d by omega) with e1 | e1 | e1
      · exact Or.inl e1
      · exact Or.inr (Or.inl e1)
      · exact Or.inr (Or.inr ⟨d - 12, by omega, by omega⟩)) with e1 | e1 | ⟨g, hg, e1⟩ <;> rw [e1]
    · exact b0.1
    · exact b2.1.1
    · exact (b3 g hg).2.1
  · rcases (show d = 20 ∨ d = 21 ∨ d = 22 ∨ d = 23 ∨ d = 24 ∨ d = 25 ∨ d = 26 ∨ d = 27 by omega) with e | e | e | e | e | e | e | e <;> rw [e]
    · exact c0.1
    · exact c1.1
    · exact c2.1.1
    · exact c3.1.1
    · exact c4.1.1
    · exact c5.1.1
    · exact c6.1.1
    · exact c7.1.1
  · rcases (show d = 30 ∨ d = 31 ∨ d = 32 by omega) with e | e | e <;> rw [e]
    · exact s0.1
    · exact s1.1.1
    · exact s2.1.1
  · rw [e]; exact k35.1
  · rcases e with e | e | e | e | e
    · rcases (show d = 50 ∨ d = 51 ∨ d = 52 ∨ d = 53 by omega) with e | e | e | e <;> rw [e]
      · exact r0.1
      · exact r1.1.1
      · exact r2.1.1
      · exact r3.1.1
    · have := r4 (d - 60) (by omega)
      rw [show 60 + (d - 60) = d by omega] at this
      exact this.2.1.1
    · have := r4 (d - 70) (by omega)
      rw [show 70 + (d - 70) = d by omega] at this
      exact this.2.2.1.2.1.1
    · have := r4 (d - 80) (by omega)
      rw [show 80 + (d - 80) = d by omega] at this
      exact this.2.2.2.1.2.1.1
    · have := r4 (d - 90) (by omega)
      rw [show 90 + (d - 90) = d by omega] at this
      exact this.2.2.2.2.2.1.1
  · exact TLd_liv T e
theorem BK_s {P : Nat → Prop} {nm nm2 : Nat → Nat} {Y Y2 : xg_Y} {h h2 : xg_H} {i q : Nat} (a : grs P nm Y h nm2 Y2 h2) (e41 : nm2 41 = nm 41) (o41 : xg_o h2 (nm 41) i = xg_o h (nm 41) i) (hp : 0 < q → ∀ d, BNs (500 + 100 * i) d → P d) (p30 : P 30) (v : 0 < q → agr (BNs (500 + 100 * i)) nm h nm2 h2) (B : BK Y h nm i q) : BK Y2 h2 nm2 i q := by
  rcases B with ⟨e, o⟩ | ⟨g, e, o, L⟩
  · exact Or.inl ⟨e, by rw [e41, o41]; exact o⟩
  · have hq : 0 < q := by omega
    refine Or.inr ⟨g, e, ?_, BB_s a (hp hq) p30 (v hq) L⟩
    rw [e41, o41, (a _ (hp hq _ (Or.inl rfl))).1]; exact o
theorem IM_s {P : Nat → Prop} {nm nm2 : Nat → Nat} {Y Y2 : xg_Y} {h h2 : xg_H} {k : Nat} {s : Bool} {p : Nat → Nat → Int32} (a : grs P nm Y h nm2 Y2 h2) (e40 : nm2 40 = nm 40) (o40 : xg_o h2 (nm 40) k = xg_o h (nm 40) k) (hp : s = true → ∀ d, DT (200 + 100 * k) 8 d → P d) (v : s = true → ∀ d, DT (200 + 100 * k) 8 d → ∀ j, xg_i h2 (nm2 d) j = xg_i h (nm d) j) (M : IM Y h nm k s p) : IM Y2 h2 nm2 k s p := by
  rcases M with ⟨e, o⟩ | ⟨e, o, T, R⟩
  · exact Or.inl ⟨e, by rw [e40, o40]; exact o⟩
  · refine Or.inr ⟨e, ?_, TLd_s (by omega) a (hp e) T, REL_v (v e) R⟩
    rw [e40, o40, (a _ (hp e _ (Or.inl rfl))).1]; exact o
/-- nothing new: what the references say stays; Told, Steps, images, books as given -/
theorem CW_n {Y : xg_Y} {h h2 : xg_H} {nm : Nat → Nat} {p p2 : Nat → Nat → Int32} {pk : Nat → Nat → Nat → Int32} {sv : Nat → Bool} {b : Nat → Nat} (C : CW Y h nm p pk sv b) (so : ∀ c j, ¬ exS c j → xg_o h2 (nm c) j = xg_o h (nm c) j) (R : REL h2 nm 100 p2) (kz : KN h2 nm ∧ RZ h2 nm) (im : ∀ k, k < 3 → ∀ d, DT (200 + 100 * k) 8 d → ∀ j, xg_i h2 (nm d) j = xg_i h (nm d) j) (bk : ∀ i, i < 2 → BK Y h2 nm i (b i)) : CW Y h2 nm p2 pk sv b := by
  obtain ⟨hn, O, ⟨T, _⟩, ⟨xb, xc, xr⟩, S, I, _⟩ := C
  have a := grs_n (Y := Y) so
  have tr : ∀ d, (fun _ : Nat => True) d := fun _ => trivial
  refine ⟨hn, OB_s a trivial trivial trivial trivial trivial trivial trivial ⟨rfl, O.2.2.1.2⟩ ⟨rfl, O.2.2.2.2.2.2.2.2.2⟩ O, ⟨TLd_s (by decide) a (fun _ _ => trivial) T, R⟩, ⟨XB_s a (fun _ _ _ => trivial) xb, XC_s a (fun _ _ _ => trivial) xc, XR_s a (fun _ _ => trivial) xr⟩, ⟨LSt_s a trivial trivial trivial S.1, kz.1, kz.2⟩, fun k hk => ?_, bk⟩
  exact IM_s a rfl (so 40 k (exS_n (by decide) (by decide))) (fun _ _ _ => trivial) (fun _ => im k hk) (I k hk)
/-- a question: only the scratch cells below 30, and 31, 32, 35 are written -/
theorem CW_q {Y : xg_Y} {h h2 : xg_H} {nm : Nat → Nat} {p : Nat → Nat → Int32} {pk : Nat → Nat → Nat → Int32} {sv : Nat → Bool} {b : Nat → Nat} (C : CW Y h nm p pk sv b) (so : ∀ c j, ¬ exS c j → xg_o h2 (nm c) j = xg_o h (nm c) j) (v : ∀ c, 100 ≤ c → ∀ j, xg_i h2 (nm c) j = xg_i h (nm c) j ∧ xg_l h2 (nm c) j = xg_l h (nm c) j) (kz : KN h2 nm ∧ RZ h2 nm) : CW Y h2 nm p pk sv b := by
  have dt : ∀ b' d, 100 ≤ b' → DT b' 8 d → 100 ≤ d := fun b' d hb hd => by
    rcases hd with e | e | e | e | ⟨j, hj, e⟩ <;> omega
  refine CW_n C so (REL_v (fun d hd j => (v d (dt 100 d (by decide) hd) j).1) C.2.2.1.2) kz (fun k hk d hd j => (v d (dt _ d (by omega) hd) j).1) (fun i hi => ?_)
  have a := grs_n (Y := Y) so
  exact BK_s a rfl (so 41 i (exS_n (by decide) (by decide))) (fun _ _ _ => trivial) trivial (fun _ d hd j => v d (by unfold BNs at hd; omega) j) (C.2.2.2.2.2.2 i hi)
theorem CW_xd {Y : xg_Y} {h h2 : xg_H} {nm : Nat → Nat} {p : Nat → Nat → Int32} {pk : Nat → Nat → Nat → Int32} {sv : Nat → Bool} {b : Nat → Nat} {L : List Nat} (C : CW Y h nm p pk sv b) (e : xd nm L h h2) (hL : ∀ c, c ∈ L → c < 30) : CW Y h2 nm p pk sv b := by
  have S := C.2.2.2.2.1
  refine CW_q C (fun c j _ => e.2 c j) (fun c hc j => e.1 c (fun m => by have := hL c m; omega) j) ⟨fun c hc => ?_, fun c hc => ?_⟩
  · rw [(e.1 32 (fun m => by have := hL 32 m; omega) c).1]; exact S.2.1 c hc
  · rw [(e.1 31 (fun m => by have := hL 31 m; omega) c).1]; exact S.2.2 c hc
theorem CW_xs {Y : xg_Y} {h h2 : xg_H} {nm : Nat → Nat} {p : Nat → Nat → Int32} {pk : Nat → Nat → Nat → Int32} {sv : Nat → Bool} {b : Nat → Nat} {L : List Nat} (C : CW Y h nm p pk sv b) (e : xd nm L h h2) (hL : ∀ c, c ∈ L → c < 100) (S : ST Y h2 nm) : CW Y h2 nm p pk sv b := CW_q C (fun c j _ => e.2 c j) (fun c hc j => e.1 c (fun m => by have := hL c m; omega) j) S.2
theorem CW_xc {Y : xg_Y} {h h2 : xg_H} {nm : Nat → Nat} {p : Nat → Nat → Int32} {pk : Nat → Nat → Nat → Int32} {sv : Nat → Bool} {b : Nat → Nat} (C : CW Y h nm p pk sv b) (e : xc nm h h2) : CW Y h2 nm p pk sv b := by
  have S := C.2.2.2.2.1
  have v : ∀ c, 30 ≤ c → ∀ j, xg_i h2 (nm c) j = xg_i h (nm c) j ∧ xg_l h2 (nm c) j = xg_l h (nm c) j := fun c hc j => e.1 c (by simp <;> omega) j
  refine CW_q C (fun c j n => e.2 c j (fun m => n (Or.inr m))) (fun c hc j => v c (by omega) j) ⟨fun c hc => ?_, fun c hc => ?_⟩
  · rw [(v 32 (by decide) c).1]; exact S.2.1 c hc
  · rw [(v 31 (by decide) c).1]; exact S.2.2 c hc
/-- a book was asked -/
theorem CW_bf {Y : xg_Y} {h h2 : xg_H} {nm : Nat → Nat} {p : Nat → Nat → Int32} {pk : Nat → Nat → Nat → Int32} {sv : Nat → Bool} {b : Nat → Nat} {i g n : Nat} {z t : Nat → Nat} (C : CW Y h nm p pk sv b) (hi : i < 2) (hb : b i = g + 1) (hn : n ≤ g) (e : bf nm (500 + 100 * i) h h2) (J : BJ Y h2 nm (500 + 100 * i) (rwn g) (rwn (g - 1)) n z t) : CW Y h2 nm p pk sv b := by
  have C0 := C
  obtain ⟨hn', O, ⟨T, R⟩, X, S, I, BKs⟩ := C
  have so : ∀ c j, ¬ exS c j → xg_o h2 (nm c) j = xg_o h (nm c) j := fun c j _ => e.2 c j
  have v : ∀ c, 100 ≤ c → (c < 500 + 100 * i ∨ 500 + 100 * i + 100 ≤ c) → ∀ j, xg_i h2 (nm c) j = xg_i h (nm c) j ∧ xg_l h2 (nm c) j = xg_l h (nm c) j := fun c hc hc2 j => e.1 c hc2 (by simp <;> omega) j
  have dt : ∀ b' d, 100 ≤ b' → b' ≤ 400 → DT b' 8 d → 100 ≤ d ∧ d < 500 := fun b' d hb hb2 hd => by
    rcases hd with e | e | e | e | ⟨j, hj, e⟩ <;> omega
  refine CW_n C0 so (REL_v (fun d hd j => (v d (dt 100 d (by decide) (by decide) hd).1 (by have := (dt 100 d (by decide) (by decide) hd).2; omega) j).1) R) J.2.1.2 (fun k hk d hd j => (v d (dt _ d (by omega) (by omega) hd).1 (by have := (dt _ d (by omega) (by omega) hd).2; omega) j).1) (fun i' hi' => ?_)
  by_cases ei : i' = i
  · rcases BKs i hi with ⟨e1, _⟩ | ⟨g', e1, o1, L⟩
    · omega
    · have eg : g' = g := by omega
      rw [eg] at L
      rw [ei]
      exact Or.inr ⟨g, hb, (e.2 41 i).trans o1, BJ_BB L.1 hn J⟩
  · exact BK_s (grs_n (Y := Y) so) rfl (so 41 i' (exS_n (by decide) (by decide))) (fun _ _ _ => trivial) trivial (fun _ d hd j => v d (by unfold BNs at hd; omega) (by unfold BNs at hd; omega) j) (BKs i' hi')
