/-! the class's world: everything that lasts from call to call, and how it is carried along -/
/-- slots that are written before they are read -/
abbrev exS (c j : Nat) : Prop := (c = 50 ∧ j = 5) ∨ (c = 20 ∧ (j = 12 ∨ j = 13))
theorem exS_n {c j : Nat} (h1 : c ≠ 50) (h2 : c ≠ 20) : ¬ exS c j := by
  rintro (h | h)
  · exact h1 h.1
  · exact h2 h.1
/-- what P names is laid out as it was -/
def grs (P : Nat → Prop) (nm : Nat → Nat) (Y : xg_Y) (h : xg_H) (nm2 : Nat → Nat) (Y2 : xg_Y) (h2 : xg_H) : Prop := ∀ d, P d → nm2 d = nm d ∧ (∀ k, xg_is Y (nm d) k → xg_is Y2 (nm d) k) ∧ xg_n Y2 (nm d) = xg_n Y (nm d) ∧ ∀ j, ¬ exS d j → xg_o h2 (nm d) j = xg_o h (nm d) j
theorem grs_g {P : Nat → Prop} {nm nm2 : Nat → Nat} {Y Y2 : xg_Y} {h h2 : xg_H} (a : gro P nm Y h nm2 Y2 h2) : grs P nm Y h nm2 Y2 h2 := fun d hd => by
  obtain ⟨a1, a2, a3, a4, a5⟩ := a d hd
  exact ⟨a1, a3, a4, fun j _ => (a5 j).2.2⟩
theorem grs_n {nm : Nat → Nat} {Y : xg_Y} {h h2 : xg_H} (so : ∀ c j, ¬ exS c j → xg_o h2 (nm c) j = xg_o h (nm c) j) : grs (fun _ => True) nm Y h nm Y h2 := fun d _ => ⟨rfl, fun _ x => x, rfl, fun j hj => so d j hj⟩
theorem grs_is {P : Nat → Prop} {nm nm2 : Nat → Nat} {Y Y2 : xg_Y} {h h2 : xg_H} {c k : Nat} (a : grs P nm Y h nm2 Y2 h2) (hc : P c) (x : xg_is Y (nm c) k) : xg_is Y2 (nm2 c) k := by
  rw [(a c hc).1]; exact (a c hc).2.1 k x
theorem grs_xk {P : Nat → Prop} {nm nm2 : Nat → Nat} {Y Y2 : xg_Y} {h h2 : xg_H} {c k n : Nat} (a : grs P nm Y h nm2 Y2 h2) (hc : P c) (x : xk Y nm c k n) : xk Y2 nm2 c k n := by
  unfold xk
  rw [(a c hc).1]
  exact ⟨(a c hc).2.1 k x.1, (a c hc).2.2.1.trans x.2⟩
theorem grs_o {P : Nat → Prop} {nm nm2 : Nat → Nat} {Y Y2 : xg_Y} {h h2 : xg_H} {c d j : Nat} (a : grs P nm Y h nm2 Y2 h2) (hc : P c) (hd : P d) (ne : ¬ exS c j) (x : xg_o h (nm c) j = some (nm d)) : xg_o h2 (nm2 c) j = some (nm2 d) := by
  rw [(a c hc).1, (a d hd).1, (a c hc).2.2.2 j ne]; exact x
theorem grs_z {P : Nat → Prop} {nm nm2 : Nat → Nat} {Y Y2 : xg_Y} {h h2 : xg_H} {c j : Nat} (a : grs P nm Y h nm2 Y2 h2) (hc : P c) (ne : ¬ exS c j) (x : xg_o h (nm c) j = none) : xg_o h2 (nm2 c) j = none := by
  rw [(a c hc).1, (a c hc).2.2.2 j ne]; exact x
theorem XB_s {P : Nat → Prop} {nm nm2 : Nat → Nat} {Y Y2 : xg_Y} {h h2 : xg_H} (a : grs P nm Y h nm2 Y2 h2) (hp : ∀ d, 10 ≤ d → d ≤ 15 → P d) (X : XB Y h nm) : XB Y2 h2 nm2 := by
  obtain ⟨x0, x1, x2, x3⟩ := X
  have p10 := hp 10 (by decide) (by decide)
  have p11 := hp 11 (by decide) (by decide)
  refine ⟨grs_is a p10 x0, grs_o a p10 p11 (by decide) x1, grs_xk a p11 x2, fun g hg => ?_⟩
  have pg := hp (12 + g) (by omega) (by omega)
  exact ⟨grs_o a p11 pg (exS_n (by decide) (by decide)) (x3 g hg).1, grs_is a pg (x3 g hg).2⟩
theorem XC_s {P : Nat → Prop} {nm nm2 : Nat → Nat} {Y Y2 : xg_Y} {h h2 : xg_H} (a : grs P nm Y h nm2 Y2 h2) (hp : ∀ d, 20 ≤ d → d ≤ 27 → P d) (X : XC Y h nm) : XC Y2 h2 nm2 := by
  obtain ⟨x0, ⟨o1, x1⟩, ⟨o2, x2⟩, ⟨o3, x3⟩, ⟨o4, x4⟩, ⟨o5, x5⟩, ⟨o6, x6⟩, ⟨o7, x7⟩⟩ := X
  have p0 := hp 20 (by decide) (by decide)
  have p1 := hp 21 (by decide) (by decide)
  have p2 := hp 22 (by decide) (by decide)
  have p3 := hp 23 (by decide) (by decide)
  have p4 := hp 24 (by decide) (by decide)
  have p5 := hp 25 (by decide) (by decide)
  have p6 := hp 26 (by decide) (by decide)
  have p7 := hp 27 (by decide) (by decide)
  exact ⟨grs_is a p0 x0, ⟨grs_o a p0 p1 (by decide) o1, grs_is a p1 x1⟩, ⟨grs_o a p0 p2 (by decide) o2, grs_xk a p2 x2⟩, ⟨grs_o a p0 p3 (by decide) o3, grs_xk a p3 x3⟩, ⟨grs_o a p0 p4 (by decide) o4, grs_xk a p4 x4⟩, ⟨grs_o a p0 p5 (by decide) o5, grs_xk a p5 x5⟩, ⟨grs_o a p0 p6 (by decide) o6, grs_xk a p6 x6⟩, ⟨grs_o a p0 p7 (by decide) o7, grs_xk a p7 x7⟩⟩
def PRd (d : Nat) : Prop := (50 ≤ d ∧ d ≤ 53) ∨ (60 ≤ d ∧ d ≤ 63) ∨ (70 ≤ d ∧ d ≤ 73) ∨ (80 ≤ d ∧ d ≤ 83) ∨ (90 ≤ d ∧ d ≤ 93)
theorem XR_s {P : Nat → Prop} {nm nm2 : Nat → Nat} {Y Y2 : xg_Y} {h h2 : xg_H} (a : grs P nm Y h nm2 Y2 h2) (hp : ∀ d, PRd d → P d) (X : XR Y h nm) : XR Y2 h2 nm2 := by
  obtain ⟨x0, ⟨o1, x1⟩, ⟨o2, x2⟩, ⟨o3, x3⟩, x4⟩ := X
  have p0 := hp 50 (by unfold PRd; omega)
  have p1 := hp 51 (by unfold PRd; omega)
  have p2 := hp 52 (by unfold PRd; omega)
  have p3 := hp 53 (by unfold PRd; omega)
  refine ⟨grs_is a p0 x0, ⟨grs_o a p0 p1 (by decide) o1, grs_xk a p1 x1⟩, ⟨grs_o a p0 p2 (by decide) o2, grs_xk a p2 x2⟩, ⟨grs_o a p0 p3 (by decide) o3, grs_xk a p3 x3⟩, fun s hs => ?_⟩
  obtain ⟨y0, y1, ⟨y2, y3⟩, ⟨y4, y5⟩, ⟨y6, y7⟩⟩ := x4 s hs
  have q6 := hp (60 + s) (by unfold PRd; omega)
  have q7 := hp (70 + s) (by unfold PRd; omega)
  have q8 := hp (80 + s) (by unfold PRd; omega)
  have q9 := hp (90 + s) (by unfold PRd; omega)
  have n6 : ∀ j, ¬ exS (60 + s) j := fun j => exS_n (by omega) (by omega)
  exact ⟨grs_o a p1 q6 (exS_n (by decide) (by decide)) y0, grs_is a q6 y1, ⟨grs_o a q6 q7 (n6 _) y2, grs_xk a q7 y3⟩, ⟨grs_o a q6 q8 (n6 _) y4, grs_xk a q8 y5⟩, ⟨grs_o a q6 q9 (n6 _) y6, grs_xk a q9 y7⟩⟩
theorem LSt_s {P : Nat → Prop} {nm nm2 : Nat → Nat} {Y Y2 : xg_Y} {h h2 : xg_H} (a : grs P nm Y h nm2 Y2 h2) (p0 : P 30) (p1 : P 31) (p2 : P 32) (X : LSt Y h nm) : LSt Y2 h2 nm2 := by
  obtain ⟨x0, x1, x2, x3, x4⟩ := X
  exact ⟨grs_is a p0 x0, grs_o a p0 p1 (by decide) x1, grs_xk a p1 x2, grs_o a p0 p2 (by decide) x3, grs_xk a p2 x4⟩
theorem TLd_s {P : Nat → Prop} {nm nm2 : Nat → Nat} {Y Y2 : xg_Y} {h h2 : xg_H} {b : Nat} (hb : 100 ≤ b) (a : grs P nm Y h nm2 Y2 h2) (hp : ∀ d, DT b 8 d → P d) (T : TLd Y h nm b) : TLd Y2 h2 nm2 b := by
  have b0 : P b := hp _ (Or.inl rfl)
  have b1 : P (b + 1) := hp _ (Or.inr (Or.inl rfl))
  have b2 : P (b + 2) := hp _ (Or.inr (Or.inr (Or.inl rfl)))
  have b3 : P (b + 3) := hp _ (Or.inr (Or.inr (Or.inr (Or.inl rfl))))
  have T0 := T
  obtain ⟨t0, ⟨t1, t2⟩, ⟨t3, t4⟩, ⟨t5, t6⟩, _⟩ := T
  have nb : ∀ j, ¬ exS b j := fun j => exS_n (by omega) (by omega)
  refine TLd_of ⟨grs_is a b0 t0, ⟨grs_o a b0 b1 (nb _) t1, grs_xk a b1 t2⟩, ⟨grs_o a b0 b2 (nb _) t3, grs_xk a b2 t4⟩, ⟨grs_o a b0 b3 (nb _) t5, grs_xk a b3 t6⟩⟩ (fun j hj => ?_)
  obtain ⟨x0, ⟨y0, ⟨y1, z1⟩, ⟨y2, z2⟩, ⟨y3, z3⟩⟩⟩ := T0.tx hj
  have p0 : P (b + 11 + j) := hp _ (Or.inr (Or.inr (Or.inr (Or.inr ⟨j, hj, Or.inl rfl⟩))))
  have p1 : P (b + 11 + j + 10) := hp _ (Or.inr (Or.inr (Or.inr (Or.inr ⟨j, hj, Or.inr (Or.inl rfl)⟩))))
  have p2 : P (b + 11 + j + 20) := hp _ (Or.inr (Or.inr (Or.inr (Or.inr ⟨j, hj, Or.inr (Or.inr (Or.inl rfl))⟩))))
  have p3 : P (b + 11 + j + 30) := hp _ (Or.inr (Or.inr (Or.inr (Or.inr ⟨j, hj, Or.inr (Or.inr (Or.inr rfl))⟩))))
  have nj : ∀ q, ¬ exS (b + 11 + j) q := fun q => exS_n (by omega) (by omega)
  exact ⟨grs_o a b3 p0 (exS_n (by omega) (by omega)) x0, ⟨grs_is a p0 y0, ⟨grs_o a p0 p1 (nj _) y1, grs_xk a p1 z1⟩, ⟨grs_o a p0 p2 (nj _) y2, grs_xk a p2 z2⟩, ⟨grs_o a p0 p3 (nj _) y3, grs_xk a p3 z3⟩⟩⟩
/-- the cells of a book -/
def BNs (B d : Nat) : Prop := d = B ∨ (B + 4 ≤ d ∧ d ≤ B + 10) ∨ (B + 20 ≤ d ∧ d ≤ B + 26) ∨ (B + 30 ≤ d ∧ d ≤ B + 36) ∨ (B + 40 ≤ d ∧ d ≤ B + 43)
theorem LW_s {P : Nat → Prop} {nm nm2 : Nat → Nat} {Y Y2 : xg_Y} {h h2 : xg_H} {w N : Nat} (a : grs P nm Y h nm2 Y2 h2) (hp : ∀ d, w ≤ d → d ≤ w + 6 → P d) (p30 : P 30) (L : LW Y h nm w N) : LW Y2 h2 nm2 w N := by
  obtain ⟨k, ⟨o0, x0⟩, ⟨o1, x1⟩, ⟨o2, x2⟩, ⟨o3, x3⟩, o6, ⟨o7, x7⟩, ⟨o8, x8⟩, b1, b2⟩ := L
  have pw := hp w (by omega) (by omega)
  have q1 := hp (w + 1) (by omega) (by omega)
  have q2 := hp (w + 2) (by omega) (by omega)
  have q3 := hp (w + 3) (by omega) (by omega)
  have q4 := hp (w + 4) (by omega) (by omega)
  have q5 := hp (w + 5) (by omega) (by omega)
  have q6 := hp (w + 6) (by omega) (by omega)
  have nw : ∀ j, ¬ exS w j := fun j => exS_n (by omega) (by omega)
  exact ⟨grs_is a pw k, ⟨grs_o a pw q1 (nw _) o0, grs_xk a q1 x0⟩, ⟨grs_o a pw q2 (nw _) o1, grs_xk a q2 x1⟩, ⟨grs_o a pw q3 (nw _) o2, grs_xk a q3 x2⟩, ⟨grs_o a pw q4 (nw _) o3, grs_xk a q4 x3⟩, grs_o a pw p30 (nw _) o6, ⟨grs_o a pw q5 (nw _) o7, grs_xk a q5 x7⟩, ⟨grs_o a pw q6 (nw _) o8, grs_xk a q6 x8⟩, b1, b2⟩
/-- the numbers in the cells that V names are as they were -/
def agr (V : Nat → Prop) (nm : Nat → Nat) (h : xg_H) (nm2 : Nat → Nat) (h2 : xg_H) : Prop := ∀ d, V d → ∀ j, xg_i h2 (nm2 d) j = xg_i h (nm d) j ∧ xg_l h2 (nm2 d) j = xg_l h (nm d) j
theorem LB_s {P : Nat → Prop} {nm nm2 : Nat → Nat} {Y Y2 : xg_Y} {h h2 : xg_H} {B N N2 : Nat} (a : grs P nm Y h nm2 Y2 h2) (hp : ∀ d, BNs B d → P d) (p30 : P 30) (v : agr (BNs B) nm h nm2 h2) (L : LB Y h nm B N N2) : LB Y2 h2 nm2 B N N2 := by
  obtain ⟨k1, ⟨o0, l0⟩, ⟨o1, l1⟩, ⟨o2, ⟨c0, ⟨c1, c2⟩, ⟨c3, c4⟩, c5, c6, ⟨c7, c8⟩, c9⟩⟩, ⟨o3, x3⟩, ⟨o4, x4⟩, ⟨o5, x5⟩, ⟨o6, x6⟩, ⟨o7, x7⟩, ⟨o8, x8⟩, ⟨o9, x9⟩, hB⟩ := L
  have q : ∀ o, (o = 0 ∨ (4 ≤ o ∧ o ≤ 10) ∨ (20 ≤ o ∧ o ≤ 26) ∨ (30 ≤ o ∧ o ≤ 36) ∨ (40 ≤ o ∧ o ≤ 43)) → P (B + o) := fun o ho => hp _ (by unfold BNs; omega)
  have p0 : P B := q 0 (by decide)
  have nB : ∀ j, ¬ exS B j := fun j => exS_n (by omega) (by omega)
  have p20 := q 20 (by decide)
  have p30' := q 30 (by decide)
  have p40 := q 40 (by decide)
  have nC : ∀ j, ¬ exS (B + 40) j := fun j => exS_n (by omega) (by omega)
  refine ⟨grs_is a p0 k1, ⟨grs_o a p0 p20 (nB _) o0, LW_s a (fun d d1 d2 => hp _ (by unfold BNs; omega)) p30 l0⟩, ⟨grs_o a p0 p30' (nB _) o1, LW_s a (fun d d1 d2 => hp _ (by unfold BNs; omega)) p30 l1⟩, ⟨grs_o a p0 p40 (nB _) o2, ⟨grs_is a p40 c0, ⟨grs_o a p40 (q 41 (by decide)) (nC _) c1, grs_xk a (q 41 (by decide)) c2⟩, ⟨grs_o a p40 (q 42 (by decide)) (nC _) c3, grs_xk a (q 42 (by decide)) c4⟩, grs_o a p40 p20 (nC _) c5, ((v (B + 40) (by unfold BNs; omega) 3).1).trans c6, ⟨grs_o a p40 (q 43 (by decide)) (nC _) c7, grs_xk a (q 43 (by decide)) c8⟩, c9⟩⟩, ⟨grs_o a p0 (q 4 (by decide)) (nB _) o3, grs_xk a (q 4 (by decide)) x3⟩, ⟨grs_o a p0 (q 5 (by decide)) (nB _) o4, grs_xk a (q 5 (by decide)) x4⟩, ⟨grs_o a p0 (q 6 (by decide)) (nB _) o5, grs_xk a (q 6 (by decide)) x5⟩, ⟨grs_o a p0 (q 7 (by decide)) (nB _) o6, grs_xk a (q 7 (by decide)) x6⟩, ⟨grs_o a p0 (q 8 (by decide)) (nB _) o7, grs_xk a (q 8 (by decide)) x7⟩, ⟨grs_o a p0 (q 9 (by decide)) (nB _) o8, grs_xk a (q 9 (by decide)) x8⟩, ⟨grs_o a p0 (q 10 (by decide)) (nB _) o9, grs_xk a (q 10 (by decide)) x9⟩, hB⟩
theorem BI_v {nm nm2 : Nat → Nat} {B N n : Nat} {z t : Nat → Nat} {h h2 : xg_H} (v : agr (BNs B) nm h nm2 h2) (I : BI h nm B N n z t) : BI h2 nm2 B N n z t := by
  obtain ⟨r, cs, C, b1, b2, b3, b4, b5, b6⟩ := I
  have e : ∀ o, (o = 0 ∨ (4 ≤ o ∧ o ≤ 10) ∨ (20 ≤ o ∧ o ≤ 26) ∨ (30 ≤ o ∧ o ≤ 36) ∨ (40 ≤ o ∧ o ≤ 43)) → ∀ j, xg_i h2 (nm2 (B + o)) j = xg_i h (nm (B + o)) j := fun o ho j => (v (B + o) (by unfold BNs; omega) j).1
  have e0 : ∀ j, xg_i h2 (nm2 B) j = xg_i h (nm B) j := e 0 (by decide)
  have f4 := e 4 (by decide)
  have f5 := e 5 (by decide)
  have f6 := e 6 (by decide)
  have f7 := e 7 (by decide)
  have f9 := e 9 (by decide)
  have f10 := e 10 (by decide)
  have f20 := e 20 (by decide)
  have f21 := e 21 (by decide)
  have f22 := e 22 (by decide)
  have f23 := e 23 (by decide)
  have f24 := e 24 (by decide)
  have f41 := e 41 (by decide)
  have f42 := e 42 (by decide)
  have f43 := e 43 (by decide)
  have l8 : ∀ j, xg_l h2 (nm2 (B + 8)) j = xg_l h (nm (B + 8)) j := fun j => (v (B + 8) (by unfold BNs; omega) j).2
  refine ⟨r, cs, ?_, fun i hi => ?_, ?_, ?_, ?_, ?_, ?_⟩
  · obtain ⟨a0, a1, a2, a3, a4, a5, a6⟩ := C
    refine ⟨a0, (e0 12).trans a1, (e0 13).trans a2, (e0 14).trans a3, ?_, ⟨fun i hi => ?_, fun k hk => ?_⟩, by rw [e0]; exact a6⟩
    · obtain ⟨b1, b2, b3, b4, b5, b6⟩ := a4
      refine ⟨b1, (f20 4).trans b2, (f20 5).trans b3, fun i hi => ⟨(f21 i).trans (b4 i hi).1, (b4 i hi).2⟩, b5, fun i s hi hs => ?_⟩
      obtain ⟨d1, d2⟩ := b6 i s hi hs
      refine ⟨fun q => ?_, fun q => (f24 _).trans (d2 q)⟩
      obtain ⟨j, y1, y2, y3⟩ := d1 q
      exact ⟨j, y1, y2, (f24 _).trans y3⟩
    · rw [show B + 20 + 2 = B + 22 from rfl, f22]; exact a5.1 i hi
    · rw [show B + 20 + 3 = B + 23 from rfl, f23]; exact a5.2 k hk
  · rw [f7]; exact b1 i hi
  · unfold B2 at *
    rw [e0]
    refine b2.imp id (fun ⟨a1, a2⟩ => ⟨a1, fun T h1 h3 => ?_⟩)
    rw [f4, f6]; exact a2 T h1 h3
  · unfold B3 at *
    rw [e0]
    refine b3.imp id (fun ⟨a1, a2, a3⟩ => ⟨a1, ⟨a2.1, fun s hs => ⟨(f41 s).trans (a2.2.1 s hs).1, (a2.2.1 s hs).2⟩, fun j hj => ⟨(f42 j).trans (a2.2.2 j hj).1, (a2.2.2 j hj).2⟩⟩, fun T j h1 h3 h4 => ?_⟩)
    obtain ⟨x, x1, x2, x3⟩ := a3 T j h1 h3 h4
    exact ⟨x, (f43 _).trans x1, x2, x3⟩
  · unfold B4 at *
    rw [e0]
    refine b4.imp id (fun ⟨pr, a1, a0, a2, a3⟩ => ⟨pr, a1, a0, a2, fun T h1 h3 => ?_⟩)
    rw [f5]; exact a3 T h1 h3
  · unfold B5 at *
    rw [e0, e0]
    refine b5.imp id (fun ⟨T, Ln, rs, rm, a1, a2, a3, a4, a5, a6⟩ => ⟨T, Ln, rs, rm, a1, a2, a3, a4, a5, fun k hk => ?_⟩)
    rw [f9, f10]; exact a6 k hk
  · unfold B6 at *
    rw [e0]
    refine b6.imp id (fun ⟨a1, a2⟩ => ⟨a1, fun T h1 h3 => ?_⟩)
    rw [l8]; exact a2 T h1 h3
theorem BB_s {P : Nat → Prop} {nm nm2 : Nat → Nat} {Y Y2 : xg_Y} {h h2 : xg_H} {B g : Nat} (a : grs P nm Y h nm2 Y2 h2) (hp : ∀ d, BNs B d → P d) (p30 : P 30) (v : agr (BNs B) nm h nm2 h2) (L : BB Y h nm B g) : BB Y2 h2 nm2 B g := by
  obtain ⟨h4, l, c⟩ := L
  refine ⟨h4, LB_s a hp p30 v l, c.imp (fun e => ?_) (fun ⟨n, z, t, hn, I⟩ => ⟨n, z, t, hn, BI_v v I⟩)⟩
  exact ((v B (Or.inl rfl) 12).1).trans e
theorem BJ_BB {Y : xg_Y} {h : xg_H} {nm : Nat → Nat} {B g n : Nat} {z t : Nat → Nat} (hg : g ≤ 4) (hn : n ≤ g) (J : BJ Y h nm B (rwn g) (rwn (g - 1)) n z t) : BB Y h nm B g := ⟨hg, J.1, Or.inr ⟨n, z, t, hn, J.2.2.1⟩⟩
/-- Told at b stands for the rows p -/
def REL (h : xg_H) (nm : Nat → Nat) (b : Nat) (p : Nat → Nat → Int32) : Prop := xt_rel h (nm b) (fun i => nm (b + 1 + i)) p
theorem REL_v {nm nm2 : Nat → Nat} {h h2 : xg_H} {b : Nat} {p : Nat → Nat → Int32} (v : ∀ d, DT b 8 d → ∀ j, xg_i h2 (nm2 d) j = xg_i h (nm d) j) (R : REL h nm b p) : REL h2 nm2 b p := by
  have e0 := v b (Or.inl rfl)
  have e1 := v (b + 1) (Or.inr (Or.inl rfl))
  have e2 := v (b + 2) (Or.inr (Or.inr (Or.inl rfl)))
  have x1 : ∀ j, j < 8 → ∀ q, xg_i h2 (nm2 (b + 1 + (10 + j))) q = xg_i h (nm (b + 1 + (10 + j))) q := fun j hj q => v _ (Or.inr (Or.inr (Or.inr (Or.inr ⟨j, hj, Or.inl (by omega)⟩)))) q
  have x2 : ∀ j, j < 8 → ∀ q, xg_i h2 (nm2 (b + 1 + (20 + j))) q = xg_i h (nm (b + 1 + (20 + j))) q := fun j hj q => v _ (Or.inr (Or.inr (Or.inr (Or.inr ⟨j, hj, Or.inr (Or.inl (by omega))⟩)))) q
  have x3 : ∀ j, j < 8 → ∀ q, xg_i h2 (nm2 (b + 1 + (30 + j))) q = xg_i h (nm (b + 1 + (30 + j))) q := fun j hj q => v _ (Or.inr (Or.inr (Or.inr (Or.inr ⟨j, hj, Or.inr (Or.inr (Or.inl (by omega)))⟩)))) q
  have x4 : ∀ j, j < 8 → ∀ q, xg_i h2 (nm2 (b + 1 + (40 + j))) q = xg_i h (nm (b + 1 + (40 + j))) q := fun j hj q => v _ (Or.inr (Or.inr (Or.inr (Or.inr ⟨j, hj, Or.inr (Or.inr (Or.inr (by omega)))⟩)))) q
  obtain ⟨⟨r1, r2, r3⟩, r4, r5, r6⟩ := R
  refine ⟨⟨(e0 1).trans r1, (e0 2).trans r2, (e0 3).trans r3⟩, fun j hj => (e1 j).trans (r4 j hj), fun s hs => (e2 s).trans (r5 s hs), fun k hk => ?_⟩
  obtain ⟨⟨n, a1, a2, ⟨a3, a4⟩, a5⟩, ⟨n', b1, b2, b3, b4⟩, ⟨n2, c1, c2, c3, c4⟩, ⟨n3, d1, d2, d3, d4⟩⟩ := r6 k hk
  refine ⟨⟨n, a1, a2, ⟨(x1 _ (by omega) _).trans a3, fun q hq => ⟨(x2 _ (by omega) _).trans (a4 q hq).1, (x3 _ (by omega) _).trans (a4 q hq).2⟩⟩, fun q hq => (x4 _ (by omega) _).trans (a5 q hq)⟩, ⟨n', b1, b2, (x1 _ (by omega) _).trans b3, fun q hq => ⟨(x2 _ (by omega) _).trans (b4 q hq).1, (x3 _ (by omega) _).trans (b4 q hq).2⟩⟩, ⟨n2, c1, c2, (x1 _ (by omega) _).trans c3, fun q hq => ⟨(x2 _ (by omega) _).trans (c4 q hq).1, (x3 _ (by omega) _).trans (c4 q hq).2⟩⟩, ⟨n3, d1, d2, (x1 _ (by omega) _).trans d3, fun q hq => (x2 _ (by omega) _).trans (d4 q hq)⟩⟩
