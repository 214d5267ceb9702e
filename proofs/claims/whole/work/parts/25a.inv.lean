/-! what holds at the head of the law's loop, between class and reference -/
def rsz : Nat → Nat
  | 1 => 600
  | 5 => 4
  | 6 => 26
  | 7 => 162
  | 8 => 34
  | 9 => 14
  | _ => 1
/-- the rows of the image k in the reference -/
def pkf (g : mg_H) (k c j : Nat) : Int32 := mg_i g c (rsz c * (k + 1) + j)
/-- two frames hold the same -/
def agB (p p' : Nat → Nat → Int32) : Prop := (∀ j, j < 600 → p' 1 j &&& 255 = p 1 j &&& 255) ∧ ∀ c, 2 ≤ c → c ≤ 9 → ∀ j, j < rsz c → p' c j = p c j
theorem agB.rf {p : Nat → Nat → Int32} : agB p p := ⟨fun _ _ => rfl, fun _ _ _ _ _ => rfl⟩
theorem agB_s {g g2 : mg_H} (m : mp_same g g2) : agB (mg_i g) (mg_i g2) := ⟨fun j _ => by rw [m 1 (by decide)], fun c h1 h2 j _ => m c (by omega) j⟩
theorem agB_k {g g2 : mg_H} {k : Nat} (m : mp_same g g2) : agB (pkf g k) (pkf g2 k) := ⟨fun j _ => by unfold pkf; rw [m 1 (by decide)], fun c h1 h2 j _ => m c (by omega) _⟩
theorem REL_b {h : xg_H} {nm : Nat → Nat} {b : Nat} {p p' : Nat → Nat → Int32} (e : agB p p') (R : REL h nm b p) : REL h nm b p' := by
  obtain ⟨e1, e⟩ := e
  have q2 : ∀ j, j < 1 → p' 2 j = p 2 j := e 2 (by decide) (by decide)
  have q3 : ∀ j, j < 1 → p' 3 j = p 3 j := e 3 (by decide) (by decide)
  have q4 : ∀ j, j < 1 → p' 4 j = p 4 j := e 4 (by decide) (by decide)
  have q5 : ∀ j, j < 4 → p' 5 j = p 5 j := e 5 (by decide) (by decide)
  have q6 : ∀ j, j < 26 → p' 6 j = p 6 j := e 6 (by decide) (by decide)
  have q7 : ∀ j, j < 162 → p' 7 j = p 7 j := e 7 (by decide) (by decide)
  have q8 : ∀ j, j < 34 → p' 8 j = p 8 j := e 8 (by decide) (by decide)
  have q9 : ∀ j, j < 14 → p' 9 j = p 9 j := e 9 (by decide) (by decide)
  obtain ⟨⟨r1, r2, r3⟩, r4, r5, r6⟩ := R
  refine ⟨⟨r1.trans (q2 0 (by decide)).symm, r2.trans (q3 0 (by decide)).symm, r3.trans (q4 0 (by decide)).symm⟩, fun j hj => (r4 j hj).trans (e1 j hj).symm, fun s hs => (r5 s hs).trans (q5 s hs).symm, fun k hk => ?_⟩
  obtain ⟨⟨n, a1, a2, ⟨a3, a4⟩, a5⟩, ⟨n', b1, b2, b3, b4⟩, ⟨n2, c1, c2, c3, c4⟩, ⟨n3, d1, d2, d3, d4⟩⟩ := r6 k hk
  refine ⟨⟨n, a1, (q6 _ (by omega)).trans a2, ⟨a3, fun q hq => ⟨(a4 q hq).1.trans (q6 _ (by omega)).symm, (a4 q hq).2.trans (q6 _ (by omega)).symm⟩⟩, fun q hq => (a5 q hq).trans (q6 _ (by omega)).symm⟩, ⟨n', b1, (q7 _ (by omega)).trans b2, b3, fun q hq => ⟨(b4 q hq).1.trans (q7 _ (by omega)).symm, (b4 q hq).2.trans (q7 _ (by omega)).symm⟩⟩, ⟨n2, c1, (q8 _ (by omega)).trans c2, c3, fun q hq => ⟨(c4 q hq).1.trans (q8 _ (by omega)).symm, (c4 q hq).2.trans (q8 _ (by omega)).symm⟩⟩, ⟨n3, d1, (q9 _ (by omega)).trans d2, d3, fun q hq => (d4 q hq).trans (q9 _ (by omega)).symm⟩⟩
theorem SR_b {p p' : Nat → Nat → Int32} {k n : Nat} {z t pr : Nat → Nat} (q : ∀ j, j < 26 → p' 6 j = p 6 j) (hk : k < 2) (S : SR p k n z t pr) : SR p' k n z t pr := by
  have hn := S.1
  refine ⟨S.1, (q _ (by omega)).trans S.2.1, fun j hj => ?_, S.2.2.2⟩
  obtain ⟨a1, a2, a3, a4⟩ := S.2.2.1 j hj
  exact ⟨(q _ (by omega)).trans a1, (q _ (by omega)).trans a2, (q _ (by omega)).trans a3, a4⟩
theorem DY_b {p p' : Nat → Nat → Int32} {k m : Nat} {kd yy : Nat → Nat} (q : ∀ j, j < 162 → p' 7 j = p 7 j) (hk : k < 2) (S : DY p k m kd yy) : DY p' k m kd yy := by
  have hn := S.1
  refine ⟨S.1, (q _ (by omega)).trans S.2.1, fun j hj => ?_⟩
  obtain ⟨a1, a2, a3⟩ := S.2.2 j hj
  exact ⟨(q _ (by omega)).trans a1, (q _ (by omega)).trans a2, a3⟩
theorem LG_b {p p' : Nat → Nat → Int32} {k c : Nat} {mi gl : Nat → Nat} (q : ∀ j, j < 34 → p' 8 j = p 8 j) (hk : k < 2) (S : LGr p k c mi gl) : LGr p' k c mi gl := by
  have hn := S.1
  refine ⟨S.1, (q _ (by omega)).trans S.2.1, fun j hj => ?_⟩
  obtain ⟨a1, a2, a3⟩ := S.2.2 j hj
  exact ⟨(q _ (by omega)).trans a1, (q _ (by omega)).trans a2, a3⟩
theorem OR_b {p p' : Nat → Nat → Int32} {k n : Nat} {sp : Nat → Nat} (q : ∀ j, j < 14 → p' 9 j = p 9 j) (hk : k < 2) (S : OR p k n sp) : OR p' k n sp := by
  have hn := S.1
  refine ⟨S.1, (q _ (by omega)).trans S.2.1, fun j hj => ?_⟩
  obtain ⟨a1, a2⟩ := S.2.2 j hj
  exact ⟨(q _ (by omega)).trans a1, a2⟩
/-- the texts of a frame are as texts are -/
def VAL (p : Nat → Nat → Int32) : Prop := xt_cnt p ∧ (∃ L, L ≤ 600 ∧ p 2 0 = nI L) ∧ (∀ k x, okN p 0 x k → ∃ n z t pr, SR p k n z t pr) ∧ (∀ k x, okN p 1 x k → ∃ m kd yy, DY p k m kd yy) ∧ (∀ k x, okN p 2 x k → ∃ c mi gl, LGr p k c mi gl) ∧ ∀ k x, okN p 3 x k → ∃ n sp, OR p k n sp
theorem okN_b {p p' : Nat → Nat → Int32} {s k : Nat} {x : Int32} (e : p' 5 s = p 5 s) (h : okN p' s x k) : okN p s x k := by
  unfold okN at *
  rw [← e]; exact h
theorem VAL_b {p p' : Nat → Nat → Int32} (e : agB p p') (V : VAL p) : VAL p' := by
  obtain ⟨_, e⟩ := e
  obtain ⟨v1, ⟨L, hL, v2⟩, v3, v4, v5, v6⟩ := V
  have q5 : ∀ j, j < 4 → p' 5 j = p 5 j := e 5 (by decide) (by decide)
  refine ⟨fun s hs => ?_, ⟨L, hL, (e 2 (by decide) (by decide) 0 (by decide)).trans v2⟩, fun k x hx => ?_, fun k x hx => ?_, fun k x hx => ?_, fun k x hx => ?_⟩
  · obtain ⟨m, hm, em⟩ := v1 s hs
    exact ⟨m, hm, (q5 s hs).trans em⟩
  · obtain ⟨n, z, t, pr, S⟩ := v3 k x (okN_b (q5 0 (by decide)) hx)
    exact ⟨n, z, t, pr, SR_b (e 6 (by decide) (by decide)) hx.2.1 S⟩
  · obtain ⟨m, kd, yy, S⟩ := v4 k x (okN_b (q5 1 (by decide)) hx)
    exact ⟨m, kd, yy, DY_b (e 7 (by decide) (by decide)) hx.2.1 S⟩
  · obtain ⟨m, kd, yy, S⟩ := v5 k x (okN_b (q5 2 (by decide)) hx)
    exact ⟨m, kd, yy, LG_b (e 8 (by decide) (by decide)) hx.2.1 S⟩
  · obtain ⟨n, sp, S⟩ := v6 k x (okN_b (q5 3 (by decide)) hx)
    exact ⟨n, sp, OR_b (e 9 (by decide) (by decide)) hx.2.1 S⟩
theorem CW_p {Y : xg_Y} {h : xg_H} {nm : Nat → Nat} {p p' : Nat → Nat → Int32} {pk pk' : Nat → Nat → Nat → Int32} {sv : Nat → Bool} {b : Nat → Nat} (C : CW Y h nm p pk sv b) (e : agB p p') (ek : ∀ k, k < 3 → sv k = true → agB (pk k) (pk' k)) : CW Y h nm p' pk' sv b := by
  obtain ⟨hn, O, ⟨T, R⟩, X, S, I, B⟩ := C
  refine ⟨hn, O, ⟨T, REL_b e R⟩, X, S, fun k hk => ?_, B⟩
  rcases I k hk with a | ⟨a1, a2, a3, a4⟩
  · exact Or.inl a
  · exact Or.inr ⟨a1, a2, a3, REL_b (ek k hk a1) a4⟩
def bN (s : Bool) : Nat := if s = true then 1 else 0
theorem bN_le (s : Bool) : bN s ≤ 1 := by cases s <;> decide
def cnI (sv : Nat → Bool) : Nat := bN (sv 0) + bN (sv 1) + bN (sv 2)
def rmC (b : Nat → Nat) (sv : Nat → Bool) : Nat := 106 + 40 * (b 0 + b 1) + 36 * cnI sv
def rmS (b : Nat → Nat) (sv : Nat → Bool) : Nat := 764227 + 120000 * (b 0 + b 1) + 890 * cnI sv
def IVx (a k n : Nat) (Y : xg_Y) (h : xg_H) (g : mg_H) (nm b : Nat → Nat) (sv : Nat → Bool) : Prop := nm 0 = a ∧ CW Y h nm (mg_i g) (pkf g) sv b ∧ VAL (mg_i g) ∧ (∀ i, i < 3 → sv i = true → VAL (pkf g i)) ∧ (∀ i, i < 3 → mg_i g 60 i = if sv i = true then 1 else 0) ∧ (b 0 ≤ 5 ∧ b 1 ≤ 5) ∧ k ≤ rmC b sv ∧ n ≤ rmS b sv
def INV (a k n : Nat) (Y : xg_Y) (h : xg_H) (g : mg_H) : Prop := ∃ nm b sv, IVx a k n Y h g nm b sv
theorem rm_le {b : Nat → Nat} {sv : Nat → Bool} (hb : b 0 ≤ 5 ∧ b 1 ≤ 5) : rmC b sv ≤ 600000 ∧ rmS b sv ≤ 7302250 := by
  unfold rmC rmS cnI
  have h0 := bN_le (sv 0)
  have h1 := bN_le (sv 1)
  have h2 := bN_le (sv 2)
  omega
theorem IV_room {a k n : Nat} {Y : xg_Y} {h : xg_H} {g : mg_H} {nm b : Nat → Nat} {sv : Nat → Bool} (V : IVx a k n Y h g nm b sv) : k ≤ 600000 ∧ n ≤ 7302250 := by
  have := rm_le (sv := sv) V.2.2.2.2.2.1
  have h1 := V.2.2.2.2.2.2.1
  have h2 := V.2.2.2.2.2.2.2
  omega
theorem IV_is {a k n : Nat} {Y : xg_Y} {h : xg_H} {g : mg_H} {nm b : Nat → Nat} {sv : Nat → Bool} (V : IVx a k n Y h g nm b sv) : xg_is Y a 11 := by rw [← V.1]; exact V.2.1.2.1.1
/-- behind a question -/
theorem IV_q {a k n k' n' : Nat} {Y Y' : xg_Y} {h h' : xg_H} {g g2 : mg_H} {nm nm' b b' : Nat → Nat} {sv : Nat → Bool} (V : IVx a k n Y h g nm b sv) (C : CW Y' h' nm' (mg_i g) (pkf g) sv b') (e0 : nm' 0 = nm 0) (m : mp_same g g2) (hb : b' 0 ≤ 5 ∧ b' 1 ≤ 5) (hk : k' ≤ rmC b' sv) (hn : n' ≤ rmS b' sv) : INV a k' n' Y' h' g2 := by
  obtain ⟨v0, _, v2, v3, v4, _⟩ := V
  exact ⟨nm', b', sv, e0.trans v0, CW_p C (agB_s m) (fun k _ _ => agB_k m), VAL_b (agB_s m) v2, fun i hi s => VAL_b (agB_k m) (v3 i hi s), fun i hi => (m 60 (by decide) i).trans (v4 i hi), hb, hk, hn⟩
theorem IV_q0 {a k n : Nat} {Y : xg_Y} {h h' : xg_H} {g g2 : mg_H} {nm b : Nat → Nat} {sv : Nat → Bool} (V : IVx a k n Y h g nm b sv) (C : CW Y h' nm (mg_i g) (pkf g) sv b) (m : mp_same g g2) : INV a k n Y h' g2 := IV_q V C rfl m V.2.2.2.2.2.1 V.2.2.2.2.2.2.1 V.2.2.2.2.2.2.2
theorem IV_q1 {a k n : Nat} {Y : xg_Y} {h : xg_H} {g g2 : mg_H} {nm b : Nat → Nat} {sv : Nat → Bool} (V : IVx a k n Y h g nm b sv) (m : mp_same g g2) : INV a (k + 0) (n + 0) Y h g2 := IV_q V V.2.1 rfl m V.2.2.2.2.2.1 V.2.2.2.2.2.2.1 V.2.2.2.2.2.2.2
theorem up_sum {b : Nat → Nat} {k n : Nat} (hk : k < 2) : upB b k (mB b k n) 0 + upB b k (mB b k n) 1 = b 0 + b 1 + dB b k n := by
  rcases (show k = 0 ∨ k = 1 by omega) with e | e <;> rw [e]
  · rw [upB_at, upB_no (by decide)]
    unfold dB mB
    omega
  · rw [upB_at, upB_no (by decide)]
    unfold dB mB
    omega
theorem up_le {b : Nat → Nat} {k n : Nat} (hb : b 0 ≤ 5 ∧ b 1 ≤ 5) (hk : k < 2) (hn : n ≤ 4) : upB b k (mB b k n) 0 ≤ 5 ∧ upB b k (mB b k n) 1 ≤ 5 := by
  rcases (show k = 0 ∨ k = 1 by omega) with e | e <;> rw [e]
  · rw [upB_at, upB_no (by decide)]
    unfold mB
    omega
  · rw [upB_at, upB_no (by decide)]
    unfold mB
    omega
/-- behind a question that wanted a book -/
theorem IV_b {a k n kk nn : Nat} {Y Y' : xg_Y} {h h' : xg_H} {g g2 : mg_H} {nm nm' b : Nat → Nat} {sv : Nat → Bool} (V : IVx a k n Y h g nm b sv) (hkk : kk < 2) (hnn : nn ≤ 4) (C : CW Y' h' nm' (mg_i g) (pkf g) sv (upB b kk (mB b kk nn))) (e0 : nm' 0 = nm 0) (m : mp_same g g2) : INV a (k + 40 * dB b kk nn) (n + 120000 * dB b kk nn) Y' h' g2 := by
  have hs := up_sum (b := b) (n := nn) hkk
  have h1 := V.2.2.2.2.2.2.1
  have h2 := V.2.2.2.2.2.2.2
  refine IV_q V C e0 m (up_le V.2.2.2.2.2.1 hkk hnn) ?_ ?_
  · unfold rmC at *
    rw [hs]; omega
  · unfold rmS at *
    rw [hs]; omega
theorem IV_br {a k n kk nn : Nat} {Y : xg_Y} {h : xg_H} {g : mg_H} {nm b : Nat → Nat} {sv : Nat → Bool} (V : IVx a k n Y h g nm b sv) (hkk : kk < 2) (hnn : nn ≤ 4) : k + 40 * dB b kk nn ≤ 600000 ∧ n + 120000 * dB b kk nn ≤ 7302250 := by
  have hs := up_sum (b := b) (n := nn) hkk
  have h1 := V.2.2.2.2.2.2.1
  have h2 := V.2.2.2.2.2.2.2
  have h3 := rm_le (sv := sv) (up_le (b := b) V.2.2.2.2.2.1 hkk hnn)
  unfold rmC rmS at *
  rw [hs] at h3
  omega
theorem IV_shs {a k n : Nat} {Y : xg_Y} {h : xg_H} {g : mg_H} {nm b : Nat → Nat} {sv : Nat → Bool} (V : IVx a k n Y h g nm b sv) : mp_shs g ∧ mp_days g ∧ mp_logs g ∧ mp_ords g := by
  have cn := V.2.2.1.1
  have R := V.2.1.2.2.1.2.2.2.2
  refine ⟨⟨cn 0 (by decide), fun d hd => ?_⟩, ⟨cn 1 (by decide), fun d hd => ?_⟩, ⟨cn 2 (by decide), fun d hd => ?_⟩, ⟨cn 3 (by decide), fun d hd => ?_⟩⟩
  · obtain ⟨n, h1, h2, _⟩ := (R d hd).1
    exact ⟨n, h1, h2⟩
  · obtain ⟨n, h1, h2, _⟩ := (R d hd).2.1
    exact ⟨n, h1, h2⟩
  · obtain ⟨n, h1, h2, _⟩ := (R d hd).2.2.1
    exact ⟨n, h1, h2⟩
  · obtain ⟨n, h1, h2, _⟩ := (R d hd).2.2.2
    exact ⟨n, h1, h2⟩
/-- both answered alike -/
theorem lfin {R : Int32 → Nat → Nat → xg_Y → xg_H → mg_H → Prop} {y3 r1 r3 : Int32} {k n : Nat} {Y : xg_Y} {h : xg_H} {g : mg_H} (e : r1 = r3) (I : R (y3 + 6) k n Y h g) : ((r1 = r3) → ∀ z5 : Int32, z5 = y3 + 6 → R z5 k n Y h g) ∧ ((¬ r1 = r3) → False) := ⟨fun _ z ez => by rw [ez]; exact I, fun c => c e⟩
/-- the numbers of a call lie within the script -/
def vps (X : lg_X) (y3 : Int32) : Prop := vp_in (y3 + 1) (lg_L X) ∧ vp_in (y3 + 2) (lg_L X) ∧ vp_in (y3 + 3) (lg_L X) ∧ vp_in (y3 + 4) (lg_L X) ∧ vp_in (y3 + 5) (lg_L X)
