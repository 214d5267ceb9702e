/-! Book: room for all rows; open, hasRoomFor -/
def zb (m c : Nat) : Bool := ((m.testBit 0 || dg c 0 == 0) && (m.testBit 1 || dg c 1 == 0) && (m.testBit 2 || dg c 2 == 0) && (m.testBit 3 || dg c 3 == 0)) && ((m.testBit 0 && dg c 0 == 0) || (m.testBit 1 && dg c 1 == 0) || (m.testBit 2 && dg c 2 == 0) || (m.testBit 3 && dg c 3 == 0))
theorem zb_of {m c : Nat} (h : Z0 m c) : zb m c = true := by
  obtain ⟨h1, g, hg, h2, h3⟩ := h
  have key : ∀ g, g < 4 → (m.testBit g || dg c g == 0) = true := fun g hg => by
    cases e : m.testBit g
    · rw [h1 g hg e]; rfl
    · rfl
  unfold zb
  rw [key 0 (by decide), key 1 (by decide), key 2 (by decide), key 3 (by decide)]
  rcases (show g = 0 ∨ g = 1 ∨ g = 2 ∨ g = 3 by omega) with rfl | rfl | rfl | rfl <;> rw [h2, h3] <;> simp
def bcn (p : Nat → Bool) : Nat → Nat → Nat
  | 0, o => if p o then 1 else 0
  | d + 1, o => bcn p d o + bcn p d (o + 2 ^ d)
theorem bcn_ct {p : Nat → Bool} : ∀ d o, fb_ct (fun k => p (o + k)) (2 ^ d) = bcn p d o
  | 0, o => by
    show fb_ct (fun k => p (o + k)) 1 = _
    rw [fb_ct_succ]
    show 0 + (if p (o + 0) then 1 else 0) = if p o then 1 else 0
    rw [Nat.zero_add, Nat.add_zero]
  | d + 1, o => by
    rw [Nat.pow_succ, Nat.mul_two, fb_ct_split, bcn_ct d o]
    have := bcn_ct (p := p) d (o + 2 ^ d)
    simp only [Nat.add_assoc] at this ⊢
    rw [this]; rfl
def rwn (k : Nat) : Nat := [1, 2, 16, 170, 1696].getD k 0
set_option maxRecDepth 20000 in
theorem bcn_all : ∀ m, m < 16 → bcn (zb m) 12 0 + 1 ≤ rwn (on4 m) := by decide +kernel
theorem cap_rwn {m c0 : Nat} (hm : m < 16) : cap m c0 (rwn (on4 m)) := by
  intro r cs hd hs
  have hct : fb_ct (zb m) 4096 = bcn (zb m) 12 0 := by
    have := bcn_ct (p := zb m) 12 0
    simp only [Nat.zero_add] at this
    exact this
  refine Nat.le_trans (fb_holes (fb_ct (zb m) 4096 + 1) r (fun i => if zb m (cs i) then fb_ct (zb m) (cs i) else fb_ct (zb m) 4096) (fun i hi => ?_) (fun i j hij hj e => ?_)) (by rw [hct]; exact bcn_all m hm)
  · split
    · have := fb_ct_mono (zb m) (show cs i ≤ 4096 by have := (hs i hi).1; omega); omega
    · omega
  · have hlt : ∀ k, k < r → zb m (cs k) = true → fb_ct (zb m) (cs k) < fb_ct (zb m) 4096 := fun k hk hb => by
      have h1 := (hs k hk).1
      have h2 := fb_ct_mono (zb m) (show cs k + 1 ≤ 4096 by omega)
      rw [fb_ct_succ, hb] at h2
      simp at h2
      omega
    have hc0 : ∀ k, k < r → ¬ zb m (cs k) = true → cs k = c0 := fun k hk hb => ((hs k hk).2).elim id (fun q => absurd (zb_of q) hb)
    have hi : i < r := by omega
    by_cases bi : zb m (cs i) = true <;> by_cases bj : zb m (cs j) = true
    · rw [if_pos bi, if_pos bj] at e
      have := hd i j hi hj (fb_ct_kth_one bi bj e)
      omega
    · rw [if_pos bi, if_neg bj] at e
      have := hlt i hi bi
      omega
    · rw [if_neg bi, if_pos bj] at e
      have := hlt j hj bj
      omega
    · have := hd i j hi hj ((hc0 i hi bi).trans (hc0 j hj bj).symm)
      omega
theorem cap_mono {m c0 N N' : Nat} (h : cap m c0 N) (hN : N ≤ N') : cap m c0 N' := fun r cs a b => Nat.le_trans (h r cs a b) hN
theorem on4_all : ∀ n, n < 5 → on4 (2 ^ n - 1) = n := by decide +kernel
theorem on4_part : ∀ n, n < 5 → ∀ i, i < 16 → i &&& (2 ^ n - 1) = i → i ≠ 2 ^ n - 1 → on4 i ≤ n - 1 := by decide +kernel
theorem rwn_le : ∀ a, a < 5 → ∀ b, b < 5 → a ≤ b → rwn a ≤ rwn b := by decide
theorem rwn_lt : ∀ a, a < 5 → ∀ b, b < 5 → a < b → rwn a < rwn b := by decide
theorem rwn_I : ∀ n, n < 5 → xg_sv 1 n = nI (rwn n) := by decide +kernel
theorem rwn_b : ∀ n, n < 5 → rwn n ≤ 1696 ∧ 1 ≤ rwn n := by decide
theorem clamp_I {n : Nat} (hn : n ≤ 4) : (if (nI n : Int32) < 4 then nI n else 4) = nI n := by
  rw [nl_4]
  by_cases h : n < 4
  · rw [if_pos (nI_lt h (by decide))]
  · rw [if_neg (nI_nlt (a := n) (b := 4) (by omega) (by omega)), show n = 4 by omega]
theorem clamp_0 {n : Nat} (hn : n ≤ 4) : (if (0 : Int32) < nI n then nI n else 0) = nI n := by
  rw [nl_0]
  by_cases h : 0 < n
  · rw [if_pos (nI_lt h (by omega))]
  · rw [if_neg (nI_nlt (a := 0) (b := n) (by omega) (by omega)), show n = 0 by omega]
theorem sp_X1_hasRoomFor {Y : xg_Y} {Q : Int32 → xg_H → Prop} {h : xg_H} {nm : Nat → Nat} {B g0 N2 n : Nat} (L : LB Y h nm B (rwn g0) N2) (hg : g0 ≤ 4) (hn4 : n ≤ 4) (q1 : n ≤ g0 → Q 1 h) (q0 : g0 < n → Q 0 h) : wp_X1_hasRoomFor Y Q (nm B) (nI n) h := by
  obtain ⟨k1, ⟨o0, LWw⟩, _⟩ := L
  unfold wp_X1_hasRoomFor
  refine ⟨k1, nm (B + 20), o0, LWw.1, nm (B + 21), LWw.2.1.1, LWw.2.1.2.1, ?_⟩
  rintro _ rfl
  rw [clamp_I hn4]
  rintro _ rfl
  rw [clamp_0 hn4, nI_clamp (by omega), rwn_I n (by omega), show xg_n Y (nm (B + 21)) = rwn g0 from LWw.2.1.2.2, show Int32.ofNat (rwn g0) = nI (rwn g0) from rfl]
  have b1 := rwn_b g0 (by omega)
  have b2 := rwn_b n (by omega)
  refine ⟨vp_in_nI (show n < 5 by omega) (by decide), ?_⟩
  by_cases h9 : n ≤ g0
  · exact bq_f (nI_nlt (rwn_le n (by omega) g0 (by omega) h9) (by omega)) (q1 h9)
  · exact bq_t (nI_lt (rwn_lt g0 (by omega) n (by omega) (by omega)) (by omega)) (q0 (by omega))
theorem c4_inj {f f' : Nat → Nat} (h : ∀ g, f g ≤ 7) (h' : ∀ g, f' g ≤ 7) (h0 : ∀ g, 4 ≤ g → f g = 0) (h0' : ∀ g, 4 ≤ g → f' g = 0) (e : c4 f = c4 f') : f = f' := by
  unfold c4 at e
  obtain ⟨e0, e1, e2, e3⟩ := cd_inj (h 0) (h 1) (h 2) (h' 0) (h' 1) (h' 2) e
  funext g
  rcases Nat.lt_or_ge g 4 with hg | hg
  · rcases (show g = 0 ∨ g = 1 ∨ g = 2 ∨ g = 3 by omega) with rfl | rfl | rfl | rfl
    · exact e0
    · exact e1
    · exact e2
    · exact e3
  · rw [h0 g hg, h0' g hg]
theorem SH_same {n n' : Nat} {z t z' t' : Nat → Nat} (a : SH n z t) (b : SH n' z' t') (ez : c4 z = c4 z') (et : c4 t = c4 t') : n = n' ∧ z = z' ∧ t = t' := by
  have hz := c4_inj (fun g => (a.le g).1) (fun g => (b.le g).1) (fun g hg => (a.2.2 g (by have := a.1; omega)).1) (fun g hg => (b.2.2 g (by have := b.1; omega)).1) ez
  have ht := c4_inj (fun g => Nat.le_trans (a.le g).2 (a.le g).1) (fun g => Nat.le_trans (b.le g).2 (b.le g).1) (fun g hg => (a.2.2 g (by have := a.1; omega)).2) (fun g hg => (b.2.2 g (by have := b.1; omega)).2) et
  subst hz
  subst ht
  refine ⟨?_, rfl, rfl⟩
  rcases Nat.lt_trichotomy n n' with h | h | h
  · have h1 := b.2.1 n h
    have h2 := (a.2.2 n (Nat.le_refl n)).1
    omega
  · exact h
  · have h1 := a.2.1 n' h
    have h2 := (b.2.2 n' (Nat.le_refl n')).1
    omega
/-- a book of room for g0 glasses; it is open at a shelf or new -/
def BB (Y : xg_Y) (h : xg_H) (nm : Nat → Nat) (B g0 : Nat) : Prop := g0 ≤ 4 ∧ LB Y h nm B (rwn g0) (rwn (g0 - 1)) ∧ (xg_i h (nm B) 12 = nM ∨ ∃ n z t, n ≤ g0 ∧ BI h nm B (rwn g0) n z t)
theorem BB.caps {g0 n : Nat} (hg : g0 ≤ 4) (hn : n ≤ g0) : (∀ c0, cap (2 ^ n - 1) c0 (rwn g0)) ∧ ∀ i c0, sb i (2 ^ n - 1) → i ≠ 2 ^ n - 1 → cap i c0 (rwn (g0 - 1)) := by
  have hp := pow_n (show n ≤ 4 by omega)
  have hp1 := Nat.two_pow_pos n
  refine ⟨fun c0 => cap_mono (cap_rwn (by omega)) ?_, fun i c0 hi hne => ?_⟩
  · rw [on4_all n (by omega)]; exact rwn_le n (by omega) g0 (by omega) hn
  · have hl := sb_le hi
    refine cap_mono (cap_rwn (by omega)) ?_
    have h1 := on4_part n (by omega) i (by omega) hi hne
    exact rwn_le _ (by omega) _ (by omega) (by omega)
theorem sp_X1_open {Y : xg_Y} {Q : xg_H → Prop} {h : xg_H} {nm : Nat → Nat} {B g0 n tx : Nat} {z t pr : Nat → Nat} (hn : inj nm) (K : BB Y h nm B g0) (S : ST Y h nm) (X : XS Y h nm tx n z t pr) (H : SH n z t) (hng : n ≤ g0) (q : ∀ h', BJ Y h' nm B (rwn g0) (rwn (g0 - 1)) n z t → bf nm B h h' → Q h') : wp_X1_open Y Q (nm B) (some (nm tx)) h := by
  obtain ⟨hg4, L, hold⟩ := K
  have L0 := L
  obtain ⟨k1, ⟨o0, LWw⟩, ⟨o1, LWp⟩, ⟨o2, LCc⟩, ⟨o3, k4⟩, ⟨o4, k5⟩, ⟨o5, k6⟩, ⟨o6, k7⟩, ⟨o7, k8⟩, ⟨o8, k9⟩, ⟨o9, k10⟩, hB⟩ := L
  have hn4 := H.1
  have hz := H.zok
  obtain ⟨cp1, cp2⟩ := BB.caps hg4 hng
  have ez : cp z n = c4 z := cp_n hn4 (fun g hg => (H.2.2 g hg).1)
  have et : cp t n = c4 t := cp_n hn4 (fun g hg => (H.2.2 g hg).2)
  have hc0 := H.ok
  have hcz : c4 z < 4096 := cd_lt (H.le 0).1 (H.le 1).1 (H.le 2).1 (H.le 3).1
  unfold wp_X1_open
  refine ⟨k1, fun R41 c41 => ⟨nm tx, rfl, X.1, ?_⟩⟩
  rw [X.2.1.1, X.2.2.2.2.1]
  refine sp_X11_codeOf X.2.1.2.1 X.2.1.2.2 hn4 (fun g hg => ⟨(X.2.2.2.2.2.1 g hg).1, (H.le g).1⟩) ?_
  rw [X.2.2.1.1, X.2.2.2.2.1]
  refine sp_X11_codeOf X.2.2.1.2.1 X.2.2.1.2.2 hn4 (fun g hg => ⟨(X.2.2.2.2.2.1 g hg).2.1, Nat.le_trans (H.le g).2 (H.le g).1⟩) ?_
  rw [ez, et]
  -- anew
  have anew : R41 (nI (c4 z)) (nI (c4 t)) h := by
    refine c41 _ _ _ ?_
    rintro _ rfl _ rfl
    refine ⟨nm tx, rfl, X.1, ?_⟩
    rintro _ rfl _ rfl _ rfl _ rfl _ rfl _ rfl
    have htx := X.2.2.2.2.2.2.2.2
    rw [xu_c (d := tx) hn (by omega), xu_c (d := tx) hn (by omega), X.2.2.2.2.1]
    have e1 : xe nm B [11, 12, 13, 14, 15, 16, 17, 18, 19] [7, 20, 21, 22, 23, 24, 25, 26] [31, 32] h (xg_ui (xg_ui (xg_ui (xg_ui (xg_ui (xg_ui (xg_ui (xg_ui h (nm B) 12 (nI (c4 z))) (nm B) 13 (nI (c4 t))) (nm B) 14 (nI n)) (nm B) 15 (-1)) (nm B) 11 0) (nm B) 17 0) (nm B) 18 0) (nm B) 19 0) := xe.u0 hn (xe.u0 hn (xe.u0 hn (xe.u0 hn (xe.u0 hn (xe.u0 hn (xe.u0 hn (xe.u0 hn xe.rf (by decide)) (by decide)) (by decide)) (by decide)) (by decide)) (by decide)) (by decide)) (by decide)
    have f1 : ∀ s, s = xg_ui (xg_ui (xg_ui (xg_ui (xg_ui (xg_ui (xg_ui (xg_ui h (nm B) 12 (nI (c4 z))) (nm B) 13 (nI (c4 t))) (nm B) 14 (nI n)) (nm B) 15 (-1)) (nm B) 11 0) (nm B) 17 0) (nm B) 18 0) (nm B) 19 0 → xg_i s (nm B) 12 = nI (c4 z) ∧ xg_i s (nm B) 13 = nI (c4 t) ∧ xg_i s (nm B) 14 = nI n ∧ xg_i s (nm B) 15 = nM ∧ xg_i s (nm B) 11 = nI 0 ∧ xg_i s (nm B) 17 = nI 0 ∧ xg_i s (nm B) 18 = nI 0 ∧ xg_i s (nm B) 19 = nI 0 ∧ ∀ c, c ≠ B → ∀ j, xg_i s (nm c) j = xg_i h (nm c) j := by
      rintro s rfl
      simp only [xu hn, true_and, Nat.reduceEqDiff, if_false, if_true]
      refine ⟨rfl, rfl, rfl, rfl, rfl, fun c hc j => ?_⟩
      simp only [hc, false_and, if_false]
    generalize hs1 : xg_ui (xg_ui (xg_ui (xg_ui (xg_ui (xg_ui (xg_ui (xg_ui h (nm B) 12 (nI (c4 z))) (nm B) 13 (nI (c4 t))) (nm B) 14 (nI n)) (nm B) 15 (-1)) (nm B) 11 0) (nm B) 17 0) (nm B) 18 0) (nm B) 19 0 = s1 at e1 f1 ⊢
    obtain ⟨g12, g13, g14, g15, g11, g17, g18, g19, gO⟩ := f1 s1 rfl
    rw [(e1.2.2.2 _ _).trans o6]
    refine sp_fill (c := B + 7) hn k7 (by decide) (fun s2 e2 f2 => ?_)
    have eB : ∀ j, xg_i s2 (nm B) j = xg_i s1 (nm B) j := fun j => e2.i B (by simp) j
    have x2 : xe nm B [11, 12, 13, 14, 15, 16, 17, 18, 19] [7, 20, 21, 22, 23, 24, 25, 26] [31, 32] h s2 := e1.tr ((xe.of e2 (by decide) (by decide)).mono (by simp) (by simp) (by simp))
    refine sp_X1_allGlasses k1 hn4 ((eB 14).trans g14) ⟨nm (B + 20), (x2.2.2.2 _ _).trans o0, LWw.1, ?_⟩
    rw [eB, eB, g12, g13]
    have S2 : LSt Y s2 nm ∧ KN s2 nm ∧ RZ s2 nm := ⟨⟨S.1.1, (x2.2.2.2 _ _).trans S.1.2.1, S.1.2.2.1, (x2.2.2.2 _ _).trans S.1.2.2.2.1, S.1.2.2.2.2⟩, fun c hc => by rw [e2.i _ (by simp <;> omega), gO _ (by omega)]; exact S.2.1 c hc, fun c hc => by rw [e2.i _ (by simp <;> omega), gO _ (by omega)]; exact S.2.2 c hc⟩
    have L2 := L0.mv x2 (by decide)
    refine sp_X10_explore hn S2.1 L2.2.1.2 S2.2.1 S2.2.2 hz H.m (fun g hg hb => ?_) hc0 (cp1 _) (fun s3 r cs e3 K3 Z3 D3 => ?_)
    · rw [full_bit, decide_eq_false_iff_not] at hb
      exact (H.2.2 g (by omega)).1
    refine sp_X10_findMinutes hn (L2.2.1.2.mv e3) hz H.m D3 (fun s4 e4 M4 => ?_)
    have x4 : xe nm B [11, 12, 13, 14, 15, 16, 17, 18, 19] [7, 20, 21, 22, 23, 24, 25, 26] [31, 32] h s4 := by
      refine x2.tr ⟨fun j _ => ?_, fun o g1 g2 g3 j => ?_, fun c g1 g2 j => ?_, fun c j => (e4.2 c j).trans (e3.2 c j)⟩
      · rw [e4.i _ (by simp <;> omega), e3.i _ (by simp <;> omega)]
      · have a1 := e4.1 (B + o) (by simp at g1 ⊢; omega) j
        have a2 := e3.1 (B + o) (by simp at g1 ⊢; omega) j
        exact ⟨a1.1.trans a2.1, a1.2.trans a2.2⟩
      · have a1 := e4.1 c (by simp <;> omega) j
        have a2 := e3.1 c (by simp at g2 ⊢; omega) j
        exact ⟨a1.1.trans a2.1, a1.2.trans a2.2⟩
    have L4 := L0.mv x4 (by decide)
    refine ⟨nm (B + 20), (x4.2.2.2 _ _).trans o0, LWw.1, sp_X10_eventMinutes L4.2.1.2 M4 (fun v hv => ?_)⟩
    rintro _ rfl
    have x5 : xe nm B [11, 12, 13, 14, 15, 16, 17, 18, 19] [7, 20, 21, 22, 23, 24, 25, 26] [31, 32] h (xg_ui s4 (nm B) 16 v) := xe.u0 hn x4 (by decide)
    have d5 : xd nm [B] s4 (xg_ui s4 (nm B) 16 v) := xd.ui hn xd.rf (by simp)
    have eB5 : ∀ j, j ≠ 16 → xg_i (xg_ui s4 (nm B) 16 v) (nm B) j = xg_i s1 (nm B) j := fun j hj => by rw [xu_p hn hj, e4.i _ (by simp <;> omega), e3.i _ (by simp <;> omega), eB]
    have D5 := (D3.mv e4 (by simp <;> omega) (by simp <;> omega) (by simp <;> omega)).mv d5 (by simp <;> omega) (by simp <;> omega) (by simp <;> omega)
    have M5 := M4.mv d5 (by simp <;> omega) (by simp <;> omega)
    refine q _ ⟨L0.mv x5 (by decide), ⟨⟨S.1.1, (x5.2.2.2 _ _).trans S.1.2.1, S.1.2.2.1, (x5.2.2.2 _ _).trans S.1.2.2.2.1, S.1.2.2.2.2⟩, fun c hc => ?_, fun c hc => ?_⟩, ⟨r, cs, ⟨H, (eB5 12 (by decide)).trans g12, (eB5 13 (by decide)).trans g13, (eB5 14 (by decide)).trans g14, D5, M5, ?_⟩, fun i hi => Or.inl ?_, Or.inl ((eB5 17 (by decide)).trans g17), Or.inl ((eB5 19 (by decide)).trans g19), Or.inl ((eB5 15 (by decide)).trans g15), Or.inl ((eB5 11 (by decide)).trans g11), Or.inl ((eB5 18 (by decide)).trans g18)⟩, cp2⟩ (bf.of x5 (by simp))
    · rw [xu_c hn (by omega), e4.i _ (by simp <;> omega)]; exact K3 c hc
    · rw [xu_c hn (by omega), e4.i _ (by simp <;> omega)]; exact Z3 c hc
    · rw [xu hn, if_pos ⟨rfl, rfl⟩]; exact hv
    · have hl := sb_le hi
      have := pow_n hn4
      rw [xu_c hn (by omega), e4.i _ (by simp <;> omega), e3.i _ (by simp <;> omega), f2, if_pos (by omega)]; rfl
  rcases hold with h12 | ⟨n', z', t', hn', r, cs, C, bs⟩
  · rw [h12]
    exact bq_nt (by rw [nI_eqM (by omega)]; exact id) anew
  · have hcz' : c4 z' < 4096 := cd_lt (C.1.le 0).1 (C.1.le 1).1 (C.1.le 2).1 (C.1.le 3).1
    rw [C.2.1, C.2.2.1]
    refine ⟨fun _ => anew, fun ca => ⟨fun _ => anew, fun cb => ?_⟩⟩
    have ea := (nI_eq (by omega) (by omega)).mp ca
    have eb := (nI_eq (by have := hc0.1; omega) (by have := C.1.ok.1; omega)).mp cb
    obtain ⟨rfl, rfl, rfl⟩ := SH_same H C.1 ea eb
    exact q h ⟨L0, S, ⟨r, cs, C, bs⟩, cp2⟩ bf.rf
