/-! text: both sides -/
theorem and255 (x : Int32) : ∃ m, m < 256 ∧ x &&& 255 = nI m := by
  refine ⟨x.toBitVec.toNat % 256, Nat.mod_lt _ (by decide), ?_⟩
  have e : x = nI x.toBitVec.toNat := by
    apply Int32.toBitVec_inj.1
    show x.toBitVec = BitVec.ofNat 32 x.toBitVec.toNat
    rw [BitVec.ofNat_toNat, BitVec.setWidth_eq]
  have := fa_mask x.toBitVec.toNat 8
  rw [← e] at this
  exact this
def T0c (h : xg_H) (nf : Nat → Nat) (p : Nat → Nat → Int32) (k : Nat) : Prop := ∃ n, n ≤ 4 ∧ p 6 (13 * k) = nI n ∧ xt_text h nf (0 + k) n (fun q => p 6 (13 * k + (1 + q))) (fun q => p 6 (13 * k + (5 + q))) ∧ ∀ q, q < n → xg_i h (nf (40 + (0 + k))) q = p 6 (13 * k + (9 + q))
def T1c (h : xg_H) (nf : Nat → Nat) (p : Nat → Nat → Int32) (k : Nat) : Prop := ∃ n, n ≤ 40 ∧ p 7 (81 * k) = nI n ∧ xt_text h nf (2 + k) n (fun q => p 7 (81 * k + (1 + 2 * q))) (fun q => p 7 (81 * k + (2 + 2 * q)))
def T2c (h : xg_H) (nf : Nat → Nat) (p : Nat → Nat → Int32) (k : Nat) : Prop := ∃ n, n ≤ 8 ∧ p 8 (17 * k) = nI n ∧ xt_text h nf (4 + k) n (fun q => p 8 (17 * k + (1 + 2 * q))) (fun q => p 8 (17 * k + (2 + 2 * q)))
def T3c (h : xg_H) (nf : Nat → Nat) (p : Nat → Nat → Int32) (k : Nat) : Prop := ∃ n, n ≤ 6 ∧ p 9 (7 * k) = nI n ∧ xg_i h (nf (10 + (6 + k))) 0 = nI n ∧ ∀ q, q < n → xg_i h (nf (20 + (6 + k))) q = p 9 (7 * k + (1 + q))
/-- the cells of text j stand -/
def cjs (h h2 : xg_H) (nf : Nat → Nat) (j : Nat) : Prop := ∀ q, xg_i h2 (nf (10 + j)) q = xg_i h (nf (10 + j)) q ∧ xg_i h2 (nf (20 + j)) q = xg_i h (nf (20 + j)) q ∧ xg_i h2 (nf (30 + j)) q = xg_i h (nf (30 + j)) q ∧ xg_i h2 (nf (40 + j)) q = xg_i h (nf (40 + j)) q
theorem T0_k {h h2 : xg_H} {nf : Nat → Nat} {p p2 : Nat → Nat → Int32} {k : Nat} (c : cjs h h2 nf (0 + k)) (q : ∀ x, x < 13 → p2 6 (13 * k + x) = p 6 (13 * k + x)) (A : T0c h nf p k) : T0c h2 nf p2 k := by
  obtain ⟨n, a1, a2, ⟨a3, a4⟩, a5⟩ := A
  exact ⟨n, a1, (q 0 (by decide)).trans a2, ⟨(c 0).1.trans a3, fun i hi => ⟨(c i).2.1.trans ((a4 i hi).1.trans (q _ (by omega)).symm), (c i).2.2.1.trans ((a4 i hi).2.trans (q _ (by omega)).symm)⟩⟩, fun i hi => (c i).2.2.2.trans ((a5 i hi).trans (q _ (by omega)).symm)⟩
theorem T1_k {h h2 : xg_H} {nf : Nat → Nat} {p p2 : Nat → Nat → Int32} {k : Nat} (c : cjs h h2 nf (2 + k)) (q : ∀ x, x < 81 → p2 7 (81 * k + x) = p 7 (81 * k + x)) (A : T1c h nf p k) : T1c h2 nf p2 k := by
  obtain ⟨n, a1, a2, a3, a4⟩ := A
  exact ⟨n, a1, (q 0 (by decide)).trans a2, (c 0).1.trans a3, fun i hi => ⟨(c i).2.1.trans ((a4 i hi).1.trans (q _ (by omega)).symm), (c i).2.2.1.trans ((a4 i hi).2.trans (q _ (by omega)).symm)⟩⟩
theorem T2_k {h h2 : xg_H} {nf : Nat → Nat} {p p2 : Nat → Nat → Int32} {k : Nat} (c : cjs h h2 nf (4 + k)) (q : ∀ x, x < 17 → p2 8 (17 * k + x) = p 8 (17 * k + x)) (A : T2c h nf p k) : T2c h2 nf p2 k := by
  obtain ⟨n, a1, a2, a3, a4⟩ := A
  exact ⟨n, a1, (q 0 (by decide)).trans a2, (c 0).1.trans a3, fun i hi => ⟨(c i).2.1.trans ((a4 i hi).1.trans (q _ (by omega)).symm), (c i).2.2.1.trans ((a4 i hi).2.trans (q _ (by omega)).symm)⟩⟩
theorem T3_k {h h2 : xg_H} {nf : Nat → Nat} {p p2 : Nat → Nat → Int32} {k : Nat} (c : cjs h h2 nf (6 + k)) (q : ∀ x, x < 7 → p2 9 (7 * k + x) = p 9 (7 * k + x)) (A : T3c h nf p k) : T3c h2 nf p2 k := by
  obtain ⟨n, a1, a2, a3, a4⟩ := A
  exact ⟨n, a1, (q 0 (by decide)).trans a2, (c 0).1.trans a3, fun i hi => (c i).2.1.trans ((a4 i hi).trans (q _ (by omega)).symm)⟩
theorem SR_k {p p' : Nat → Nat → Int32} {k n : Nat} {z t pr : Nat → Nat} (q : ∀ x, x < 13 → p' 6 (13 * k + x) = p 6 (13 * k + x)) (S : SR p k n z t pr) : SR p' k n z t pr := by
  have hn := S.1
  refine ⟨S.1, (q 0 (by decide)).trans S.2.1, fun j hj => ?_, S.2.2.2⟩
  obtain ⟨a1, a2, a3, a4⟩ := S.2.2.1 j hj
  exact ⟨(q _ (by omega)).trans a1, (q _ (by omega)).trans a2, (q _ (by omega)).trans a3, a4⟩
theorem DY_k {p p' : Nat → Nat → Int32} {k m : Nat} {kd yy : Nat → Nat} (q : ∀ x, x < 81 → p' 7 (81 * k + x) = p 7 (81 * k + x)) (S : DY p k m kd yy) : DY p' k m kd yy := by
  have hn := S.1
  refine ⟨S.1, (q 0 (by decide)).trans S.2.1, fun j hj => ?_⟩
  obtain ⟨a1, a2, a3⟩ := S.2.2 j hj
  exact ⟨(q _ (by omega)).trans a1, (q _ (by omega)).trans a2, a3⟩
theorem LG_k {p p' : Nat → Nat → Int32} {k c : Nat} {mi gl : Nat → Nat} (q : ∀ x, x < 17 → p' 8 (17 * k + x) = p 8 (17 * k + x)) (S : LGr p k c mi gl) : LGr p' k c mi gl := by
  have hn := S.1
  refine ⟨S.1, (q 0 (by decide)).trans S.2.1, fun j hj => ?_⟩
  obtain ⟨a1, a2, a3⟩ := S.2.2 j hj
  exact ⟨(q _ (by omega)).trans a1, (q _ (by omega)).trans a2, a3⟩
theorem OR_k {p p' : Nat → Nat → Int32} {k n : Nat} {sp : Nat → Nat} (q : ∀ x, x < 7 → p' 9 (7 * k + x) = p 9 (7 * k + x)) (S : OR p k n sp) : OR p' k n sp := by
  have hn := S.1
  refine ⟨S.1, (q 0 (by decide)).trans S.2.1, fun j hj => ?_⟩
  obtain ⟨a1, a2⟩ := S.2.2 j hj
  exact ⟨(q _ (by omega)).trans a1, a2⟩
def cuI (n : Nat) (f : Nat → Int32) (q : Nat) : Nat := if q < n then (f q).toNatClampNeg else 0
theorem cuI_e {n q v : Nat} {f : Nat → Int32} (hq : q < n) (e : f q = nI v) (hv : v < 2 ^ 31) : cuI n f q = v := by
  unfold cuI
  rw [if_pos hq, e, nI_clamp hv]
theorem SR_new {g1 : mg_H} {p : Nat → Nat → Int32} {k N : Nat} {D : dS} (V : VD 0 N D) (RT1 : RT g1 0 N D) (e0 : mg_i g1 19 0 = nI N) (er : ∀ j, j < 13 → p 6 (13 * k + j) = mg_i g1 19 j) : ∃ n z t pr, SR p k n z t pr := by
  obtain ⟨v1, v2, v3⟩ := V
  have v1 : N ≤ 4 := v1
  obtain ⟨r1, r2, _⟩ := RT1.1 rfl
  refine ⟨N, cuI N D.1, cuI N D.2.1, fun q => if q < N then D.2.2.1 q else 0, v1, (er 0 (by decide)).trans e0, fun j hj => ?_, fun j hj => ?_⟩
  · obtain ⟨z, t, ez, et, h1, h7, ht⟩ := (v2 j hj).1 rfl
    have c1 := cuI_e hj ez (by omega)
    have c2 := cuI_e hj et (by omega)
    have c3 : (if j < N then D.2.2.1 j else 0) = D.2.2.1 j := if_pos hj
    have := v3 j
    rw [c1, c2]
    dsimp only
    rw [c3]
    refine ⟨(er (1 + j) (by omega)).trans ((r1 j hj).1.trans ez), (er (5 + j) (by omega)).trans ((r1 j hj).2.trans et), (er (9 + j) (by omega)).trans (r2 j (by omega)), h1, h7, ht, this⟩
  · have hj' : ¬ j < N := by omega
    refine ⟨if_neg hj', if_neg hj', if_neg hj'⟩
theorem DY_new {g1 : mg_H} {p : Nat → Nat → Int32} {k N : Nat} {D : dS} (V : VD 1 N D) (RT1 : RT g1 1 N D) (e0 : mg_i g1 19 0 = nI N) (er : ∀ j, j < 81 → p 7 (81 * k + j) = mg_i g1 19 j) : ∃ m kd yy, DY p k m kd yy := by
  obtain ⟨v1, v2, v3⟩ := V
  have v1 : N ≤ 40 := v1
  have r1 := RT1.2.1 (Or.inl rfl)
  refine ⟨N, cuI N D.1, cuI N D.2.1, v1, (er 0 (by decide)).trans e0, fun j hj => ?_⟩
  obtain ⟨z, t, ez, et, h1, h7⟩ := (v2 j hj).2.1 rfl
  rw [cuI_e hj ez (by omega), cuI_e hj et (by omega)]
  exact ⟨(er (1 + 2 * j + 0) (by omega)).trans ((r1 j hj).1.trans ez), (er (1 + 2 * j + 1) (by omega)).trans (by rw [show 1 + 2 * j + 1 = 2 + 2 * j by omega]; exact (r1 j hj).2.trans et), h1, h7⟩
theorem LG_new {g1 : mg_H} {p : Nat → Nat → Int32} {k N : Nat} {D : dS} (V : VD 2 N D) (RT1 : RT g1 2 N D) (e0 : mg_i g1 19 0 = nI N) (er : ∀ j, j < 17 → p 8 (17 * k + j) = mg_i g1 19 j) : ∃ c mi gl, LGr p k c mi gl := by
  obtain ⟨v1, v2, v3⟩ := V
  have v1 : N ≤ 8 := v1
  have r1 := RT1.2.1 (Or.inr rfl)
  refine ⟨N, cuI N D.1, fun q => if D.2.1 q = nM then 9 else (D.2.1 q).toNatClampNeg, v1, (er 0 (by decide)).trans e0, fun j hj => ?_⟩
  obtain ⟨z, ez, h1, h7, hg⟩ := (v2 j hj).2.2.1 rfl
  rw [cuI_e hj ez (by omega)]
  have e2 : p 8 (17 * k + (1 + 2 * j + 1)) = D.2.1 j := (er (1 + 2 * j + 1) (by omega)).trans (by rw [show 1 + 2 * j + 1 = 2 + 2 * j by omega]; exact (r1 j hj).2)
  refine ⟨(er (1 + 2 * j + 0) (by omega)).trans ((r1 j hj).1.trans ez), ?_, h1, h7, ?_⟩
  · rw [e2]
    show D.2.1 j = glI (if D.2.1 j = nM then 9 else (D.2.1 j).toNatClampNeg)
    rcases hg with hg | ⟨w, hw, hg⟩
    · rw [if_pos hg, hg]; rfl
    · rw [hg, if_neg (by rw [nI_eqM (by omega)]; exact id), nI_clamp (by omega)]
      unfold glI
      rw [if_neg (by omega)]
  · show (if D.2.1 j = nM then 9 else (D.2.1 j).toNatClampNeg) ≤ 3 ∨ (if D.2.1 j = nM then 9 else (D.2.1 j).toNatClampNeg) = 9
    rcases hg with hg | ⟨w, hw, hg⟩
    · rw [if_pos hg]; exact Or.inr rfl
    · rw [hg, if_neg (by rw [nI_eqM (by omega)]; exact id), nI_clamp (by omega)]
      exact Or.inl hw
theorem OR_new {g1 : mg_H} {p : Nat → Nat → Int32} {k N : Nat} {D : dS} (V : VD 3 N D) (RT1 : RT g1 3 N D) (e0 : mg_i g1 19 0 = nI N) (er : ∀ j, j < 7 → p 9 (7 * k + j) = mg_i g1 19 j) : ∃ n sp, OR p k n sp := by
  obtain ⟨v1, v2, v3⟩ := V
  have v1 : N ≤ 6 := v1
  have r1 := RT1.2.2 rfl
  refine ⟨N, cuI N D.1, v1, (er 0 (by decide)).trans e0, fun j hj => ?_⟩
  obtain ⟨z, ez, h1, h7⟩ := (v2 j hj).2.2.2 rfl
  rw [cuI_e hj ez (by omega)]
  exact ⟨(er (1 + j) (by omega)).trans ((r1 j hj).trans ez), h1, h7⟩
theorem okN_lt {p : Nat → Nat → Int32} {s k m : Nat} {x : Int32} (hm : m ≤ 2) (e : p 5 s = nI m) (h : okN p s x k) : k < m := by
  obtain ⟨_, h2, h3, h4⟩ := h
  rw [e] at h4
  rcases Nat.eq_zero_or_pos m with e0 | e0
  · rw [e0] at h4
    exact absurd (Int32.le_trans h3 h4) (by decide)
  · rw [nl_1, pk_sub e0] at h4
    have := (nI_leI (by omega) (by omega)).mp h4
    omega
theorem okN_of {p : Nat → Nat → Int32} {s k m : Nat} (hm : m ≤ 2) (e : p 5 s = nI m) (h : k < m) : okN p s (nI k) k := by
  refine ⟨rfl, by omega, nI_le (a := 0) (Nat.zero_le k) (by omega), ?_⟩
  rw [e, nl_1, pk_sub (by omega)]
  exact nI_le (by omega) (by omega)
theorem tNo_one {m k k' : Nat} {x : Int32} (hm : m ≤ 2) (a : tNo m x k) (b : tNo m x k') : k = k' := by
  rcases a with ⟨a1, a2⟩ | ⟨a1, a2, a3⟩ <;> rcases b with ⟨b1, b2⟩ | ⟨b1, b2, b3⟩
  · exact (nI_eq (by omega) (by omega)).mp (a1.symm.trans b1)
  · have := a1.symm.trans b1
    rw [nI_eqM (by omega)] at this
    exact this.elim
  · have := b1.symm.trans a1
    rw [nI_eqM (by omega)] at this
    exact this.elim
  · omega
theorem tNo_lt {m k : Nat} {x : Int32} (hm : m ≤ 2) (a : tNo m x k) : k < 2 ∧ k ≤ m := by
  rcases a with ⟨a1, a2⟩ | ⟨a1, a2, a3⟩ <;> omega
