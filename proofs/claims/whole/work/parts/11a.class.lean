/-! the class by names: nm c is the address of cell c (30 Steps, 31 rowOf, 32 known, ..); Steps, turned, codeOf, fills -/
def inj (nm : Nat → Nat) : Prop := ∀ i j, nm i = nm j → i = j
theorem inj.ne {nm : Nat → Nat} (h : inj nm) {i j : Nat} (hij : i ≠ j) : nm i ≠ nm j := fun e => hij (h i j e)
theorem xu {nm : Nat → Nat} (hn : inj nm) {h : xg_H} {c j d k : Nat} {v : Int32} : xg_i (xg_ui h (nm c) j v) (nm d) k = if d = c ∧ k = j then v else xg_i h (nm d) k := by
  rw [xi_ui]
  by_cases e : d = c
  · subst e; by_cases e2 : k = j
    · rw [if_pos ⟨rfl, e2⟩, if_pos ⟨rfl, e2⟩]
    · rw [if_neg (fun q => e2 q.2), if_neg (fun q => e2 q.2)]
  · rw [if_neg (fun q => e (hn _ _ q.1)), if_neg (fun q => e q.1)]
theorem xu_c {nm : Nat → Nat} (hn : inj nm) {h : xg_H} {c j d k : Nat} {v : Int32} (e : d ≠ c) : xg_i (xg_ui h (nm c) j v) (nm d) k = xg_i h (nm d) k := by rw [xu hn, if_neg (fun q => e q.1)]
theorem xu_p {nm : Nat → Nat} (hn : inj nm) {h : xg_H} {c j d k : Nat} {v : Int32} (e : k ≠ j) : xg_i (xg_ui h (nm c) j v) (nm d) k = xg_i h (nm d) k := by rw [xu hn, if_neg (fun q => e q.2)]
theorem xl_ui (h : xg_H) (c j d k : Nat) (v : Int32) : xg_l (xg_ui h c j v) d k = xg_l h d k := rfl
theorem xi_ul (h : xg_H) (c j d k : Nat) (v : Int64) : xg_i (xg_ul h c j v) d k = xg_i h d k := rfl
theorem xo_ul (h : xg_H) (c j d k : Nat) (v : Int64) : xg_o (xg_ul h c j v) d k = xg_o h d k := rfl
theorem xl_ul (h : xg_H) (c j d k : Nat) (v : Int64) : xg_l (xg_ul h c j v) d k = if d = c ∧ k = j then v else xg_l h d k := rfl
theorem xv {nm : Nat → Nat} (hn : inj nm) {h : xg_H} {c j d k : Nat} {v : Int64} : xg_l (xg_ul h (nm c) j v) (nm d) k = if d = c ∧ k = j then v else xg_l h (nm d) k := by
  rw [xl_ul]
  by_cases e : d = c
  · subst e; by_cases e2 : k = j
    · rw [if_pos ⟨rfl, e2⟩, if_pos ⟨rfl, e2⟩]
    · rw [if_neg (fun q => e2 q.2), if_neg (fun q => e2 q.2)]
  · rw [if_neg (fun q => e (hn _ _ q.1)), if_neg (fun q => e q.1)]
/-- nothing but the cells L has changed, and no reference -/
def xd (nm : Nat → Nat) (L : List Nat) (h h2 : xg_H) : Prop := (∀ c, c ∉ L → ∀ j, xg_i h2 (nm c) j = xg_i h (nm c) j ∧ xg_l h2 (nm c) j = xg_l h (nm c) j) ∧ ∀ c j, xg_o h2 (nm c) j = xg_o h (nm c) j
theorem xd.rf {nm : Nat → Nat} {L : List Nat} {h : xg_H} : xd nm L h h := ⟨fun _ _ _ => ⟨rfl, rfl⟩, fun _ _ => rfl⟩
theorem xd.tr {nm : Nat → Nat} {L : List Nat} {h h2 h3 : xg_H} (a : xd nm L h h2) (b : xd nm L h2 h3) : xd nm L h h3 := ⟨fun c hc j => ⟨(b.1 c hc j).1.trans (a.1 c hc j).1, (b.1 c hc j).2.trans (a.1 c hc j).2⟩, fun c j => (b.2 c j).trans (a.2 c j)⟩
theorem xd.mono {nm : Nat → Nat} {L L' : List Nat} {h h2 : xg_H} (a : xd nm L h h2) (hL : ∀ c ∈ L, c ∈ L') : xd nm L' h h2 := ⟨fun c hc j => a.1 c (fun q => hc (hL c q)) j, a.2⟩
theorem xd.ui {nm : Nat → Nat} (hn : inj nm) {L : List Nat} {h h2 : xg_H} {c j : Nat} {v : Int32} (a : xd nm L h h2) (hc : c ∈ L) : xd nm L h (xg_ui h2 (nm c) j v) := ⟨fun d hd k => ⟨(xu_c (d := d) (c := c) hn (fun e => hd (by rw [e]; exact hc))).trans (a.1 d hd k).1, (a.1 d hd k).2⟩, a.2⟩
theorem xd.ul {nm : Nat → Nat} (hn : inj nm) {L : List Nat} {h h2 : xg_H} {c j : Nat} {v : Int64} (a : xd nm L h h2) (hc : c ∈ L) : xd nm L h (xg_ul h2 (nm c) j v) := ⟨fun d hd k => ⟨(a.1 d hd k).1, (by rw [xv hn, if_neg (fun q : d = c ∧ k = j => hd (by rw [q.1]; exact hc))]; exact (a.1 d hd k).2)⟩, a.2⟩
theorem xd.i {nm : Nat → Nat} {L : List Nat} {h h2 : xg_H} (a : xd nm L h h2) (c : Nat) (hc : c ∉ L) (j : Nat) : xg_i h2 (nm c) j = xg_i h (nm c) j := (a.1 c hc j).1
/-- cell c is of the kind k and has n places -/
def xk (Y : xg_Y) (nm : Nat → Nat) (c k n : Nat) : Prop := xg_is Y (nm c) k ∧ xg_n Y (nm c) = n
def LSt (Y : xg_Y) (h : xg_H) (nm : Nat → Nat) : Prop := xg_is Y (nm 30) 7 ∧ xg_o h (nm 30) 0 = some (nm 31) ∧ xk Y nm 31 22 4096 ∧ xg_o h (nm 30) 1 = some (nm 32) ∧ xk Y nm 32 22 4096
theorem LSt.mv {Y : xg_Y} {h h2 : xg_H} {nm : Nat → Nat} {L : List Nat} (a : LSt Y h nm) (e : xd nm L h h2) : LSt Y h2 nm := ⟨a.1, (e.2 30 0).trans a.2.1, a.2.2.1, (e.2 30 1).trans a.2.2.2.1, a.2.2.2.2⟩
/-! Steps -/
def z0 : Nat → Nat := fun _ => 0
theorem tn0 (c g : Nat) : tn z0 c 0 g = dg c g := by unfold tn; rw [Nat.zero_testBit]; rfl
def mk (c : Nat) : Nat → Nat
  | 0 => 8
  | k + 1 => if 0 < dg c k ∧ dg c k < mk c k then dg c k else mk c k
theorem mk_lk (c : Nat) : ∀ k, (mk c k = 8 ∧ lk z0 c 0 k = 1000000) ∨ (mk c k = lk z0 c 0 k ∧ 0 < mk c k ∧ mk c k < 8)
  | 0 => Or.inl ⟨rfl, rfl⟩
  | k + 1 => by
    have h8 := dg_lt c k
    have ih := mk_lk c k
    simp only [mk, lk, tn0]
    by_cases h1 : 0 < dg c k ∧ dg c k < mk c k
    · rw [if_pos h1, if_pos (by omega)]
      exact Or.inr ⟨rfl, h1.1, h8⟩
    · by_cases h2 : 0 < dg c k ∧ dg c k < lk z0 c 0 k
      · omega
      · rw [if_neg h1, if_neg h2]; exact ih
def stp (c : Nat) : Nat := if mk c 4 = 8 then 0 else mk c 4 * 4096 + bk z0 c 0 (mk c 4) 4
theorem zok0 : zok z0 := fun _ _ => Nat.zero_le _
theorem lk_congr {z z' : Nat → Nat} {c c' s s' : Nat} : ∀ k, (∀ g, g < k → tn z c s g = tn z' c' s' g) → lk z c s k = lk z' c' s' k
  | 0, _ => rfl
  | k + 1, h => by
    have ih := lk_congr k (fun g hg => h g (by omega))
    simp only [lk]
    rw [ih, h k (by omega)]
theorem bk_congr {z z' : Nat → Nat} {c c' s s' d : Nat} : ∀ k, (∀ g, g < k → tn z c s g = tn z' c' s' g) → bk z c s d k = bk z' c' s' d k
  | 0, _ => rfl
  | k + 1, h => by
    have ih := bk_congr (d := d) k (fun g hg => h g (by omega))
    simp only [bk]
    rw [ih, h k (by omega)]
/-- the step behind the turns -/
theorem stp_ck {z : Nat → Nat} {c s : Nat} (hz : zok z) : (dl z c s = 0 → stp (ck z c s 4) = 0) ∧ (0 < dl z c s → stp (ck z c s 4) = dl z c s * 4096 + nc z c s) := by
  have h : ∀ g, g < 4 → tn z0 (ck z c s 4) 0 g = tn z c s g := fun g hg => by rw [tn0, dg_ck hz g hg]
  have e1 := lk_congr 4 h
  have e2 : dl z c s = if lk z0 (ck z c s 4) 0 4 = 1000000 then 0 else lk z0 (ck z c s 4) 0 4 := by rw [e1]; rfl
  rcases mk_lk (ck z c s 4) 4 with ⟨a, b⟩ | ⟨a, b, d⟩
  · rw [if_pos b] at e2
    refine ⟨fun _ => by unfold stp; rw [if_pos a], fun h0 => by omega⟩
  · rw [if_neg (by omega)] at e2
    refine ⟨fun h0 => by omega, fun _ => ?_⟩
    unfold stp
    rw [if_neg (by omega), show mk (ck z c s 4) 4 = dl z c s by omega, bk_congr 4 h]; rfl
theorem stp_lt (c : Nat) : stp c < 32768 := by
  unfold stp
  split
  · decide
  · have h1 := bk_lt (c := c) (s := 0) (d := mk c 4) zok0 4 (by decide)
    rcases mk_lk c 4 with ⟨a, b⟩ | ⟨a, b, d⟩ <;> omega
theorem dg_J {c k : Nat} (hc : c < 2 ^ 31) (hk : k < 4) : (nI c >>> (nI (3 * k) &&& 31)) &&& 7 = nI (dg c k) := by
  rw [nl_31, m31 (by omega), sr_I hc (by omega), nl_7, m7, p28]; rfl
theorem or_J {a b k : Nat} (ha : a < 8 ^ k) (hb : b ≤ 7) (hk : k < 4) : nI a ||| (nI b <<< (nI (3 * k) &&& 31)) = nI (a + b * 8 ^ k) := by
  have := or_I ha hb hk
  rw [nl_3, pk_mul] at this
  exact this
theorem mx_I {a b : Nat} (ha : a < 2 ^ 30) (hb : b < 2 ^ 30) : (if (0 : Int32) < nI a - nI b then nI a - nI b else 0) = nI (a - b) := by
  have e := pk_sub_toInt ha hb
  have e0 : (0 : Int32).toInt = 0 := rfl
  by_cases h : b < a
  · rw [if_pos (Int32.lt_iff_toInt_lt.mpr (by rw [e]; omega)), pk_sub (by omega)]
  · rw [if_neg (fun q => by have := Int32.lt_iff_toInt_lt.mp q; rw [e] at this; omega), show a - b = 0 by omega]; rfl
theorem hi_I {d b : Nat} (hd : d < 1000) (hb : b < 4096) : (nI d <<< ((12 : Int32) &&& 31)) ||| nI b = nI (d * 4096 + b) := by
  rw [nl_12, nl_31, m31 (by decide), sl_I (by decide) (by omega), fa_or]
  have h1 := Nat.two_pow_add_eq_or_of_lt (i := 12) (b := b) hb d
  rw [Nat.mul_comm d, ← h1]
theorem sp_X7_workOut {Y : xg_Y} {Q : Int32 → xg_H → Prop} {h : xg_H} {c : Nat} (hc : c < 4096) (q : Q (nI (stp c)) h) : wp_X7_workOut Y Q (nI c) h := by
  unfold wp_X7_workOut
  intro R5 R47 R29 c5 c47 c29
  have hmk : ∀ k, mk c k ≤ 8 := fun k => by rcases mk_lk c k with ⟨a, b⟩ | ⟨a, b, d⟩ <;> omega
  refine mp_up (P := fun k => R5 (nI (mk c k)) (nI (3 * k)) h) (n := 4) ?_ ?_
  · refine c5 _ _ _ (bq_t (by decide) ?_)
    have h4 := hmk 4
    unfold stp at q
    by_cases e : mk c 4 = 8
    · rw [if_pos e] at q
      exact bq_nf (by rw [e]; rfl) q
    · rw [if_neg e] at q
      refine bq_nt (fun e9 => e ((nI_eq (b := 8) (by omega) (by decide)).mp e9)) ?_
      refine mp_up (P := fun k => R47 (nI (mk c 4)) (nI (bk z0 c 0 (mk c 4) k)) (nI (3 * k)) h) (n := 4) ?_ ?_
      · refine c47 _ _ _ _ (bq_t (by decide) ?_)
        rw [hi_I (by omega) (bk_lt zok0 4 (by decide))]; exact q
      · intro k hk ih
        refine c47 _ _ _ _ (bq_f (nI_ge (b := 12) (by omega) (by decide)) ?_)
        have h8 := dg_lt c k
        rw [dg_J (by omega) hk, mx_I (by omega) (by omega)]
        rintro _ rfl _ rfl _ rfl
        rw [or_J (bk_lt zok0 k (by omega)) (by omega) hk, nl_3, nI_add]
        have e9 : bk z0 c 0 (mk c 4) (k + 1) = bk z0 c 0 (mk c 4) k + (dg c k - mk c 4) * 8 ^ k := by simp only [bk, tn0]
        rw [← e9]; exact ih
  · intro k hk ih
    have h8 := dg_lt c k
    have h9 := hmk k
    have j : ∀ v, v = mk c (k + 1) → R29 (nI v) (nI (3 * k)) h := by
      rintro v rfl
      refine c29 _ _ _ ?_
      rintro _ rfl
      rw [nl_3, nI_add]; exact ih
    refine c5 _ _ _ (bq_f (nI_ge (b := 12) (by omega) (by decide)) ?_)
    rw [dg_J (by omega) hk]
    rintro _ rfl
    simp only [mk] at j
    refine ⟨fun a => j _ ?_, fun a => ⟨fun b => j _ ?_, fun b => j _ ?_⟩⟩
    · have a := (nI_leI (a := dg c k) (b := 0) (by omega) (by omega)).mp a
      rw [if_neg (by omega)]
    · have b := (nI_leI (by omega) (by omega)).mp b
      rw [if_neg (by omega)]
    · have a : ¬ dg c k ≤ 0 := fun q => a ((nI_leI (a := dg c k) (b := 0) (by omega) (by omega)).mpr q)
      have b : ¬ mk c k ≤ dg c k := fun q => b ((nI_leI (by omega) (by omega)).mpr q)
      rw [if_pos (by omega)]
/-- what is known of the steps is so -/
def KN (h : xg_H) (nm : Nat → Nat) : Prop := ∀ c, c < 4096 → xg_i h (nm 32) c = nI 0 ∨ xg_i h (nm 32) c = nI (stp c)
theorem KN.mv {nm : Nat → Nat} {L : List Nat} {h h2 : xg_H} (a : KN h nm) (e : xd nm L h h2) (hL : 32 ∉ L) : KN h2 nm := fun c hc => by rw [e.i 32 hL]; exact a c hc
theorem sp_X7_from {Y : xg_Y} {Q : Int32 → xg_H → Prop} {h : xg_H} {nm : Nat → Nat} {x : Nat} (hn : inj nm) (L : LSt Y h nm) (K : KN h nm) (q : ∀ h', xd nm [32] h h' → KN h' nm → Q (nI (stp (x % 4096))) h') : wp_X7_from Y Q (nm 30) (nI x) h := by
  obtain ⟨k30, o0, k31, o1, k32⟩ := L
  unfold wp_X7_from
  refine ⟨k30, fun R25 c25 z1 e1 => ⟨nm 32, o1, k32.1, ?_⟩⟩
  rw [nl_4095, m4095] at e1
  subst e1
  have hc : x % 4096 < 4096 := Nat.mod_lt _ (by decide)
  have hs := stp_lt (x % 4096)
  rw [k32.2, nI_clamp (by omega)]
  refine ⟨vp_in_nI hc (by decide), fun c => c25 _ _ ⟨nm 32, o1, k32.1, ?_⟩, fun c => sp_X7_workOut hc ⟨vp_in_nI hc (by decide), ?_⟩⟩
  · rw [k32.2, nI_clamp (by omega)]
    refine ⟨vp_in_nI hc (by decide), ?_⟩
    rcases K _ hc with e | e
    · exact absurd e c
    · rw [e]; exact q h xd.rf K
  · rintro h5 rfl
    refine c25 _ _ ⟨nm 32, o1, k32.1, ?_⟩
    rw [k32.2, nI_clamp (by omega), xu hn, if_pos ⟨rfl, rfl⟩]
    refine ⟨vp_in_nI hc (by decide), q _ (xd.ui hn xd.rf (by decide)) (fun c hc2 => ?_)⟩
    rw [xu hn]
    by_cases e : c = x % 4096
    · rw [if_pos ⟨rfl, e⟩, e]; exact Or.inr rfl
    · rw [if_neg (fun q => e q.2)]; exact K c hc2
/-! turned, codeOf -/
theorem cd_bit {f : Nat → Nat} (hf : ∀ g, g < 4 → f g ≤ 7) {i : Nat} (hi : i < 12) : (cd (f 0) (f 1) (f 2) (f 3)).testBit i = (f (i / 3)).testBit (i % 3) := by
  have h0 := hf 0 (by decide)
  have h1 := hf 1 (by decide)
  have h2 := hf 2 (by decide)
  have h3 := hf 3 (by decide)
  rw [Nat.testBit_eq_decide_div_mod_eq, Nat.testBit_eq_decide_div_mod_eq]
  unfold cd
  congr 1
  apply propext
  rcases (show i = 0 ∨ i = 1 ∨ i = 2 ∨ i = 3 ∨ i = 4 ∨ i = 5 ∨ i = 6 ∨ i = 7 ∨ i = 8 ∨ i = 9 ∨ i = 10 ∨ i = 11 by omega) with rfl | rfl | rfl | rfl | rfl | rfl | rfl | rfl | rfl | rfl | rfl | rfl <;> simp only [Nat.reduceDiv, Nat.reduceMod, Nat.reducePow] <;> omega
theorem cd_bit_hi {f : Nat → Nat} (hf : ∀ g, g < 4 → f g ≤ 7) {i : Nat} (hi : 12 ≤ i) : (cd (f 0) (f 1) (f 2) (f 3)).testBit i = false := by
  apply Nat.testBit_lt_two_pow
  have h := cd_lt (hf 0 (by decide)) (hf 1 (by decide)) (hf 2 (by decide)) (hf 3 (by decide))
  exact Nat.lt_of_lt_of_le h (Nat.pow_le_pow_right (n := 2) (by decide) hi)
theorem bt_nI (a : Nat) {i : Nat} (hi : i < 32) : bt (nI a) i = a.testBit i := by
  show (BitVec.ofNat 32 a).getLsbD i = a.testBit i
  rw [BitVec.getLsbD_ofNat]; simp [hi]
theorem bt_not (x : Int32) {i : Nat} (hi : i < 32) : bt (x ^^^ (-1)) i = !bt x i := by rw [b_xor, b_m1 i hi]; cases bt x i <;> rfl
theorem fld_bit : ∀ s, s < 16 → ∀ i, i < 32 → bt (xg_sv 2 s) i = (decide (i < 12) && s.testBit (i / 3)) := by decide +kernel
theorem cd_okc {z : Nat → Nat} {c : Nat} (hc : okc z c) : cd (z 0) (z 1) (z 2) (z 3) - c = cd (z 0 - dg c 0) (z 1 - dg c 1) (z 2 - dg c 2) (z 3 - dg c 3) ∧ c ≤ cd (z 0) (z 1) (z 2) (z 3) := by
  have e := cd_dg hc.1
  have h0 := hc.2 0 (by decide)
  have h1 := hc.2 1 (by decide)
  have h2 := hc.2 2 (by decide)
  have h3 := hc.2 3 (by decide)
  unfold cd at *
  omega
theorem turn_I {z : Nat → Nat} {c s : Nat} (hz : zok z) (hc : okc z c) (hs : s < 16) : (nI c &&& (xg_sv 2 s ^^^ (-1))) ||| ((nI (cd (z 0) (z 1) (z 2) (z 3)) - nI c) &&& xg_sv 2 s) = nI (ck z c s 4) := by
  obtain ⟨e1, e2⟩ := cd_okc hc
  rw [pk_sub e2, e1, ck4]
  have hD : ∀ g, g < 4 → (fun g => z g - dg c g) g ≤ 7 := fun g hg => by have := hz g hg; show z g - dg c g ≤ 7; omega
  have hC : ∀ g, g < 4 → (fun g => dg c g) g ≤ 7 := fun g hg => by have := dg_lt c g; show dg c g ≤ 7; omega
  have hT : ∀ g, g < 4 → (fun g => tn z c s g) g ≤ 7 := fun g hg => tn_le hz hg
  apply b_ext
  intro i hi
  rw [b_or, b_and, b_and, bt_not _ hi, fld_bit s hs i hi, bt_nI _ hi, bt_nI _ hi, bt_nI _ hi]
  have ec := cd_dg hc.1
  rcases Nat.lt_or_ge i 12 with h12 | h12
  · have b1 : c.testBit i = (dg c (i / 3)).testBit (i % 3) := by
      have := cd_bit hC h12
      rw [ec] at this; exact this
    have b2 := cd_bit hD h12
    have b3 := cd_bit hT h12
    rw [b1, b2, b3, decide_eq_true h12]
    unfold tn
    cases s.testBit (i / 3) <;> simp
  · have b1 : c.testBit i = false := by
      have := cd_bit_hi hC h12
      rw [ec] at this; exact this
    have b3 := cd_bit_hi hT h12
    rw [b1, b3, decide_eq_false (by omega)]
    simp
theorem sp_X11_turned {Y : xg_Y} {Q : Int32 → xg_H → Prop} {h : xg_H} {z : Nat → Nat} {c s : Nat} (hz : zok z) (hc : okc z c) (hs : s < 16) (q : Q (nI (ck z c s 4)) h) : wp_X11_turned Y Q (nI (cd (z 0) (z 1) (z 2) (z 3))) (nI c) (nI s) h := by
  unfold wp_X11_turned
  rw [nl_15, m15, Nat.mod_eq_of_lt hs, nI_clamp (by omega)]
  refine ⟨vp_in_nI (show s < 16 from hs) (by decide), fun z1 e1 => ?_⟩
  subst e1
  rw [turn_I hz hc hs]; exact q
/-- the code of the first k of a row -/
def cp (f : Nat → Nat) : Nat → Nat
  | 0 => 0
  | k + 1 => cp f k + f k * 8 ^ k
theorem cp_lt {f : Nat → Nat} : ∀ k, (∀ g, g < k → f g ≤ 7) → cp f k < 8 ^ k
  | 0, _ => by simp only [cp]; decide
  | k + 1, hf => by
    have h := cp_lt (f := f) k (fun g hg => hf g (by omega))
    have hm := Nat.mul_le_mul_right (8 ^ k) (hf k (by omega))
    simp only [cp]
    rw [Nat.pow_succ]
    omega
theorem cp4 (f : Nat → Nat) : cp f 4 = cd (f 0) (f 1) (f 2) (f 3) := by
  unfold cd
  simp only [cp]
  omega
theorem cp_n {f : Nat → Nat} {n : Nat} (hn : n ≤ 4) (h0 : ∀ g, n ≤ g → f g = 0) : cp f n = cd (f 0) (f 1) (f 2) (f 3) := by
  rw [← cp4]
  have : ∀ d, n + d ≤ 4 → cp f (n + d) = cp f n := by
    intro d
    induction d with
    | zero => exact fun _ => rfl
    | succ d ih =>
      intro h
      show cp f (n + d) + f (n + d) * 8 ^ (n + d) = _
      rw [h0 (n + d) (by omega), ih (by omega)]; omega
  have := this (4 - n) (by omega)
  rw [show n + (4 - n) = 4 by omega] at this
  exact this.symm
theorem sp_X11_codeOf {Y : xg_Y} {Q : Int32 → xg_H → Prop} {h : xg_H} {a n : Nat} {f : Nat → Nat} (k22 : xg_is Y a 22) (hl : xg_n Y a = 4) (hn : n ≤ 4) (hf : ∀ g, g < n → xg_i h a g = nI (f g) ∧ f g ≤ 7) (q : Q (nI (cp f n)) h) : wp_X11_codeOf Y Q (some a) (nI n) h := by
  unfold wp_X11_codeOf
  intro R4 c4
  refine mp_up (P := fun k => R4 (nI (cp f k)) (nI k) h) (n := n) ?_ ?_
  · exact c4 _ _ _ (bq_t (nI_le (Nat.le_refl n) (by omega)) q)
  · intro k hk ih
    refine c4 _ _ _ (bq_f (nI_ge hk (by omega)) ⟨a, rfl, k22, ?_⟩)
    rw [hl, nI_clamp (by omega), (hf k hk).1]
    refine bq_f (nI_ge (b := 4) (by omega) (by decide)) ⟨vp_in_nI (show k < 4 by omega) (by decide), ?_⟩
    rintro _ rfl _ rfl
    rw [or_I (cp_lt k (fun g hg => (hf g (by omega)).2)) (hf k hk).2 (by omega), nI_1]
    exact ih
theorem sp_X11_has {Y : xg_Y} {Q : Int32 → xg_H → Prop} {s k : Nat} {h : xg_H} (hs : s < 2 ^ 31) (hk : k < 32) (q1 : s.testBit k = true → Q 1 h) (q0 : s.testBit k = false → Q 0 h) : wp_X11_has Y Q (nI s) (nI k) h := by
  unfold wp_X11_has
  exact ⟨fun c => q0 (Bool.eq_false_iff.mpr (fun e => c ((has_I hs hk).mpr e))), fun c => q1 ((has_I hs hk).mp c)⟩
/-! fills -/
theorem sp_fill {Y : xg_Y} {Q : xg_H → Prop} {h : xg_H} {nm : Nat → Nat} {c n : Nat} {v : Int32} (hn : inj nm) (k : xk Y nm c 22 n) (hl : n < 2 ^ 31) (q : ∀ h', xd nm [c] h h' → (∀ j, xg_i h' (nm c) j = if j < n then v else xg_i h (nm c) j) → Q h') : wp_J7_fill_53178 Y Q (some (nm c)) v h := by
  unfold wp_J7_fill_53178
  intro R5 c5
  refine ⟨nm c, rfl, k.1, fun z2 e2 => ?_⟩
  rw [k.2] at e2
  subst e2
  refine lp (σ := xg_H) (R := fun i s => R5 (nI i) (nI n) s) (fun i s => xd nm [c] h s ∧ ∀ j, xg_i s (nm c) j = if j < i then v else xg_i h (nm c) j) 0 n (Nat.zero_le n) ?_ ?_ h ⟨xd.rf, fun j => by rw [if_neg (Nat.not_lt_zero j)]⟩
  · exact fun s hs => c5 _ _ _ (bq_t (nI_le (Nat.le_refl n) hl) (q s hs.1 hs.2))
  · intro i s _ hi hs ih
    refine c5 _ _ _ (bq_f (nI_ge hi hl) ⟨nm c, rfl, k.1, ?_⟩)
    rw [k.2, nI_clamp (by omega)]
    refine ⟨vp_in_nI hi hl, ?_⟩
    rintro _ rfl _ rfl
    rw [nI_1]
    refine ih _ ⟨xd.ui hn hs.1 (by simp), fun j => ?_⟩
    rw [xu hn]
    by_cases e : j = i
    · rw [if_pos ⟨rfl, e⟩, if_pos (by omega)]
    · rw [if_neg (fun q => e q.2), hs.2 j]
      by_cases e2 : j < i
      · rw [if_pos e2, if_pos (by omega)]
      · rw [if_neg e2, if_neg (by omega)]
theorem sp_fillL {Y : xg_Y} {Q : xg_H → Prop} {h : xg_H} {nm : Nat → Nat} {c n : Nat} {v : Int64} (hn : inj nm) (k : xk Y nm c 23 n) (hl : n < 2 ^ 31) (q : ∀ h', xd nm [c] h h' → (∀ j, xg_l h' (nm c) j = if j < n then v else xg_l h (nm c) j) → Q h') : wp_J7_fill_d0a16 Y Q (some (nm c)) v h := by
  unfold wp_J7_fill_d0a16
  intro R5 c5
  refine ⟨nm c, rfl, k.1, fun z2 e2 => ?_⟩
  rw [k.2] at e2
  subst e2
  refine lp (σ := xg_H) (R := fun i s => R5 (nI i) (nI n) s) (fun i s => xd nm [c] h s ∧ ∀ j, xg_l s (nm c) j = if j < i then v else xg_l h (nm c) j) 0 n (Nat.zero_le n) ?_ ?_ h ⟨xd.rf, fun j => by rw [if_neg (Nat.not_lt_zero j)]⟩
  · exact fun s hs => c5 _ _ _ (bq_t (nI_le (Nat.le_refl n) hl) (q s hs.1 hs.2))
  · intro i s _ hi hs ih
    refine c5 _ _ _ (bq_f (nI_ge hi hl) ⟨nm c, rfl, k.1, ?_⟩)
    rw [k.2, nI_clamp (by omega)]
    refine ⟨vp_in_nI hi hl, ?_⟩
    rintro _ rfl _ rfl
    rw [nI_1]
    refine ih _ ⟨xd.ul hn hs.1 (by simp), fun j => ?_⟩
    rw [xv hn]
    by_cases e : j = i
    · rw [if_pos ⟨rfl, e⟩, if_pos (by omega)]
    · rw [if_neg (fun q => e q.2), hs.2 j]
      by_cases e2 : j < i
      · rw [if_pos e2, if_pos (by omega)]
      · rw [if_neg e2, if_neg (by omega)]
theorem sp_fillR {Y : xg_Y} {Q : xg_H → Prop} {h : xg_H} {nm : Nat → Nat} {c n b : Nat} {v : Int32} (hn : inj nm) (k : xk Y nm c 22 n) (hl : n < 2 ^ 31) (hb : b ≤ n) (q : ∀ h', xd nm [c] h h' → (∀ j, xg_i h' (nm c) j = if j < b then v else xg_i h (nm c) j) → Q h') : wp_J7_fill_fda19 Y Q (some (nm c)) 0 (nI b) v h := by
  unfold wp_J7_fill_fda19
  intro R5 c5
  refine ⟨nm c, rfl, k.1, ?_⟩
  rw [k.2]
  unfold wp_J7_rangeCheck_23922
  refine bq_t (nI_pos' (by omega)) (bq_t (by decide) (bq_t (nI_le hb hl) ?_))
  refine lp (σ := xg_H) (R := fun i s => R5 (nI i) s) (fun i s => xd nm [c] h s ∧ ∀ j, xg_i s (nm c) j = if j < i then v else xg_i h (nm c) j) 0 b (Nat.zero_le b) ?_ ?_ h ⟨xd.rf, fun j => by rw [if_neg (Nat.not_lt_zero j)]⟩
  · exact fun s hs => c5 _ _ (bq_t (nI_le (Nat.le_refl b) (by omega)) (q s hs.1 hs.2))
  · intro i s _ hi hs ih
    refine c5 _ _ (bq_f (nI_ge hi (by omega)) ⟨nm c, rfl, k.1, ?_⟩)
    rw [k.2, nI_clamp (by omega)]
    refine ⟨vp_in_nI (by omega) hl, ?_⟩
    rintro _ rfl _ rfl
    rw [nI_1]
    refine ih _ ⟨xd.ui hn hs.1 (by simp), fun j => ?_⟩
    rw [xu hn]
    by_cases e : j = i
    · rw [if_pos ⟨rfl, e⟩, if_pos (by omega)]
    · rw [if_neg (fun q => e q.2), hs.2 j]
      by_cases e2 : j < i
      · rw [if_pos e2, if_pos (by omega)]
      · rw [if_neg e2, if_neg (by omega)]
