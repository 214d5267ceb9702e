/-! numbers: small ints as naturals, -1 and -2 by name, shifts, masks, bits -/
def nM : Int32 := -1
def nM2 : Int32 := -2
def nM9 : Int32 := -9
theorem nl_m1 : (-1 : Int32) = nM := rfl
theorem nl_m2 : (-2 : Int32) = nM2 := rfl
theorem nl_m9 : (-9 : Int32) = nM9 := rfl
theorem nl_0 : (0 : Int32) = nI 0 := rfl
theorem nl_1 : (1 : Int32) = nI 1 := rfl
theorem nl_2 : (2 : Int32) = nI 2 := rfl
theorem nl_3 : (3 : Int32) = nI 3 := rfl
theorem nl_4 : (4 : Int32) = nI 4 := rfl
theorem nl_5 : (5 : Int32) = nI 5 := rfl
theorem nl_6 : (6 : Int32) = nI 6 := rfl
theorem nl_7 : (7 : Int32) = nI 7 := rfl
theorem nl_8 : (8 : Int32) = nI 8 := rfl
theorem nl_9 : (9 : Int32) = nI 9 := rfl
theorem nl_10 : (10 : Int32) = nI 10 := rfl
theorem nl_11 : (11 : Int32) = nI 11 := rfl
theorem nl_12 : (12 : Int32) = nI 12 := rfl
theorem nl_13 : (13 : Int32) = nI 13 := rfl
theorem nl_14 : (14 : Int32) = nI 14 := rfl
theorem nl_15 : (15 : Int32) = nI 15 := rfl
theorem nl_16 : (16 : Int32) = nI 16 := rfl
theorem nl_17 : (17 : Int32) = nI 17 := rfl
theorem nl_18 : (18 : Int32) = nI 18 := rfl
theorem nl_19 : (19 : Int32) = nI 19 := rfl
theorem nl_20 : (20 : Int32) = nI 20 := rfl
theorem nl_21 : (21 : Int32) = nI 21 := rfl
theorem nl_22 : (22 : Int32) = nI 22 := rfl
theorem nl_23 : (23 : Int32) = nI 23 := rfl
theorem nl_24 : (24 : Int32) = nI 24 := rfl
theorem nl_26 : (26 : Int32) = nI 26 := rfl
theorem nl_30 : (30 : Int32) = nI 30 := rfl
theorem nl_31 : (31 : Int32) = nI 31 := rfl
theorem nl_32 : (32 : Int32) = nI 32 := rfl
theorem nl_34 : (34 : Int32) = nI 34 := rfl
theorem nl_39 : (39 : Int32) = nI 39 := rfl
theorem nl_40 : (40 : Int32) = nI 40 := rfl
theorem nl_41 : (41 : Int32) = nI 41 := rfl
theorem nl_44 : (44 : Int32) = nI 44 := rfl
theorem nl_48 : (48 : Int32) = nI 48 := rfl
theorem nl_50 : (50 : Int32) = nI 50 := rfl
theorem nl_57 : (57 : Int32) = nI 57 := rfl
theorem nl_59 : (59 : Int32) = nI 59 := rfl
theorem nl_60 : (60 : Int32) = nI 60 := rfl
theorem nl_80 : (80 : Int32) = nI 80 := rfl
theorem nl_81 : (81 : Int32) = nI 81 := rfl
theorem nl_90 : (90 : Int32) = nI 90 := rfl
theorem nl_97 : (97 : Int32) = nI 97 := rfl
theorem nl_99 : (99 : Int32) = nI 99 := rfl
theorem nl_100 : (100 : Int32) = nI 100 := rfl
theorem nl_122 : (122 : Int32) = nI 122 := rfl
theorem nl_162 : (162 : Int32) = nI 162 := rfl
theorem nl_200 : (200 : Int32) = nI 200 := rfl
theorem nl_255 : (255 : Int32) = nI 255 := rfl
theorem nl_416 : (416 : Int32) = nI 416 := rfl
theorem nl_600 : (600 : Int32) = nI 600 := rfl
theorem nl_753 : (753 : Int32) = nI 753 := rfl
theorem nl_1000 : (1000 : Int32) = nI 1000 := rfl
theorem nl_4095 : (4095 : Int32) = nI 4095 := rfl
theorem nl_4096 : (4096 : Int32) = nI 4096 := rfl
theorem nl_4097 : (4097 : Int32) = nI 4097 := rfl
theorem nl_16384 : (16384 : Int32) = nI 16384 := rfl
theorem nl_45056 : (45056 : Int32) = nI 45056 := rfl
theorem nl_65536 : (65536 : Int32) = nI 65536 := rfl
theorem nl_126976 : (126976 : Int32) = nI 126976 := rfl
theorem nl_376832 : (376832 : Int32) = nI 376832 := rfl
theorem nl_1000000 : (1000000 : Int32) = nI 1000000 := rfl
theorem nl_2147483647 : (2147483647 : Int32) = nI 2147483647 := rfl
theorem nM_toInt : nM.toInt = -1 := by decide
theorem nI_eqM {a : Nat} (h : a < 2 ^ 31) : (nI a = nM) = False := eq_false (fun e => by
  have := congrArg Int32.toInt e; rw [nI_toInt h, nM_toInt] at this; omega)
theorem nM_eqI {a : Nat} (h : a < 2 ^ 31) : (nM = nI a) = False := eq_false (fun e => by
  have := congrArg Int32.toInt e; rw [nI_toInt h, nM_toInt] at this; omega)
theorem nI_leM {a : Nat} (h : a < 2 ^ 31) : (nI a ≤ nM) = False := eq_false (fun e => by
  have := Int32.le_iff_toInt_le.mp e; rw [nI_toInt h, nM_toInt] at this; omega)
theorem nM_leI {a : Nat} (h : a < 2 ^ 31) : (nM ≤ nI a) = True := eq_true (Int32.le_iff_toInt_le.mpr (by rw [nI_toInt h, nM_toInt]; omega))
theorem nM_ltI {a : Nat} (h : a < 2 ^ 31) : (nM < nI a) = True := eq_true (Int32.lt_iff_toInt_lt.mpr (by rw [nI_toInt h, nM_toInt]; omega))
theorem nI_ltM {a : Nat} (h : a < 2 ^ 31) : (nI a < nM) = False := eq_false (fun e => by
  have := Int32.lt_iff_toInt_lt.mp e; rw [nI_toInt h, nM_toInt] at this; omega)
theorem in_I {a N : Nat} (h : a < 2 ^ 31) : vp_in (nI a) N ↔ a < N := by
  unfold vp_in
  rw [nI_clamp h]
  refine ⟨fun q => Nat.lt_of_not_le (fun h9 => q (Or.inr h9)), fun q r => r.elim (fun c => nI_pos h c) (fun c => by omega)⟩
theorem m31 {k : Nat} (h : k < 32) : nI k &&& nI 31 = nI k := by
  have := fa_mask k 5
  rw [show (2 ^ 5 - 1 : Nat) = 31 from rfl] at this
  rw [this, Nat.mod_eq_of_lt (by omega)]
theorem m1 {k : Nat} : nI k &&& nI 1 = nI (k % 2) := fa_mask k 1
theorem m3 {k : Nat} : nI k &&& nI 3 = nI (k % 4) := fa_mask k 2
theorem m7 {k : Nat} : nI k &&& nI 7 = nI (k % 8) := fa_mask k 3
theorem m15 {k : Nat} : nI k &&& nI 15 = nI (k % 16) := fa_mask k 4
theorem m255 {k : Nat} : nI k &&& nI 255 = nI (k % 256) := fa_mask k 8
theorem m4095 {k : Nat} : nI k &&& nI 4095 = nI (k % 4096) := fa_mask k 12
theorem m2147 {k : Nat} : nI k &&& nI 2147483647 = nI (k % 2147483648) := fa_mask k 31
theorem s_31 : ∀ k, k < 32 → ((nI k).toBitVec.smod 32).toNat = k := by decide +kernel
theorem sr_I {n k : Nat} (hn : n < 2 ^ 31) (hk : k < 32) : nI n >>> nI k = nI (n / 2 ^ k) := pk_shrN hn _ k (s_31 k hk)
theorem sl_I {n k : Nat} (hk : k < 32) (h : n * 2 ^ k < 2 ^ 32) : nI n <<< nI k = nI (n * 2 ^ k) := pk_shlN _ k (s_31 k hk) h
theorem tb_iff {s k : Nat} : s / 2 ^ k % 2 = 1 ↔ s.testBit k = true := by
  rw [Nat.testBit_eq_decide_div_mod_eq]; simp
theorem has_I {s k : Nat} (hs : s < 2 ^ 31) (hk : k < 32) : mp_has (nI s) (nI k) ↔ s.testBit k = true := by
  unfold mp_has
  rw [nl_31, m31 hk, sr_I hs hk, nl_1, m1, nI_eq (by omega) (by decide)]
  exact tb_iff
/-- branches -/
theorem bq_t {c A B : Prop} (h : c) (a : A) : (c → A) ∧ (¬ c → B) := ⟨fun _ => a, fun n => absurd h n⟩
theorem bq_f {c A B : Prop} (h : ¬ c) (b : B) : (c → A) ∧ (¬ c → B) := ⟨fun n => absurd n h, fun _ => b⟩
theorem bq_nt {c A B : Prop} (h : ¬ c) (a : A) : (¬ c → A) ∧ (c → B) := ⟨fun _ => a, fun n => absurd n h⟩
theorem bq_nf {c A B : Prop} (h : c) (b : B) : (¬ c → A) ∧ (c → B) := ⟨fun n => absurd h n, fun _ => b⟩
/-- a branch on a decidable condition with one join: both sides go on with what the condition picks -/
theorem bq_if {c A B : Prop} {α : Type} [Decidable c] {J : α → Prop} {x y : α} (j : J (if c then x else y)) (ha : J x → A) (hb : J y → B) : (c → A) ∧ (¬ c → B) :=
  ⟨fun h => ha (by rw [if_pos h] at j; exact j), fun h => hb (by rw [if_neg h] at j; exact j)⟩
theorem bq_nif {c A B : Prop} {α : Type} [Decidable c] {J : α → Prop} {x y : α} (j : J (if c then x else y)) (hb : J y → B) (ha : J x → A) : (¬ c → B) ∧ (c → A) :=
  ⟨fun h => hb (by rw [if_neg h] at j; exact j), fun h => ha (by rw [if_pos h] at j; exact j)⟩
/-- loops that go up, and down, with what holds at each turn -/
theorem lp {σ : Type} {R : Nat → σ → Prop} (I : Nat → σ → Prop) (a n : Nat) (han : a ≤ n) (fin : ∀ s, I n s → R n s) (step : ∀ k s, a ≤ k → k < n → I k s → (∀ s', I (k + 1) s' → R (k + 1) s') → R k s) : ∀ s, I a s → R a s := by
  have go : ∀ d k, k + d = n → a ≤ k → ∀ s, I k s → R k s := by
    intro d
    induction d with
    | zero => intro k e _ s hi; have e : k = n := by omega
              subst e; exact fin s hi
    | succ d ih => intro k e ha s hi; exact step k s ha (by omega) hi (fun s' hi' => ih (k + 1) (by omega) (by omega) s' hi')
  exact go (n - a) a (by omega) (Nat.le_refl a)
theorem lpd {σ : Type} {R : Nat → σ → Prop} (I : Nat → σ → Prop) (fin : ∀ s, I 0 s → R 0 s) (step : ∀ k s, I (k + 1) s → (∀ s', I k s' → R k s') → R (k + 1) s) : ∀ n s, I n s → R n s := by
  intro n
  induction n with
  | zero => exact fin
  | succ n ih => exact fun s hi => step n s hi ih
theorem lb_has {Q : Int32 → mg_H → Prop} {s k : Nat} {h : mg_H} (hs : s < 2 ^ 31) (hk : k < 32) (q1 : s.testBit k = true → Q 1 h) (q0 : s.testBit k = false → Q 0 h) : wp_has Q (nI s) (nI k) h :=
  sp_has (fun c => q1 ((has_I hs hk).mp c)) (fun c => q0 (Bool.eq_false_iff.mpr (fun e => c ((has_I hs hk).mpr e))))
/-- the least number of which P is so: -1 if there is none -/
def lst (P : Nat → Prop) (v : Int32) : Prop := (v = nM ∧ ∀ m, ¬ P m) ∨ ∃ m, v = nI m ∧ P m ∧ ∀ j, P j → m ≤ j
theorem lst_one {P P' : Nat → Prop} {v v' : Int32} (h : lst P v) (h' : lst P' v') (e : ∀ m, P m ↔ P' m) : v = v' := by
  rcases h with ⟨e1, n1⟩ | ⟨m, e1, p1, l1⟩ <;> rcases h' with ⟨e2, n2⟩ | ⟨m', e2, p2, l2⟩
  · rw [e1, e2]
  · exact absurd ((e m').mpr p2) (n1 m')
  · exact absurd ((e m).mp p1) (n2 m)
  · have h1 := l1 m' ((e m').mpr p2)
    have h2 := l2 m ((e m).mp p1)
    rw [e1, e2, show m = m' by omega]
theorem lst_congr {P P' : Nat → Prop} {v : Int32} (h : lst P v) (e : ∀ m, P m ↔ P' m) : lst P' v := by
  rcases h with ⟨e1, n1⟩ | ⟨m, e1, p1, l1⟩
  · exact Or.inl ⟨e1, fun m p => n1 m ((e m).mpr p)⟩
  · exact Or.inr ⟨m, e1, (e m).mp p1, fun j p => l1 j ((e j).mpr p)⟩
