/-! reference: luck -/
/-- what is still to come: places from i on, each a of it as f weighs it -/
def pnd (N : Nat) (a f : Nat → Nat) (i : Nat) : Nat := fb_sm (fun x => if x < i then 0 else a x * f x) N
theorem pnd_succ {N i : Nat} {a f : Nat → Nat} (hi : i < N) : pnd N a f i = a i * f i + pnd N a f (i + 1) := by
  have h := fb_sm_upd (fun x => if x < i then 0 else a x * f x) 0 hi
  rw [Nat.add_zero] at h
  have e : fb_sm (fun k => if k = i then 0 else if k < i then 0 else a k * f k) N = pnd N a f (i + 1) := by
    unfold pnd
    refine fb_sm_cong (fun x _ => ?_)
    by_cases h1 : x = i
    · rw [if_pos h1, if_pos (by omega)]
    · rw [if_neg h1]
      by_cases h2 : x < i
      · rw [if_pos h2, if_pos (by omega)]
      · rw [if_neg h2, if_neg (by omega)]
  rw [e] at h
  simp only [Nat.lt_irrefl, if_false] at h
  unfold pnd at h ⊢
  omega
theorem pnd_upd {N i y w : Nat} {a f : Nat → Nat} (hy : y < N) (hiy : i ≤ y) : pnd N (fun k => if k = y then a y + w else a k) f i = pnd N a f i + w * f y := by
  have h := fb_sm_upd (fun x => if x < i then 0 else a x * f x) ((a y + w) * f y) hy
  have e : fb_sm (fun k => if k = y then (a y + w) * f y else if k < i then 0 else a k * f k) N = pnd N (fun k => if k = y then a y + w else a k) f i := by
    unfold pnd
    refine fb_sm_cong (fun x _ => ?_)
    show (if x = y then (a y + w) * f y else if x < i then 0 else a x * f x) = (if x < i then 0 else (if x = y then a y + w else a x) * f x)
    by_cases h1 : x = y
    · rw [if_pos h1, if_neg (by omega), if_pos h1, h1]
    · rw [if_neg h1]
      by_cases h2 : x < i
      · rw [if_pos h2, if_pos h2]
      · rw [if_neg h2, if_neg h2, if_neg h1]
  rw [e] at h
  simp only [if_neg (show ¬ y < i by omega)] at h
  rw [Nat.add_mul] at h
  unfold pnd at h ⊢
  omega
/-- what the set s adds behind place i, by f -/
def gad (z : Nat → Nat) (n T i : Nat) (f : Nat → Nat) (s : Nat) : Nat := if 0 < dl z (i % 4096) s ∧ i / 4096 + dl z (i % 4096) s ≤ T then 2 ^ (n * (dl z (i % 4096) s - 1)) * f (4096 * (i / 4096 + dl z (i % 4096) s) + nc z (i % 4096) s) else 0
def fLK (z : Nat → Nat) (n T x : Nat) : Nat := LK z (2 ^ n - 1) n (T - x / 4096) (x % 4096)
def fPW (n T x : Nat) : Nat := 2 ^ (n * (T - x / 4096))
theorem gad_LK {z : Nat → Nat} {n T i : Nat} (hz : zok z) (hi : i < 4096 * T) : fb_sm (gad z n T i (fLK z n T)) (2 ^ n - 1 + 1) = fLK z n T i := by
  unfold fLK
  rw [LK_s (t := T - i / 4096) (by omega)]
  refine fb_sm_cong (fun s _ => ?_)
  have hnc := nc_lt (c := i % 4096) (s := s) hz
  unfold gad
  by_cases hd : 0 < dl z (i % 4096) s ∧ i / 4096 + dl z (i % 4096) s ≤ T
  · rw [if_pos hd, if_pos ⟨hd.1, by omega⟩, Nat.mul_comm]
    dsimp only
    rw [show (4096 * (i / 4096 + dl z (i % 4096) s) + nc z (i % 4096) s) / 4096 = i / 4096 + dl z (i % 4096) s by omega, show (4096 * (i / 4096 + dl z (i % 4096) s) + nc z (i % 4096) s) % 4096 = nc z (i % 4096) s by omega, show T - (i / 4096 + dl z (i % 4096) s) = T - i / 4096 - dl z (i % 4096) s by omega]
  · rw [if_neg hd, if_neg (fun q => hd ⟨q.1, by omega⟩)]
theorem gad_PW {z : Nat → Nat} {n T i : Nat} (hz : zok z) (hi : i < 4096 * T) : fb_sm (gad z n T i (fPW n T)) (2 ^ n - 1 + 1) ≤ fPW n T i := by
  have hp := Nat.two_pow_pos n
  have hb := fb_sm_bound (f := gad z n T i (fPW n T)) (c := 2 ^ (n * (T - i / 4096 - 1))) (n := 2 ^ n - 1 + 1) (fun s _ => by
    have hnc := nc_lt (c := i % 4096) (s := s) hz
    unfold gad fPW
    by_cases hd : 0 < dl z (i % 4096) s ∧ i / 4096 + dl z (i % 4096) s ≤ T
    · rw [if_pos hd, show (4096 * (i / 4096 + dl z (i % 4096) s) + nc z (i % 4096) s) / 4096 = i / 4096 + dl z (i % 4096) s by omega, ← Nat.pow_add, ← Nat.mul_add]
      refine Nat.pow_le_pow_right (by decide) (Nat.mul_le_mul_left n (by omega))
    · rw [if_neg hd]; exact Nat.zero_le _)
  refine Nat.le_trans hb ?_
  unfold fPW
  rw [show 2 ^ n - 1 + 1 = 2 ^ n by omega, ← Nat.pow_add]
  refine Nat.pow_le_pow_right (by decide) ?_
  have e9 : n * (T - i / 4096) = n * (T - i / 4096 - 1) + n := by rw [← Nat.mul_succ, show Nat.succ (T - i / 4096 - 1) = T - i / 4096 by omega]
  omega
theorem pnd_z {N i : Nat} {a f : Nat → Nat} (h : ∀ x, x < N → i ≤ x → a x = 0) : pnd N a f i = 0 := by
  have : fb_sm (fun x => if x < i then 0 else a x * f x) N = fb_sm (fun _ => 0) N := fb_sm_cong (fun x hx => by
    by_cases h2 : x < i
    · rw [if_pos h2]
    · rw [if_neg h2, h x hx (by omega), Nat.zero_mul])
  unfold pnd
  rw [this, fb_sm_const, Nat.mul_zero]
theorem lsh1 {k : Nat} (hk : k < 64) : (1 : Int64) <<< (lN k &&& 63) = lN (2 ^ k) := by
  have := sl_L (a := 1) hk
  rw [Nat.one_mul] at this
  exact this
theorem sp_luck {Q : Int64 → mg_H → Prop} {h : mg_H} {k n T : Nat} {x3 : Int32} {z t pr : Nat → Nat} (ok : mp_shs h) (hv : 0 ≤ nI k ∧ nI k ≤ mg_i h 5 0 - 1) (hk : k < 2) (S : SR (mg_i h) k n z t pr) (hT1 : 1 ≤ T) (hT : T ≤ 10) (q : ∀ h', mp_same h h' → Q (lN ((if x3 = 0 then LK z (2 ^ n - 1) n T (c4 t) else 2 ^ (n * T)) / Nat.gcd (2 ^ (n * T)) (LK z (2 ^ n - 1) n T (c4 t)))) h') : wp_luck Q (nI k) (nI T) x3 h := by
  have SHh := S.sh
  have hz := SHh.zok
  have hc0 := SHh.ok
  have hm := SHh.m
  have hn4 := SHh.1
  have hp2 := pow_n hn4
  have hc4 := hc0.1
  have hnT := Nat.mul_le_mul hn4 hT
  have hpw : 2 ^ (n * T) ≤ 2 ^ 40 := Nat.pow_le_pow_right (by decide) hnT
  have h40 : (2 : Nat) ^ 40 < 2 ^ 62 := by decide
  unfold wp_luck
  intro R30 R69 R193 R82 R181 R175 c30 c69 c193 c82 c181 c175
  rintro _ rfl
  refine sp_inT (lo := 1) (hi := 10) hT1 hT (by decide) (bq_f (by decide) (sp_hand0 ok hv hk S (fun h2 es2 H2 f23 f24 _ S2 => bq_nt (by decide) ?_)))
  have eN : 4096 * (nI T + 1) = nI (4096 * (T + 1)) := by rw [nI_1, nl_4096, pk_mul]
  have eT : 4096 * nI T = nI (4096 * T) := by rw [nl_4096, pk_mul]
  have l49 : mg_len 49 = 45056 := rfl
  -- all places empty
  refine lp (σ := mg_H) (R := fun k s => R30 (nI k) s) (fun k s => md [] [39] h2 s ∧ ∀ x, x < k → mg_l s 49 x = lN 0) 0 (4096 * (T + 1)) (Nat.zero_le _) ?_ ?_ h2 ⟨md.rf, fun x hx => absurd hx (Nat.not_lt_zero x)⟩
  · rintro s ⟨e, hs⟩
    refine c30 _ _ (bq_t (by rw [eN]; exact nI_le (Nat.le_refl _) (by omega)) ?_)
    rw [(e.2 26 (by decide)).trans H2.2.2, nI_clamp (by omega)]
    refine ⟨vp_in_nI (show c4 t < 45056 by omega) (by decide), ?_⟩
    rintro _ rfl
    obtain ⟨a0, ha0⟩ : ∃ a0 : Nat → Nat, a0 = fun k => if k = c4 t then 0 + 1 else 0 := ⟨_, rfl⟩
    have p0 : ∀ f : Nat → Nat, pnd (4096 * (T + 1)) a0 f 0 = f (c4 t) := fun f => by
      rw [ha0]
      have := pnd_upd (N := 4096 * (T + 1)) (i := 0) (y := c4 t) (w := 1) (a := fun _ => 0) (f := f) (by omega) (Nat.zero_le _)
      rw [pnd_z (fun _ _ _ => rfl)] at this
      rw [this]; omega
    refine lp (σ := mg_H × (Nat → Nat)) (R := fun i s => R69 (nI i) s.1) (fun i s => md [] [39] h2 s.1 ∧ (∀ x, x < 4096 * (T + 1) → mg_l s.1 49 x = lN (s.2 x) ∧ (0 < s.2 x → okc z (x % 4096))) ∧ pnd (4096 * (T + 1)) s.2 (fLK z n T) i = LK z (2 ^ n - 1) n T (c4 t) ∧ pnd (4096 * (T + 1)) s.2 (fPW n T) i ≤ 2 ^ (n * T)) 0 (4096 * T) (Nat.zero_le _) ?_ ?_ (mg_ul s 49 (c4 t) 1, a0) ⟨e.ul, fun x hx => ⟨?_, ?_⟩, ?_, ?_⟩
    · rintro ⟨g, a⟩ ⟨e, ha, p1, p2⟩
      dsimp only at e ha p1 p2 ⊢
      refine c69 _ _ (bq_t (by rw [eT]; exact nI_le (Nat.le_refl _) (by omega)) ?_)
      have sm : fb_sm (fun c => a (4096 * T + c)) 4096 = LK z (2 ^ n - 1) n T (c4 t) := by
        rw [← p1]
        unfold pnd
        rw [show 4096 * (T + 1) = 4096 * T + 4096 by omega, fb_sm_split, show fb_sm (fun x => if x < 4096 * T then 0 else a x * fLK z n T x) (4096 * T) = fb_sm (fun _ => 0) (4096 * T) from fb_sm_cong (fun x hx => if_pos hx), fb_sm_const, Nat.mul_zero, Nat.zero_add]
        refine fb_sm_cong (fun c hc => ?_)
        rw [if_neg (by omega)]
        unfold fLK
        rw [show (4096 * T + c) / 4096 = T by omega, Nat.sub_self, LK_0, Nat.mul_one]
      have hLK := LK_lt (z := z) (n := n) (t := T) (c := c4 t) hn4 hT
      refine mp_up (P := fun k => R193 (lN (fb_sm (fun c => a (4096 * T + c)) k)) (nI k) g) (n := 4096) ?_ (fun k hk ih => ?_)
      · refine c193 _ _ _ (bq_t (by decide) ?_)
        rw [(e.2 24 (by decide)).trans f24, pk_mul, nI_l (by omega), lsh1 (by omega), sm]
        refine sp_partL (by omega) (by omega) (Nat.two_pow_pos _) (q g (es2.tr (e.same (by decide))))
      · refine c193 _ _ _ (bq_f (nI_ge hk (by decide)) ?_)
        rw [eT, nI_add, nI_clamp (by omega), (ha (4096 * T + k) (by omega)).1]
        refine ⟨vp_in_nI (by omega) (by omega), ?_⟩
        rintro _ rfl _ rfl
        rw [lN_add, nI_1]
        exact ih
    · rintro i ⟨g, a⟩ _ hi ⟨e, ha, p1, p2⟩ ih
      dsimp only at e ha p1 p2 ih ⊢
      have hi2 : i < 4096 * (T + 1) := by omega
      have s1 := pnd_succ (f := fLK z n T) (a := a) hi2
      have s2 := pnd_succ (f := fPW n T) (a := a) hi2
      have hf1 : 1 ≤ fPW n T i := Nat.one_le_two_pow
      have hai : a i ≤ 2 ^ 40 := by
        have := Nat.mul_le_mul_left (a i) hf1
        omega
      have nxt : ∀ g' a', md [] [39] h2 g' → (∀ x, x < 4096 * (T + 1) → mg_l g' 49 x = lN (a' x) ∧ (0 < a' x → okc z (x % 4096))) → pnd (4096 * (T + 1)) a' (fLK z n T) (i + 1) = pnd (4096 * (T + 1)) a (fLK z n T) i → pnd (4096 * (T + 1)) a' (fPW n T) (i + 1) ≤ pnd (4096 * (T + 1)) a (fPW n T) i → R181 (nI i) g' := by
        intro g' a' e1 ha1 q1 q2
        refine c181 _ _ ?_
        rintro _ rfl
        rw [nI_1]
        exact ih (g', a') ⟨e1, ha1, by dsimp only; rw [q1]; exact p1, Nat.le_trans q2 p2⟩
      refine c69 _ _ (bq_f (by rw [eT]; exact nI_ge hi (by omega)) ?_)
      have k25 : ∀ g', md [] [39] h2 g' → mg_i g' 0 25 = nI (2 ^ n - 1) := fun g' e' => (e'.2 25 (by decide)).trans H2.2.1
      rcases Nat.eq_zero_or_pos (a i) with h0 | h0
      · refine c82 _ _ _ (bq_f (by rw [k25 g e]; exact nI_nlt (b := 0) (Nat.zero_le _) (by omega)) ?_)
        rw [nI_clamp (by omega), (ha i hi2).1, h0]
        refine ⟨vp_in_nI (by omega) (by omega), bq_t (by decide) (nxt g a e ha ?_ ?_)⟩
        · rw [s1, h0]; omega
        · rw [s2, h0]; omega
      · have hok := (ha i hi2).2 h0
        refine lp (σ := mg_H × (Nat → Nat)) (R := fun s u => R82 (nI i) (nI s) u.1) (fun s u => md [] [39] h2 u.1 ∧ (∀ x, x < 4096 * (T + 1) → mg_l u.1 49 x = lN (u.2 x) ∧ (0 < u.2 x → okc z (x % 4096))) ∧ u.2 i = a i ∧ ∀ f : Nat → Nat, pnd (4096 * (T + 1)) u.2 f (i + 1) = pnd (4096 * (T + 1)) a f (i + 1) + a i * fb_sm (gad z n T i f) s) 0 (2 ^ n - 1 + 1) (Nat.zero_le _) ?_ ?_ (g, a) ⟨e, ha, rfl, fun f => by show pnd (4096 * (T + 1)) a f (i + 1) = _; rw [show fb_sm (gad z n T i f) 0 = 0 from rfl, Nat.mul_zero]; exact (Nat.add_zero _).symm⟩
        · rintro ⟨g', a'⟩ ⟨e1, ha1, _, q1⟩
          dsimp only at e1 ha1 q1 ⊢
          refine c82 _ _ _ (bq_t (by rw [k25 g' e1]; exact nI_lt (by omega) (by omega)) (nxt g' a' e1 ha1 ?_ ?_))
          · rw [q1, gad_LK hz hi, s1]; omega
          · have := Nat.mul_le_mul_left (a i) (gad_PW (z := z) (n := n) hz hi)
            rw [q1, s2]; omega
        · rintro s ⟨g', a'⟩ _ hs ⟨e1, ha1, hai1, q1⟩ ih2
          dsimp only at e1 ha1 q1 hai1 ih2 ⊢
          have hd7 := dl_le (z := z) (c := i % 4096) (s := s) hz
          have hnc := nc_lt (z := z) (c := i % 4096) (s := s) hz
          have no : ∀ g2, md [] [39] h2 g2 → (∀ x, mg_l g2 49 x = mg_l g' 49 x) → ¬ (0 < dl z (i % 4096) s ∧ i / 4096 + dl z (i % 4096) s ≤ T) → R175 (nI i) (nI s) g2 := by
            intro g2 e2 hl2 hno
            refine c175 _ _ _ ?_
            rintro _ rfl
            rw [nI_1]
            refine ih2 (g2, a') ⟨e2, fun x hx => by dsimp only; rw [hl2 x]; exact ha1 x hx, hai1, fun f => ?_⟩
            dsimp only
            rw [q1 f, fb_sm_succ, show gad z n T i f s = 0 by unfold gad; rw [if_neg hno], Nat.add_zero (fb_sm (gad z n T i f) s)]
          refine c82 _ _ _ (bq_f (by rw [k25 g' e1]; exact nI_nlt (by omega) (by omega)) ?_)
          rw [nI_clamp (n := i) (by omega), (ha1 i hi2).1, hai1, nl_4096, pk_rem (by omega) (by decide) (by decide), pk_div (by omega) (by decide) (by decide)]
          refine ⟨vp_in_nI (by omega) (by omega), bq_f (fun c => ?_) ?_⟩
          · have := (pk_lLE (a := a i) (b := 0) (by omega) (by decide)).mp ((lg_cmp_le _ _).mp c)
            omega
          refine sp_next hz (fun l hl => (e1.1 27 (by decide) (by decide) l).trans (H2.1 l hl)) hok (by omega) (fun d0 => ?_) (fun d0 => ?_)
          · rintro _ rfl
            exact bq_t (by decide) (no g' e1 (fun _ => rfl) (by omega))
          · rw [nI_add]
            rintro _ rfl
            have e2 : md [] [39] h2 (mg_ui g' 0 39 (nI (nc z (i % 4096) s))) := e1.u0 (by decide)
            refine bq_f (nI_ge (a := 0) d0 (by omega)) ?_
            by_cases hT2 : i / 4096 + dl z (i % 4096) s ≤ T
            · refine bq_f (nI_nlt hT2 (by omega)) ?_
              have hy : 4096 * (i / 4096 + dl z (i % 4096) s) + nc z (i % 4096) s < 4096 * (T + 1) := by omega
              obtain ⟨y, ey⟩ : ∃ y, y = 4096 * (i / 4096 + dl z (i % 4096) s) + nc z (i % 4096) s := ⟨_, rfl⟩
              rw [mi_same, pk_mul, nI_add, ← ey]
              rw [← ey] at hy
              have hiy : i + 1 ≤ y := by omega
              rw [nI_clamp (n := y) (by omega), ml_ui, ml_ui, (ha1 y hy).1, (ha1 i hi2).1, hai1, (e2.2 24 (by decide)).trans f24, shift_I hn4 d0 hd7]
              have hsh := Nat.mul_le_mul hn4 (show dl z (i % 4096) s - 1 ≤ 6 by omega)
              rw [sl_L (by omega), lN_add]
              refine ⟨vp_in_nI (by omega) (by omega), vp_in_nI (by omega) (by omega), vp_in_nI (by omega) (by omega), ?_⟩
              intro g3 eg3
              refine c175 _ _ _ ?_
              rintro _ rfl
              rw [nI_1]
              refine ih2 (g3, fun k => if k = y then a' y + a i * 2 ^ (n * (dl z (i % 4096) s - 1)) else a' k) ⟨by rw [eg3]; exact e2.ul, fun x hx => ?_, ?_, fun f => ?_⟩
              · dsimp only
                rw [eg3, ml_ul, ml_ui]
                by_cases hxy : x = y
                · rw [if_pos ⟨rfl, hxy⟩, if_pos hxy]
                  refine ⟨rfl, fun _ => ?_⟩
                  rw [hxy, ey, show (4096 * (i / 4096 + dl z (i % 4096) s) + nc z (i % 4096) s) % 4096 = nc z (i % 4096) s by omega]
                  exact nc_ok hz hok
                · rw [if_neg (fun q => hxy q.2), if_neg hxy]
                  exact ha1 x hx
              · dsimp only
                rw [if_neg (by omega)]; exact hai1
              · dsimp only
                rw [pnd_upd hy hiy, q1 f, fb_sm_succ, show gad z n T i f s = 2 ^ (n * (dl z (i % 4096) s - 1)) * f y by unfold gad; rw [if_pos ⟨d0, hT2⟩, ← ey], Nat.mul_add (a i), ← Nat.mul_assoc (a i)]
                omega
            · exact bq_t (nI_lt (by omega) (by omega)) (no _ e2 (fun _ => rfl) (by omega))
    · dsimp only
      rw [ml_ul, ha0]
      by_cases hx9 : x = c4 t
      · rw [if_pos ⟨rfl, hx9⟩]; simp only [if_pos hx9]; rfl
      · rw [if_neg (fun q => hx9 q.2), hs x hx]; simp only [if_neg hx9]
    · dsimp only
      rw [ha0]
      intro hpos
      by_cases hx9 : x = c4 t
      · rw [hx9, Nat.mod_eq_of_lt hc4]; exact hc0
      · simp only [if_neg hx9] at hpos
        exact absurd hpos (Nat.lt_irrefl 0)
    · dsimp only
      rw [p0]
      unfold fLK
      rw [Nat.div_eq_of_lt hc4, Nat.mod_eq_of_lt hc4, Nat.sub_zero]
    · dsimp only
      rw [p0]
      unfold fPW
      rw [Nat.div_eq_of_lt hc4, Nat.sub_zero]
      exact Nat.le_refl _
  · rintro x s _ hx ⟨e, hs⟩ ih
    refine c30 _ _ (bq_f (by rw [eN]; exact nI_ge hx (by omega)) ?_)
    rw [nI_clamp (by omega)]
    refine ⟨vp_in_nI (by omega) (by omega), ?_⟩
    rintro _ rfl _ rfl
    rw [nI_1]
    refine ih _ ⟨e.ul, fun y hy => ?_⟩
    rw [ml_ul]
    by_cases h9 : y = x
    · rw [if_pos ⟨rfl, h9⟩]; rfl
    · rw [if_neg (fun q => h9 q.2)]; exact hs y (by omega)
