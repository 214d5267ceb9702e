/-! reference: all run out at once -/
def AOi (z : Nat → Nat) (n c s : Nat) : Prop := 0 < dl z c s ∧ 0 < n ∧ ∀ g, g < n → tn z c s g = dl z c s
def AOk (z : Nat → Nat) (m c0 n i T : Nat) : Prop := T ≤ 30 ∧ ∃ i' s, i' < i ∧ rc z m c0 (i' / 4096) (i' % 4096) ∧ s ≤ m ∧ AOi z n (i' % 4096) s ∧ T = i' / 4096 + dl z (i' % 4096) s
theorem sp_atOnce {Q : Int32 → mg_H → Prop} {h : mg_H} {n : Nat} {z t : Nat → Nat} (SHh : SH n z t) (H : HS h z (2 ^ n - 1) (c4 t)) (h24 : mg_i h 0 24 = nI n) (q : ∀ v h', md [40] [39] h h' → isB v (AO z (2 ^ n - 1) (c4 t) n) → Q v h') : wp_atOnce Q h := by
  have hz := SHh.zok
  have hc0 := SHh.ok
  have hm := SHh.m
  have hn4 := SHh.1
  have hB : ∀ s, s ≤ 2 ^ n - 1 → on4 s ≤ 40 := fun s _ => Nat.le_trans (on4_le s) (by decide)
  unfold wp_atOnce
  intro R9 R18 R182 R64 R65 R70 R173 R174 R132 R123 R133 c9 c18 c182 c64 c65 c70 c173 c174 c132 c123 c133
  refine sp_layOut (wt := on4) H hz hm hc0 (fun h' _ s hs _ Q q => sp_cost0 hs q) hB (fun h1 e1 C1 => ?_)
  have H1 := H.mv e1 (by decide) (by decide) (by decide)
  have g24 : mg_i h1 0 24 = nI n := (e1.2 24 (by decide)).trans h24
  refine lp (σ := mg_H × Int32) (R := fun i s => R9 s.2 (nI i) s.1) (fun i s => md [] [39] h1 s.1 ∧ isB s.2 (AOk z (2 ^ n - 1) (c4 t) n i)) 0 122880 (Nat.zero_le _) ?_ ?_ (h1, nI 0) ⟨md.rf, isB_0 (fun T ⟨_, i', s, a, _⟩ => absurd a (Nat.not_lt_zero i'))⟩
  · rintro ⟨s, v⟩ ⟨e, hv⟩
    refine c9 _ _ _ (bq_t (by decide) (q _ _ (e1.tr (e.mono (fun c hc => absurd hc (by simp)) (fun c hc => hc))) (hv.congr (fun T => and_congr_right (fun hT => ⟨?_, ?_⟩)))))
    · rintro ⟨i', s', a, b, c, ⟨d1, _, d3⟩, f⟩
      exact ⟨i' / 4096, i' % 4096, s', by omega, b, c, d1, d3, f⟩
    · rintro ⟨f, c, s', a, b, d, g, l, o⟩
      have hc : c < 4096 := by
        obtain ⟨k, w, hp⟩ := b
        exact (pt_ok hz hp hc0).1
      have e2 : (4096 * f + c) / 4096 = f := by omega
      have e3 : (4096 * f + c) % 4096 = c := by omega
      have hn0 : 0 < n := by
        rcases Nat.eq_zero_or_pos n with h9 | h9
        · subst h9
          rcases dl_spec (c := c) (s := s') hz with ⟨h8, _⟩ | ⟨_, _, ⟨g', hg4, hg'⟩, _⟩
          · omega
          · have hz0 : z g' = 0 := by
              have := SHh.2.2 g' (Nat.zero_le g')
              omega
            have hok : okc z c := by
              obtain ⟨k, w, hp⟩ := b
              exact pt_ok hz hp hc0
            have := tn_lez (s := s') hok (g := g') hg4
            omega
        · exact h9
      refine ⟨4096 * f + c, s', by omega, ?_, d, ?_, ?_⟩
      · rw [e2, e3]; exact b
      · rw [e3]; exact ⟨g, hn0, l⟩
      · rw [e2, e3]; exact o
  · rintro i ⟨s, v⟩ _ hi ⟨e, hv⟩ ih
    have nxt : ∀ s2 v2, md [] [39] h1 s2 → isB v2 (AOk z (2 ^ n - 1) (c4 t) n (i + 1)) → R182 v2 (nI i) s2 := by
      intro s2 v2 e2 hv2
      refine c182 _ _ _ ?_
      rintro _ rfl
      rw [nI_1]; exact ih (s2, v2) ⟨e2, hv2⟩
    have hcr := CL_rc hB C1 (t := i / 4096) (c := i % 4096) (by omega) (by omega)
    rw [show 4096 * (i / 4096) + i % 4096 = i by omega] at hcr
    have stp : ∀ T, AOk z (2 ^ n - 1) (c4 t) n (i + 1) T ↔ (AOk z (2 ^ n - 1) (c4 t) n i T ∨ (T ≤ 30 ∧ rc z (2 ^ n - 1) (c4 t) (i / 4096) (i % 4096) ∧ ∃ s', s' ≤ 2 ^ n - 1 ∧ AOi z n (i % 4096) s' ∧ T = i / 4096 + dl z (i % 4096) s')) := by
      intro T
      constructor
      · rintro ⟨hT, i', s', a, b, c, f⟩
        rcases Nat.lt_or_ge i' i with h9 | h9
        · exact Or.inl ⟨hT, i', s', h9, b, c, f⟩
        · have e : i' = i := by omega
          subst e
          exact Or.inr ⟨hT, b, s', c, f⟩
      · rintro (⟨hT, i', s', a, b⟩ | ⟨hT, b, s', c, f⟩)
        · exact ⟨hT, i', s', by omega, b⟩
        · exact ⟨hT, i, s', by omega, b, c, f⟩
    refine c9 _ _ _ (bq_f (nI_ge hi (by decide)) ?_)
    by_cases hr : rc z (2 ^ n - 1) (c4 t) (i / 4096) (i % 4096)
    · have hok : okc z (i % 4096) := by
        obtain ⟨j, w, hp⟩ := hr
        exact pt_ok hz hp hc0
      refine lp (σ := mg_H × Int32) (R := fun j s => R18 s.2 (nI i) (nI j) s.1) (fun j s => md [] [39] h1 s.1 ∧ isB s.2 (fun T => AOk z (2 ^ n - 1) (c4 t) n i T ∨ (T ≤ 30 ∧ ∃ s', s' < j ∧ AOi z n (i % 4096) s' ∧ T = i / 4096 + dl z (i % 4096) s'))) 0 (2 ^ n - 1 + 1) (Nat.zero_le _) ?_ ?_ (s, v) ⟨e, hv.congr (fun T => ⟨Or.inl, fun hd => hd.elim id (fun ⟨_, s', a, _⟩ => absurd a (Nat.not_lt_zero s'))⟩)⟩
      · rintro ⟨s2, v2⟩ ⟨e2, hv2⟩
        refine c18 _ _ _ _ (bq_t (by rw [(e2.2 25 (by decide)).trans H1.2.1]; exact nI_lt (by omega) (by omega)) (nxt s2 v2 e2 (hv2.congr (fun T => ?_))))
        rw [stp T]
        exact or_congr_right ⟨fun ⟨hT, s', a, b⟩ => ⟨hT, hr, s', by omega, b⟩, fun ⟨hT, _, s', a, b⟩ => ⟨hT, s', by omega, b⟩⟩
      · rintro j ⟨s2, v2⟩ _ hj ⟨e2, hv2⟩ ih2
        have hd7 := dl_le (z := z) (c := i % 4096) (s := j) hz
        have fin : ∀ s3 u p, md [] [39] h1 s3 → isB u p → (∀ T, p T ↔ (T ≤ 30 ∧ AOi z n (i % 4096) j ∧ T = i / 4096 + dl z (i % 4096) j)) → R174 (nI i) (nI j) u v2 s3 := by
          intro s3 u p e3 hu hp
          refine c174 _ _ _ _ _ ?_
          rintro _ rfl _ rfl
          rw [nI_1]
          refine ih2 (s3, v2 ||| u) ⟨e3, (isB_or hv2 hu).congr (fun T => ?_)⟩
          rw [hp T]
          constructor
          · rintro ((a | ⟨hT, s', a, b⟩) | ⟨hT, a, b⟩)
            · exact Or.inl a
            · exact Or.inr ⟨hT, s', by omega, b⟩
            · exact Or.inr ⟨hT, j, by omega, a, b⟩
          · rintro (a | ⟨hT, s', a, b⟩)
            · exact Or.inl (Or.inl a)
            · rcases Nat.lt_or_ge s' j with h9 | h9
              · exact Or.inl (Or.inr ⟨hT, s', h9, b⟩)
              · have e9 : s' = j := by omega
                subst e9
                exact Or.inr ⟨hT, b⟩
        have fin0 : ∀ s3, md [] [39] h1 s3 → ¬ (AOi z n (i % 4096) j ∧ i / 4096 + dl z (i % 4096) j ≤ 30) → R173 (nI i) (nI j) v2 s3 := by
          intro s3 e3 hno
          refine c173 _ _ _ _ (fin s3 (nI 0) (fun _ => False) e3 (isB_0 (fun _ => id)) (fun T => ⟨False.elim, fun ⟨hT, a, b⟩ => hno ⟨a, by omega⟩⟩))
        -- the glasses, one by one
        have gl : ∀ s3 (fl : Nat), md [] [39] h1 s3 → (fl = 1 ∧ (0 < dl z (i % 4096) j ∧ 0 < n) ∨ fl = 0 ∧ ¬ (0 < dl z (i % 4096) j ∧ 0 < n)) → R65 v2 (nI i) (nI j) (nI (dl z (i % 4096) j)) (nI fl) s3 := by
          intro s3 fl e3 hfl
          have k24 : mg_i s3 0 24 = nI n := (e3.2 24 (by decide)).trans g24
          refine c65 _ _ _ _ _ _ ?_
          refine lp (σ := Nat) (R := fun g fl => R70 v2 (nI i) (nI j) (nI (dl z (i % 4096) j)) (nI fl) (nI g) s3) (fun g fl => fl = 1 ∧ ((0 < dl z (i % 4096) j ∧ 0 < n) ∧ ∀ g', g' < g → tn z (i % 4096) j g' = dl z (i % 4096) j) ∨ fl = 0 ∧ ¬ ((0 < dl z (i % 4096) j ∧ 0 < n) ∧ ∀ g', g' < g → tn z (i % 4096) j g' = dl z (i % 4096) j)) 0 n (Nat.zero_le n) ?_ ?_ fl ?_
          · intro fl hf
            refine c70 _ _ _ _ _ _ _ (bq_t (by rw [k24]; exact nI_le (Nat.le_refl n) (by omega)) ?_)
            rcases hf with ⟨rfl, ⟨a1, a2⟩, a3⟩ | ⟨rfl, hno⟩
            · refine bq_f (by decide) ?_
              rw [nl_4096, pk_div (by omega) (by decide) (by decide), nI_add]
              rcases Nat.lt_or_ge 30 (i / 4096 + dl z (i % 4096) j) with h9 | h9
              · exact bq_t (nI_lt h9 (by omega)) (fin0 s3 e3 (fun hx => by have := hx.2; omega))
              · refine bq_f (nI_nlt (a := 30) h9 (by decide)) ?_
                rw [bit_I (by omega)]
                exact fin s3 _ _ e3 (isB_bit (by omega)) (fun T => ⟨fun hT => ⟨by omega, ⟨a1, a2, a3⟩, hT⟩, fun hT => hT.2.2⟩)
            · exact bq_t rfl (fin0 s3 e3 (fun hx => hno ⟨⟨hx.1.1, hx.1.2.1⟩, hx.1.2.2⟩))
          · intro g fl _ hg hf ih3
            have go0 : ¬ ((0 < dl z (i % 4096) j ∧ 0 < n) ∧ ∀ g', g' < g + 1 → tn z (i % 4096) j g' = dl z (i % 4096) j) → R132 v2 (nI i) (nI j) (nI (dl z (i % 4096) j)) (nI g) s3 := by
              intro hno
              refine c132 _ _ _ _ _ _ (c133 _ _ _ _ _ _ _ ?_)
              rintro _ rfl
              rw [nI_1]; exact ih3 0 (Or.inr ⟨rfl, hno⟩)
            refine c70 _ _ _ _ _ _ _ (bq_f (by rw [k24]; exact nI_ge hg (by omega)) ?_)
            rw [nl_4096, pk_rem (by omega) (by decide) (by decide), dg_I (by omega) (by omega)]
            rintro _ rfl
            rcases hf with ⟨rfl, ⟨a1, a2⟩, a3⟩ | ⟨rfl, hno⟩
            · refine bq_f (by decide) ?_
              have hdg := hok.2 g (by omega)
              have hzg := hz g (by omega)
              have go : R123 v2 (nI i) (nI j) (nI (dl z (i % 4096) j)) (nI g) (nI (tn z (i % 4096) j g)) s3 := by
                have htn := tn_le (z := z) (c := i % 4096) (s := j) (g := g) hz (by omega)
                refine c123 _ _ _ _ _ _ _ ⟨fun hne => go0 (fun hx => hne (by rw [hx.2 g (by omega)])), fun he => c133 _ _ _ _ _ _ _ ?_⟩
                have he := (nI_eq (by omega) (by omega)).mp he
                rintro _ rfl
                rw [nI_1]
                refine ih3 1 (Or.inl ⟨rfl, ⟨a1, a2⟩, fun g' hg' => ?_⟩)
                rcases Nat.lt_or_ge g' g with h9 | h9
                · exact a3 g' h9
                · rw [show g' = g by omega]; exact he
              refine lb_has (by omega) (by omega) (fun hb => bq_f (by decide) ⟨vp_in_nI (show g < 4 by omega) (by decide), ?_⟩) (fun hb => bq_t rfl ?_)
              · rw [nI_clamp (by omega), e3.1 27 (by decide) (by decide), H1.1 g (by omega), pk_sub hdg]
                unfold tn at go
                rw [if_pos hb] at go
                exact go
              · unfold tn at go
                rw [if_neg (by rw [hb]; decide)] at go
                exact go
            · exact bq_t rfl (go0 (fun hx => hno ⟨hx.1, fun g' hg' => hx.2 g' (by omega)⟩))
          · rcases hfl with ⟨a, b⟩ | ⟨a, b⟩
            · exact Or.inl ⟨a, b, fun g' hg' => absurd hg' (Nat.not_lt_zero g')⟩
            · exact Or.inr ⟨a, fun hx => b hx.1⟩
        refine c18 _ _ _ _ (bq_f (by rw [(e2.2 25 (by decide)).trans H1.2.1]; exact nI_nlt (by omega) (by omega)) ?_)
        rw [nI_clamp (n := i) (by omega), e2.1 40 (by decide) (by decide), nl_4096, pk_rem (by omega) (by decide) (by decide)]
        refine ⟨vp_in_nI (show i < 126976 by omega) (by decide), bq_f (fun c => hcr.mp c hr) ?_⟩
        refine sp_next hz (fun l hl => (e2.1 27 (by decide) (by decide) l).trans (H1.1 l hl)) hok (by omega) (fun hd => bq_t (by decide) (c64 _ _ _ _ _ ?_)) (fun hd => bq_f (nI_ge hd (by omega)) ?_)
        · have := gl s2 0 e2 (Or.inr ⟨rfl, fun hx => by have := hx.1; omega⟩)
          rw [hd] at this
          exact this
        · have e3 : md [] [39] h1 (mg_ui s2 0 39 (nI (nc z (i % 4096) j))) := e2.u0 (by decide)
          rw [(e3.2 24 (by decide)).trans g24]
          rcases Nat.eq_zero_or_pos n with h9 | h9
          · exact bq_t (by rw [h9]; decide) (c64 _ _ _ _ _ (gl _ 0 e3 (Or.inr ⟨rfl, fun hx => by have := hx.2; omega⟩)))
          · exact bq_f (nI_ge h9 (by omega)) (gl _ 1 e3 (Or.inl ⟨rfl, hd, h9⟩))
    · refine c18 _ _ _ _ (bq_f (by rw [(e.2 25 (by decide)).trans H1.2.1]; exact nI_nlt (b := 0) (Nat.zero_le _) (by omega)) ?_)
      rw [nI_clamp (n := i) (by omega), e.1 40 (by decide) (by decide)]
      refine ⟨vp_in_nI (show i < 126976 by omega) (by decide), bq_t (hcr.mpr hr) (nxt s v e (hv.congr (fun T => ?_)))⟩
      rw [stp T]
      exact ⟨Or.inl, fun hd => hd.elim id (fun a => absurd a.2.1 hr)⟩
