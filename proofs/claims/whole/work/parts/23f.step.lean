/-! one more row for a new object: the step of every constructor -/
/-- the rows that the object o holds so far: slot, name, kind, length; all empty -/
def FL (Y : xg_Y) (h : xg_H) (nm : Nat → Nat) (o : Nat) (fs : List (Nat × Nat × Nat × Nat)) : Prop := ∀ f, f ∈ fs → xg_o h (nm o) f.1 = some (nm f.2.1) ∧ xk Y nm f.2.1 f.2.2.1 f.2.2.2 ∧ ∀ i, xg_i h (nm f.2.1) i = 0 ∧ xg_l h (nm f.2.1) i = 0 ∧ xg_o h (nm f.2.1) i = none
def NW (P : Nat → Prop) (nm0 : Nat → Nat) (Y0 : xg_Y) (h0 : xg_H) (nm : Nat → Nat) (Y : xg_Y) (h : xg_H) (o ko : Nat) (fs : List (Nat × Nat × Nat × Nat)) : Prop := inj nm ∧ gro P nm0 Y0 h0 nm Y h ∧ nm o = nm0 o ∧ xg_is Y (nm o) ko ∧ (∀ i, xg_i h (nm o) i = xg_i h0 (nm0 o) i ∧ xg_l h (nm o) i = xg_l h0 (nm0 o) i) ∧ FL Y h nm o fs
theorem NW_0 {P : Nat → Prop} {nm : Nat → Nat} {Y : xg_Y} {h : xg_H} {o ko : Nat} (hn : inj nm) (l : liv P nm Y) (k : xg_is Y (nm o) ko) : NW P nm Y h nm Y h o ko [] := ⟨hn, gro.rf l, rfl, k, fun _ => ⟨rfl, rfl⟩, fun f hf => absurd hf (by simp)⟩
theorem NW_step {P : Nat → Prop} {nm0 nm : Nat → Nat} {Y0 Y : xg_Y} {h0 h : xg_H} {o ko j c k n q : Nat} {ca : ClassId} {fs : List (Nat × Nat × Nat × Nat)} (W : NW P nm0 Y0 h0 nm Y h o ko fs) (po : ¬ P o) (pc : ¬ P c) (co : c ≠ o) (cf : ∀ f, f ∈ fs → f.2.1 ≠ c ∧ f.1 ≠ j ∧ f.2.1 ≠ o) (hq : q ∉ Y.1) : NW P nm0 Y0 h0 (nm1 nm c q) (xg_nY Y q k n ca) (xg_uo (xg_nh h q) (nm o) j (some q)) o ko ((j, c, k, n) :: fs) := by
  obtain ⟨hn, g, eo, ko', io, F⟩ := W
  have l : liv (fun d => P d ∨ d = o ∨ ∃ f, f ∈ fs ∧ d = f.2.1) nm Y := by
    rintro d (hd | hd | ⟨f, hf, hd⟩)
    · exact gro_liv g d hd
    · rw [hd]; exact ko'.1
    · rw [hd]; exact (F f hf).2.1.1.1
  have ncc : ¬ (P c ∨ c = o ∨ ∃ f, f ∈ fs ∧ c = f.2.1) := by
    rintro (hd | hd | ⟨f, hf, hd⟩)
    · exact pc hd
    · exact co hd
    · exact (cf f hf).1 hd.symm
  have g' : gro (fun d => P d ∨ d = o ∨ ∃ f, f ∈ fs ∧ d = f.2.1) nm Y h (nm1 nm c q) (xg_nY Y q k n ca) (xg_nh h q) := gro_new l ncc hq
  have i' := nm1_inj hn c q
  have ec : nm1 nm c q c = q := nm1_at
  have no : nm1 nm c q o = nm o := (g' o (Or.inr (Or.inl rfl))).1
  have nq : xg_is (xg_nY Y q k n ca) q k := is_new
  have nn : xg_n (xg_nY Y q k n ca) q = n := n_new
  have zq : ∀ i, xg_i (xg_nh h q) q i = 0 ∧ xg_l (xg_nh h q) q i = 0 ∧ xg_o (xg_nh h q) q i = none := fun i => ih_new
  revert g' i' ec no nq nn zq
  generalize nm1 nm c q = n2
  generalize xg_nY Y q k n ca = Y2
  generalize xg_nh h q = h2
  intro g' i' ec no nq nn zq
  have O : ∀ d i, ¬ (d = o ∧ i = j) → xg_o (xg_uo h2 (nm o) j (some q)) (n2 d) i = xg_o h2 (n2 d) i := fun d i hd => by rw [xo_uo, if_neg (fun e => hd ⟨i' _ _ (e.1.trans no.symm), e.2⟩)]
  refine ⟨i', ?_, no.trans eo, ?_, fun i => ?_, ?_⟩
  · rw [← no]
    exact gro_uo i' (g.tr (g'.sub (fun d hd => Or.inl hd))) po
  · exact gro_is g' (Or.inr (Or.inl rfl)) ko'
  · have := (g' o (Or.inr (Or.inl rfl))).2.2.2.2 i
    rw [no]
    exact ⟨this.1.trans (io i).1, this.2.1.trans (io i).2⟩
  · intro f hf
    rcases List.mem_cons.mp hf with e | hf
    · rw [e]
      refine ⟨?_, ⟨?_, ?_⟩, fun i => ?_⟩
      · show xg_o (xg_uo h2 (nm o) j (some q)) (n2 o) j = some (n2 c)
        rw [no, ec, xo_uo, if_pos ⟨rfl, rfl⟩]
      · show xg_is Y2 (n2 c) k
        rw [ec]; exact nq
      · show xg_n Y2 (n2 c) = n
        rw [ec]; exact nn
      · show xg_i (xg_uo h2 (nm o) j (some q)) (n2 c) i = 0 ∧ xg_l (xg_uo h2 (nm o) j (some q)) (n2 c) i = 0 ∧ xg_o (xg_uo h2 (nm o) j (some q)) (n2 c) i = none
        rw [O c i (fun e => co e.1), xi_uo, ec]
        exact zq i
    · obtain ⟨f1, f2, f3⟩ := F f hf
      obtain ⟨c1, c2, c3⟩ := cf f hf
      have hp : P f.2.1 ∨ f.2.1 = o ∨ ∃ f', f' ∈ fs ∧ f.2.1 = f'.2.1 := Or.inr (Or.inr ⟨f, hf, rfl⟩)
      refine ⟨?_, gro_xk g' hp f2, fun i => ?_⟩
      · rw [O o f.1 (fun e => c2 e.2)]
        exact gro_o g' (Or.inr (Or.inl rfl)) hp f1
      · rw [O f.2.1 i (fun e => c3 e.1), xi_uo, (g' _ hp).1]
        have := (g' _ hp).2.2.2.2 i
        exact ⟨this.1.trans (f3 i).1, this.2.1.trans (f3 i).2.1, this.2.2.trans (f3 i).2.2⟩
