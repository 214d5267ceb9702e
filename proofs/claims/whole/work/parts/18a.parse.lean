/-! texts: bytes f, L of them; rows of bytes, words, numbers, lines -/
def scn (p : Nat → Bool) (f : Nat → Nat) (L : Nat) : Nat → Nat → Nat
  | 0, i => i
  | k + 1, i => if i < L ∧ p (f i) = true then scn p f L k (i + 1) else i
/-- where the row of bytes of p that begins at i ends -/
def sce (p : Nat → Bool) (f : Nat → Nat) (L i : Nat) : Nat := scn p f L (L - i) i
theorem sce_go {p : Nat → Bool} {f : Nat → Nat} {L i : Nat} (h : i < L) (hp : p (f i) = true) : sce p f L i = sce p f L (i + 1) := by
  unfold sce
  rw [show L - i = (L - (i + 1)) + 1 by omega, scn, if_pos ⟨h, hp⟩]
theorem sce_no {p : Nat → Bool} {f : Nat → Nat} {L i : Nat} (h : ¬ (i < L ∧ p (f i) = true)) : sce p f L i = i := by
  unfold sce
  cases L - i with
  | zero => rfl
  | succ k => rw [scn, if_neg h]
theorem scn_ge {p : Nat → Bool} {f : Nat → Nat} {L : Nat} : ∀ k i, i ≤ scn p f L k i
  | 0, i => Nat.le_refl i
  | k + 1, i => by
    rw [scn]
    by_cases h : i < L ∧ p (f i) = true
    · rw [if_pos h]; have := scn_ge (p := p) (f := f) (L := L) k (i + 1); omega
    · rw [if_neg h]; exact Nat.le_refl i
theorem scn_le {p : Nat → Bool} {f : Nat → Nat} {L : Nat} : ∀ k i, i ≤ L → scn p f L k i ≤ L
  | 0, i, h => h
  | k + 1, i, h => by
    rw [scn]
    by_cases h9 : i < L ∧ p (f i) = true
    · rw [if_pos h9]; exact scn_le (p := p) (f := f) (L := L) k (i + 1) (by omega)
    · rw [if_neg h9]; exact h
theorem scn_all {p : Nat → Bool} {f : Nat → Nat} {L : Nat} : ∀ k i x, i ≤ x → x < scn p f L k i → p (f x) = true
  | 0, i, x, h1, h2 => by rw [scn] at h2; omega
  | k + 1, i, x, h1, h2 => by
    rw [scn] at h2
    by_cases h9 : i < L ∧ p (f i) = true
    · rw [if_pos h9] at h2
      by_cases e : x = i
      · rw [e]; exact h9.2
      · exact scn_all (p := p) (f := f) (L := L) k (i + 1) x (by omega) h2
    · rw [if_neg h9] at h2; omega
theorem scn_end {p : Nat → Bool} {f : Nat → Nat} {L : Nat} : ∀ k i, L ≤ k + i → scn p f L k i < L → p (f (scn p f L k i)) = false
  | 0, i, h1, h2 => by rw [scn] at h2; omega
  | k + 1, i, h1, h2 => by
    rw [scn] at h2 ⊢
    by_cases h9 : i < L ∧ p (f i) = true
    · rw [if_pos h9] at h2 ⊢
      exact scn_end (p := p) (f := f) (L := L) k (i + 1) (by omega) h2
    · rw [if_neg h9] at h2 ⊢
      exact Bool.eq_false_iff.mpr (fun c => h9 ⟨h2, c⟩)
theorem sce_ge {p : Nat → Bool} {f : Nat → Nat} {L i : Nat} : i ≤ sce p f L i := scn_ge _ _
theorem sce_le {p : Nat → Bool} {f : Nat → Nat} {L i : Nat} (h : i ≤ L) : sce p f L i ≤ L := scn_le _ _ h
theorem sce_all {p : Nat → Bool} {f : Nat → Nat} {L i x : Nat} (h1 : i ≤ x) (h2 : x < sce p f L i) : p (f x) = true := scn_all _ _ _ h1 h2
theorem sce_end {p : Nat → Bool} {f : Nat → Nat} {L i : Nat} (h : sce p f L i < L) : p (f (sce p f L i)) = false := scn_end _ _ (by omega) h
/-- a row that ends ends there -/
theorem sce_is {p : Nat → Bool} {f : Nat → Nat} {L i e : Nat} (h1 : i ≤ e) (h2 : e ≤ L) (ha : ∀ x, i ≤ x → x < e → p (f x) = true) (he : ¬ (e < L ∧ p (f e) = true)) : sce p f L i = e := by
  have go : ∀ d i, i + d = e → (∀ x, i ≤ x → x < e → p (f x) = true) → sce p f L i = e := by
    intro d
    induction d with
    | zero => intro i e1 _; rw [show i = e by omega]; exact sce_no he
    | succ d ih =>
      intro i e1 h9
      rw [sce_go (by omega) (h9 i (Nat.le_refl i) (by omega))]
      exact ih (i + 1) (by omega) (fun x h3 h4 => h9 x (by omega) h4)
  exact go (e - i) i (by omega) ha
def bl (b : Nat) : Bool := decide (b = 10 ∨ b = 32)
def rg2 (a b x : Nat) : Bool := decide (a ≤ x ∧ x ≤ b)
abbrev isL : Nat → Bool := rg2 97 122
abbrev isD : Nat → Bool := rg2 48 57
theorem sce_nb {f : Nat → Nat} {L i : Nat} : sce bl f L (sce bl f L i) = sce bl f L i := sce_no (fun c => by have := sce_end (p := bl) (f := f) (L := L) (i := i) c.1; rw [this] at c; cases c.2)
/-- the words: 0 glass, 1 price, 2 .. 6 deeds, 7 ran, 8 quiet, 9 span -/
def kwL (w : Nat) : Nat := xg_tl.getD w 0
def kwB (w i : Nat) : Nat := (([[103, 108, 97, 115, 115], [112, 114, 105, 99, 101], [119, 97, 105, 116], [116, 117, 114, 110], [108, 97, 121], [115, 116, 97, 110, 100], [108, 101, 97, 107], [114, 97, 110], [113, 117, 105, 101, 116], [115, 112, 97, 110]] : List (List Nat)).getD w []).getD i 0
def kwS (w : Nat) : Nat := ([0, 0, 1, 1, 1, 1, 1, 2, 2, 3] : List Nat).getD w 9
def kwN (w : Nat) : Nat := ([2, 2, 1, 1, 1, 1, 1, 2, 1, 1] : List Nat).getD w 0
def kwlo (w k : Nat) : Nat := ([1, 0, 0, 0, 1, 0, 0, 0, 0, 0, 0, 0, 0, 0, 0, 1, 1, 0, 1, 0] : List Nat).getD (w * 2 + k) 0
def kwhi (w k : Nat) : Nat := ([7, 7, 3, 9, 9, 0, 3, 0, 3, 0, 3, 0, 3, 0, 3, 40, 40, 0, 30, 0] : List Nat).getD (w * 2 + k) 0
theorem kwL_b : ∀ w, w < 10 → 3 ≤ kwL w ∧ kwL w ≤ 5 := by decide +kernel
theorem kwB_b : ∀ w, w < 10 → ∀ i, i < 5 → kwB w i < 256 := by decide +kernel
theorem kwB_l : ∀ w, w < 10 → ∀ i, i < kwL w → isL (kwB w i) = true := by decide +kernel
theorem kwB_I : ∀ w, w < 10 → ∀ i, i < 5 → ((((xg_tb.getD w []).getD i 0) &&& 255).toUInt32 % 65536).toInt32 = nI (kwB w i) := by decide +kernel
theorem kwS_I : ∀ w, w < 10 → xg_sv 3 w = nI (kwS w) := by decide +kernel
theorem kwS_b : ∀ w, w < 10 → kwS w < 4 := by decide +kernel
theorem kwN_I : ∀ w, w < 10 → xg_sv 4 w = nI (kwN w) := by decide +kernel
theorem kwN_b : ∀ w, w < 10 → kwN w = 1 ∨ kwN w = 2 := by decide +kernel
theorem kwlo_I : ∀ w, w < 10 → ∀ k, k < 2 → xg_sv 5 (w * 2 + k) = nI (kwlo w k) := by decide +kernel
theorem kwhi_I : ∀ w, w < 10 → ∀ k, k < 2 → xg_sv 6 (w * 2 + k) = nI (kwhi w k) := by decide +kernel
theorem kwlh_b : ∀ w, w < 10 → ∀ k, k < 2 → kwlo w k ≤ 1 ∧ kwhi w k ≤ 40 := by decide +kernel
theorem rm_I : ∀ s, s < 4 → xg_sv 0 s = nI (xt_room s) := by decide +kernel
theorem rm_b : ∀ s, s < 4 → 4 ≤ xt_room s ∧ xt_room s ≤ 40 := by decide +kernel
theorem kw_ne : ∀ w, w < 10 → ∀ v, v < 10 → w ≠ v → kwL w ≠ kwL v ∨ kwB w 0 ≠ kwB v 0 ∨ kwB w 1 ≠ kwB v 1 ∨ kwB w 2 ≠ kwB v 2 := by decide +kernel
/-- the bytes from p to e are the word w -/
def isW (f : Nat → Nat) (p e w : Nat) : Prop := e - p = kwL w ∧ ∀ i, i < kwL w → f (p + i) = kwB w i
theorem isW_one {f : Nat → Nat} {p e w v : Nat} (hw : w < 10) (hv : v < 10) (a : isW f p e w) (b : isW f p e v) : w = v := by
  by_cases h : w = v
  · exact h
  · have hl := kwL_b w hw
    have hl2 := kwL_b v hv
    rcases kw_ne w hw v hv h with h9 | h9 | h9 | h9
    · exact absurd (a.1.symm.trans b.1) h9
    · exact absurd ((a.2 0 (by omega)).symm.trans (b.2 0 (by omega))) h9
    · exact absurd ((a.2 1 (by omega)).symm.trans (b.2 1 (by omega))) h9
    · exact absurd ((a.2 2 (by omega)).symm.trans (b.2 2 (by omega))) h9
/-- the word of the sort s from p to e; 10: none -/
noncomputable def wf (f : Nat → Nat) (p e s : Nat) : Nat := fa_first (fun w => dcd (kwS w = s ∧ isW f p e w)) 10
theorem wf_le (f : Nat → Nat) (p e s : Nat) : wf f p e s ≤ 10 := fa_first_le _ _
theorem wf_is {f : Nat → Nat} {p e s w : Nat} (hw : w < 10) (hs : kwS w = s) (h : isW f p e w) : wf f p e s = w := by
  have h1 : wf f p e s ≤ w := Nat.le_of_not_lt (fun c => by
    have := fa_first_no (fun w => dcd (kwS w = s ∧ isW f p e w)) 10 w c
    exact (dcd_f.mp this) ⟨hs, h⟩)
  have h2 := dcd_iff.mp (fa_first_yes (fun w => dcd (kwS w = s ∧ isW f p e w)) 10 (show wf f p e s < 10 by omega))
  exact isW_one (show wf f p e s < 10 by omega) hw h2.2 h
theorem wf_no {f : Nat → Nat} {p e s : Nat} (h : ∀ w, w < 10 → kwS w = s → ¬ isW f p e w) : wf f p e s = 10 := by
  have h1 := wf_le f p e s
  by_cases h9 : wf f p e s < 10
  · have h2 := dcd_iff.mp (fa_first_yes (fun w => dcd (kwS w = s ∧ isW f p e w)) 10 h9)
    exact absurd h2.2 (h _ h9 h2.1)
  · omega
theorem wf_yes {f : Nat → Nat} {p e s : Nat} (h : wf f p e s < 10) : kwS (wf f p e s) = s ∧ isW f p e (wf f p e s) := dcd_iff.mp (fa_first_yes (fun w => dcd (kwS w = s ∧ isW f p e w)) 10 h)
/-- a number behind p: where it begins, ends; whether it is one; its value -/
def nb (f : Nat → Nat) (L p : Nat) : Nat := sce bl f L p
def nE (f : Nat → Nat) (L p : Nat) : Nat := sce isD f L (nb f L p)
def nok (f : Nat → Nat) (L p : Nat) : Bool := decide (nb f L p < nE f L p ∧ nE f L p ≤ nb f L p + 2)
def nv (f : Nat → Nat) (b e : Nat) : Nat := if e = b + 1 then f b - 48 else (f b - 48) * 10 + (f (b + 1) - 48)
def nV (f : Nat → Nat) (L p : Nat) : Nat := nv f (nb f L p) (nE f L p)
theorem nb_b {f : Nat → Nat} {L p : Nat} (h : p ≤ L) : p ≤ nb f L p ∧ nb f L p ≤ L := ⟨sce_ge, sce_le h⟩
theorem nE_b {f : Nat → Nat} {L p : Nat} (h : p ≤ L) : nb f L p ≤ nE f L p ∧ nE f L p ≤ L := ⟨sce_ge, sce_le (sce_le h)⟩
theorem isD_iff {x : Nat} : isD x = true ↔ 48 ≤ x ∧ x ≤ 57 := decide_eq_true_iff
theorem isL_iff {x : Nat} : isL x = true ↔ 97 ≤ x ∧ x ≤ 122 := decide_eq_true_iff
theorem bl_iff {x : Nat} : bl x = true ↔ x = 10 ∨ x = 32 := decide_eq_true_iff
theorem nok_iff {f : Nat → Nat} {L p : Nat} : nok f L p = true ↔ nb f L p < nE f L p ∧ nE f L p ≤ nb f L p + 2 := decide_eq_true_iff
theorem nV_b {f : Nat → Nat} {L p : Nat} (h : nok f L p = true) : nV f L p ≤ 99 := by
  obtain ⟨h1, h2⟩ := nok_iff.mp h
  have a := isD_iff.mp (sce_all (p := isD) (f := f) (L := L) (i := nb f L p) (Nat.le_refl _) h1)
  unfold nV nv
  by_cases e : nE f L p = nb f L p + 1
  · rw [if_pos e]; omega
  · rw [if_neg e]
    have b := isD_iff.mp (sce_all (p := isD) (f := f) (L := L) (i := nb f L p) (x := nb f L p + 1) (by omega) (show nb f L p + 1 < nE f L p by omega))
    omega
/-- what is wrong so far: which (0 nothing) and where; the first stays -/
abbrev fS : Type := Nat × Nat
def nte (c p : Nat) (u : fS) : fS := if u.1 = 0 then (c, p) else u
theorem nte_0 {c p : Nat} {u : fS} (hc : c ≠ 0) : (nte c p u).1 ≠ 0 := by
  unfold nte
  by_cases h : u.1 = 0
  · rw [if_pos h]; exact hc
  · rw [if_neg h]; exact h
def bad (w k v : Nat) : Bool := decide (v < kwlo w k ∨ kwhi w k < v)
theorem bad_iff {w k v : Nat} : bad w k v = true ↔ v < kwlo w k ∨ kwhi w k < v := decide_eq_true_iff
def lU1 (s w p n : Nat) (u : fS) : fS := if w ≠ 1 ∧ xt_room s < n + 1 then nte 3 p u else u
def lU2 (w a v : Nat) (u : fS) : fS := if bad w 0 v = true then nte 2 a u else u
def lU3 (w a v0 v : Nat) (u : fS) : fS := if bad w 1 v = true ∨ (w = 0 ∧ v0 < v) then nte 2 a u else u
/-- a line that begins at p: its word, where its parts end -/
def lP0 (f : Nat → Nat) (L p : Nat) : Nat := sce isL f L p
noncomputable def lW (f : Nat → Nat) (L s p : Nat) : Nat := wf f p (lP0 f L p) s
def lP1 (f : Nat → Nat) (L p : Nat) : Nat := nE f L (lP0 f L p)
def lP2 (f : Nat → Nat) (L w p : Nat) : Nat := if kwN w = 2 then nE f L (lP1 f L p) else lP1 f L p
def lP3 (f : Nat → Nat) (L w p : Nat) : Nat := sce bl f L (lP2 f L w p)
/-- where it breaks off -/
noncomputable def lBr (f : Nat → Nat) (L s p : Nat) : Option Nat :=
  if lW f L s p = 10 then some p
  else if nok f L (lP0 f L p) = false then some (nb f L (lP0 f L p))
  else if kwN (lW f L s p) = 2 ∧ nok f L (lP1 f L p) = false then some (nb f L (lP1 f L p))
  else if lP3 f L (lW f L s p) p < L ∧ f (lP3 f L (lW f L s p) p) = 59 then none
  else some (lP3 f L (lW f L s p) p)
def lV0 (f : Nat → Nat) (L p : Nat) : Nat := nV f L (lP0 f L p)
def lV1 (f : Nat → Nat) (L p : Nat) : Nat := nV f L (lP1 f L p)
def lUw (f : Nat → Nat) (L s w p n : Nat) (u : fS) : fS := if kwN w = 2 then lU3 w (nb f L (lP1 f L p)) (lV0 f L p) (lV1 f L p) (lU2 w (nb f L (lP0 f L p)) (lV0 f L p) (lU1 s w p n u)) else lU2 w (nb f L (lP0 f L p)) (lV0 f L p) (lU1 s w p n u)
def lnN (w n : Nat) : Nat := if w = 1 then n else n + 1
/-- what a text tells: first, second numbers of its lines, prices, which glasses have one told -/
abbrev dS : Type := (Nat → Int32) × (Nat → Int32) × (Nat → Nat) × Nat
def tk1 (s w v0 v1 : Nat) : Int32 := if s = 1 then nI (w - 2) else if s = 2 then (if w = 7 then nI v1 else nI v0) else nI v0
def tk2 (s w v0 v1 : Nat) : Int32 := if s = 1 then nI v0 else if s = 2 then (if w = 7 then nI v0 else nM) else if w = 0 then nI v1 else nI 0
def tkD (s w n v0 v1 : Nat) (D : dS) : dS := if w = 1 then (D.1, D.2.1, fun g => if g = v0 % 4 then v1 else D.2.2.1 g, D.2.2.2 ||| 2 ^ (v0 % 4)) else (fun q => if q = n then tk1 s w v0 v1 else D.1 q, fun q => if q = n then tk2 s w v0 v1 else D.2.1 q, D.2.2)
/-- a text as far as it is read: place, lines, fault, what it tells -/
abbrev pS : Type := Nat × Nat × fS × dS
def lS1 (f : Nat → Nat) (L w p : Nat) : Nat := sce bl f L (lP3 f L w p + 1)
noncomputable def lSt (f : Nat → Nat) (L s : Nat) (x : pS) : pS := (lS1 f L (lW f L s x.1) x.1, lnN (lW f L s x.1) x.2.1, lUw f L s (lW f L s x.1) x.1 x.2.1 x.2.2.1, if (lUw f L s (lW f L s x.1) x.1 x.2.1 x.2.2.1).1 = 0 then tkD s (lW f L s x.1) x.2.1 (lV0 f L x.1) (lV1 f L x.1) x.2.2.2 else x.2.2.2)
/-- all lines: whether none breaks off (else where), and what stands at the end -/
noncomputable def prs (f : Nat → Nat) (L s : Nat) : Nat → pS → Option Nat × pS
  | 0, x => (none, x)
  | k + 1, x => if L ≤ x.1 then (none, x) else match lBr f L s x.1 with
    | some b => (some b, x)
    | none => prs f L s k (lSt f L s x)
def p00 (f : Nat → Nat) (L : Nat) : pS := (sce bl f L 0, 0, (0, 0), (fun _ => nI 0, fun _ => nI 0, fun _ => 1, 0))
/-- the whole text of the sort s -/
noncomputable def PRS (f : Nat → Nat) (L s : Nat) : Option Nat × pS := prs f L s 601 (p00 f L)
/-- the fault (0: none) and its place -/
noncomputable def PRF (f : Nat → Nat) (L s : Nat) : fS := match (PRS f L s).1 with
  | some b => (1, b)
  | none => if (PRS f L s).2.2.1 < 4 ∧ (PRS f L s).2.2.2.2.2.2.2 / 2 ^ (PRS f L s).2.2.1 ≠ 0 then nte 4 L (PRS f L s).2.2.2.1 else (PRS f L s).2.2.2.1
theorem lBr_w {f : Nat → Nat} {L s p : Nat} (h : lW f L s p = 10) : lBr f L s p = some p := by unfold lBr; rw [if_pos h]
theorem lBr_0 {f : Nat → Nat} {L s p : Nat} (h : lW f L s p ≠ 10) (h0 : nok f L (lP0 f L p) = false) : lBr f L s p = some (nb f L (lP0 f L p)) := by unfold lBr; rw [if_neg h, if_pos h0]
theorem lBr_1 {f : Nat → Nat} {L s p : Nat} (h : lW f L s p ≠ 10) (h0 : nok f L (lP0 f L p) = true) (h2 : kwN (lW f L s p) = 2) (h1 : nok f L (lP1 f L p) = false) : lBr f L s p = some (nb f L (lP1 f L p)) := by
  unfold lBr; rw [if_neg h, if_neg (by rw [h0]; decide), if_pos ⟨h2, h1⟩]
theorem lBr_e {f : Nat → Nat} {L s p : Nat} (h : lW f L s p ≠ 10) (h0 : nok f L (lP0 f L p) = true) (h1 : kwN (lW f L s p) = 2 → nok f L (lP1 f L p) = true) (h3 : ¬ (lP3 f L (lW f L s p) p < L ∧ f (lP3 f L (lW f L s p) p) = 59)) : lBr f L s p = some (lP3 f L (lW f L s p) p) := by
  unfold lBr; rw [if_neg h, if_neg (by rw [h0]; decide), if_neg (fun c => by have := h1 c.1; rw [this] at c; cases c.2), if_neg h3]
theorem lBr_n {f : Nat → Nat} {L s p : Nat} (h : lW f L s p ≠ 10) (h0 : nok f L (lP0 f L p) = true) (h1 : kwN (lW f L s p) = 2 → nok f L (lP1 f L p) = true) (h3 : lP3 f L (lW f L s p) p < L ∧ f (lP3 f L (lW f L s p) p) = 59) : lBr f L s p = none := by
  unfold lBr; rw [if_neg h, if_neg (by rw [h0]; decide), if_neg (fun c => by have := h1 c.1; rw [this] at c; cases c.2), if_pos h3]
theorem lBr_inv {f : Nat → Nat} {L s p : Nat} (h : lBr f L s p = none) : lW f L s p ≠ 10 ∧ nok f L (lP0 f L p) = true ∧ (kwN (lW f L s p) = 2 → nok f L (lP1 f L p) = true) ∧ lP3 f L (lW f L s p) p < L ∧ f (lP3 f L (lW f L s p) p) = 59 := by
  by_cases h1 : lW f L s p = 10
  · rw [lBr_w h1] at h; cases h
  · cases h2 : nok f L (lP0 f L p) with
    | false => rw [lBr_0 h1 h2] at h; cases h
    | true =>
      by_cases h3 : kwN (lW f L s p) = 2 ∧ nok f L (lP1 f L p) = false
      · rw [lBr_1 h1 h2 h3.1 h3.2] at h; cases h
      · have h4 : kwN (lW f L s p) = 2 → nok f L (lP1 f L p) = true := fun c => by
          cases h5 : nok f L (lP1 f L p) with
          | true => rfl
          | false => exact absurd ⟨c, h5⟩ h3
        by_cases h5 : lP3 f L (lW f L s p) p < L ∧ f (lP3 f L (lW f L s p) p) = 59
        · exact ⟨h1, rfl, h4, h5.1, h5.2⟩
        · rw [lBr_e h1 h2 h4 h5] at h; cases h
theorem lP_b {f : Nat → Nat} {L p w : Nat} (h : p ≤ L) : p ≤ lP0 f L p ∧ lP0 f L p ≤ lP1 f L p ∧ lP1 f L p ≤ lP2 f L w p ∧ lP2 f L w p ≤ lP3 f L w p ∧ lP3 f L w p ≤ L ∧ lP2 f L w p ≤ L ∧ lP1 f L p ≤ L ∧ lP0 f L p ≤ L := by
  have a0 : p ≤ lP0 f L p ∧ lP0 f L p ≤ L := ⟨sce_ge, sce_le h⟩
  have a1 : lP0 f L p ≤ lP1 f L p ∧ lP1 f L p ≤ L := ⟨Nat.le_trans (nb_b a0.2).1 (nE_b a0.2).1, (nE_b a0.2).2⟩
  have a2 : lP1 f L p ≤ lP2 f L w p ∧ lP2 f L w p ≤ L := by
    unfold lP2
    by_cases h2 : kwN w = 2
    · rw [if_pos h2]; exact ⟨Nat.le_trans (nb_b a1.2).1 (nE_b a1.2).1, (nE_b a1.2).2⟩
    · rw [if_neg h2]; exact ⟨Nat.le_refl _, a1.2⟩
  exact ⟨a0.1, a1.1, a2.1, sce_ge, sce_le a2.2, a2.2, a1.2, a0.2⟩
set_option maxHeartbeats 20000 in
theorem lSt_1 {f : Nat → Nat} {L s : Nat} {x : pS} : (lSt f L s x).1 = lS1 f L (lW f L s x.1) x.1 := by
  simp only [lSt]
theorem lSt_s {f : Nat → Nat} {L s : Nat} {x : pS} : (lSt f L s x).1 = sce bl f L (lP3 f L (lW f L s x.1) x.1 + 1) := by rw [lSt_1, lS1]
theorem lSt_2 {f : Nat → Nat} {L s : Nat} {x : pS} : (lSt f L s x).2.1 = lnN (lW f L s x.1) x.2.1 := by simp only [lSt]
theorem lSt_3 {f : Nat → Nat} {L s : Nat} {x : pS} : (lSt f L s x).2.2.1 = lUw f L s (lW f L s x.1) x.1 x.2.1 x.2.2.1 := by simp only [lSt]
theorem lSt_4 {f : Nat → Nat} {L s : Nat} {x : pS} (h : (lUw f L s (lW f L s x.1) x.1 x.2.1 x.2.2.1).1 = 0) : (lSt f L s x).2.2.2 = tkD s (lW f L s x.1) x.2.1 (lV0 f L x.1) (lV1 f L x.1) x.2.2.2 := by simp only [lSt]; rw [if_pos h]
theorem lSt_5 {f : Nat → Nat} {L s : Nat} {x : pS} (h : ¬ (lUw f L s (lW f L s x.1) x.1 x.2.1 x.2.2.1).1 = 0) : (lSt f L s x).2.2.2 = x.2.2.2 := by simp only [lSt]; rw [if_neg h]
theorem lSt_go {f : Nat → Nat} {L s : Nat} {x : pS} (h : x.1 ≤ L) (hb : lBr f L s x.1 = none) : x.1 < (lSt f L s x).1 ∧ (lSt f L s x).1 ≤ L := by
  have h4 := (lBr_inv hb).2.2.2.1
  have h6 := lP_b (f := f) (w := lW f L s x.1) h
  have a : x.1 ≤ lP3 f L (lW f L s x.1) x.1 := Nat.le_trans h6.1 (Nat.le_trans h6.2.1 (Nat.le_trans h6.2.2.1 h6.2.2.2.1))
  rw [lSt_1]
  unfold lS1
  generalize lP3 f L (lW f L s x.1) x.1 = P3 at a h4
  have h8 := sce_ge (p := bl) (f := f) (L := L) (i := P3 + 1)
  have h9 := sce_le (p := bl) (f := f) (L := L) (i := P3 + 1) h4
  exact ⟨Nat.lt_of_lt_of_le (Nat.lt_succ_of_le a) h8, h9⟩
/-- what stays: nothing wrong means nothing was -/
theorem nte_mono {c p : Nat} {u : fS} (hc : c ≠ 0) : ¬ (nte c p u).1 = 0 := nte_0 hc
theorem lUw_0 {f : Nat → Nat} {L s w p n : Nat} {u : fS} (h : (lUw f L s w p n u).1 = 0) : u.1 = 0 ∧ (w ≠ 1 → n + 1 ≤ xt_room s) ∧ bad w 0 (lV0 f L p) = false ∧ (kwN w = 2 → bad w 1 (lV1 f L p) = false ∧ (w = 0 → lV1 f L p ≤ lV0 f L p)) := by
  have h2 : ∀ u2, (lU2 w (nb f L (lP0 f L p)) (lV0 f L p) u2).1 = 0 → bad w 0 (lV0 f L p) = false ∧ u2.1 = 0 := by
    intro u2 e
    unfold lU2 at e
    cases hb : bad w 0 (lV0 f L p) with
    | true => rw [hb, if_pos rfl] at e; exact absurd e (nte_0 (by decide))
    | false => rw [hb, if_neg (by decide)] at e; exact ⟨rfl, e⟩
  have h1 : (lU1 s w p n u).1 = 0 → u.1 = 0 ∧ (w ≠ 1 → n + 1 ≤ xt_room s) := by
    intro e
    unfold lU1 at e
    by_cases hc : w ≠ 1 ∧ xt_room s < n + 1
    · rw [if_pos hc] at e; exact absurd e (nte_0 (by decide))
    · rw [if_neg hc] at e
      exact ⟨e, fun c => Nat.le_of_not_lt (fun c2 => hc ⟨c, c2⟩)⟩
  unfold lUw at h
  by_cases hN : kwN w = 2
  · rw [if_pos hN] at h
    unfold lU3 at h
    by_cases hc : bad w 1 (lV1 f L p) = true ∨ (w = 0 ∧ lV0 f L p < lV1 f L p)
    · rw [if_pos hc] at h; exact absurd h (nte_0 (by decide))
    · rw [if_neg hc] at h
      have a := h2 _ h
      have b := h1 a.2
      exact ⟨b.1, b.2, a.1, fun _ => ⟨Bool.eq_false_iff.mpr (fun c => hc (Or.inl c)), fun c => Nat.le_of_not_lt (fun c2 => hc (Or.inr ⟨c, c2⟩))⟩⟩
  · rw [if_neg hN] at h
    have a := h2 _ h
    have b := h1 a.2
    exact ⟨b.1, b.2, a.1, fun c => absurd c hN⟩
theorem nte_in {c p : Nat} {u : fS} (hc : c = 2 ∨ c = 3) (h : u.1 = 0 ∨ u.1 = 2 ∨ u.1 = 3) : (nte c p u).1 = 0 ∨ (nte c p u).1 = 2 ∨ (nte c p u).1 = 3 := by
  unfold nte
  by_cases h0 : u.1 = 0
  · rw [if_pos h0]; exact Or.inr hc
  · rw [if_neg h0]; exact h
theorem lUw_in {f : Nat → Nat} {L s w p n : Nat} {u : fS} (h : u.1 = 0 ∨ u.1 = 2 ∨ u.1 = 3) : (lUw f L s w p n u).1 = 0 ∨ (lUw f L s w p n u).1 = 2 ∨ (lUw f L s w p n u).1 = 3 := by
  have h1 : (lU1 s w p n u).1 = 0 ∨ (lU1 s w p n u).1 = 2 ∨ (lU1 s w p n u).1 = 3 := by
    unfold lU1
    by_cases hc : w ≠ 1 ∧ xt_room s < n + 1
    · rw [if_pos hc]; exact nte_in (Or.inr rfl) h
    · rw [if_neg hc]; exact h
  have h2 : ∀ a v u2, ((u2 : fS).1 = 0 ∨ u2.1 = 2 ∨ u2.1 = 3) → (lU2 w a v u2).1 = 0 ∨ (lU2 w a v u2).1 = 2 ∨ (lU2 w a v u2).1 = 3 := by
    intro a v u2 e
    unfold lU2
    by_cases hb : bad w 0 v = true
    · rw [if_pos hb]; exact nte_in (Or.inl rfl) e
    · rw [if_neg hb]; exact e
  have h3 : ∀ a v0 v u2, ((u2 : fS).1 = 0 ∨ u2.1 = 2 ∨ u2.1 = 3) → (lU3 w a v0 v u2).1 = 0 ∨ (lU3 w a v0 v u2).1 = 2 ∨ (lU3 w a v0 v u2).1 = 3 := by
    intro a v0 v u2 e
    unfold lU3
    by_cases hb : bad w 1 v = true ∨ (w = 0 ∧ v0 < v)
    · rw [if_pos hb]; exact nte_in (Or.inl rfl) e
    · rw [if_neg hb]; exact e
  unfold lUw
  by_cases hN : kwN w = 2
  · rw [if_pos hN]; exact h3 _ _ _ _ (h2 _ _ _ h1)
  · rw [if_neg hN]; exact h2 _ _ _ h1
