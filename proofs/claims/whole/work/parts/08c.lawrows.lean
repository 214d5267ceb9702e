/-! the law over both worlds: the class's pool (Y, h) and the reference (cA, ad, g) -/
def lg_ap (w1 w2 : va_W) : Prop := ∀ (i j : Nat) (p q : Nat × va_E), w1[i]? = some p → w2[j]? = some q → p.1 ≠ q.1
theorem lg_keep {D : va_G} {cl : List vw_C} {w1 w2 w3 : va_W} {H H1 : Heap} (hP2 : va_P D cl w2 H) (hap : lg_ap w1 w2) (hk : ∀ q : Nat, q < H.size → ¬ va_A w1 H.size q → H1[q]? = H[q]?) (hD3 : va_D (va_A w1 H.size) w3) : va_P D cl w2 H1 ∧ lg_ap w3 w2 := by
  have h1 : ∀ (k : Nat) (q : Nat × va_E), w2[k]? = some q → q.1 < H.size ∧ ¬ va_A w1 H.size q.1 := by
    intro k q hq
    have hl := (hP2 k q hq).lt
    refine ⟨hl, fun h => ?_⟩
    rcases h with ⟨k2, e, h⟩ | h
    · exact hap k2 k (q.1, e) q h hq rfl
    · omega
  refine ⟨hP2.kept (fun k q hq => hk q.1 (h1 k q hq).1 (h1 k q hq).2), fun i j x y hx hy hxy => ?_⟩
  exact (h1 j y hy).2 (by rw [← hxy]; exact hD3.2 i x hx)
theorem lg_ap.symm {w1 w2 : va_W} (h : lg_ap w1 w2) : lg_ap w2 w1 := fun i j p q hp hq e => h j i q p hq hp e.symm
abbrev lg_S : Type := xg_Y × xg_H × mg_H
abbrev lg_X : Type := Program × Launch × Env × State × MethodId × List Frame × Method × Code × va_G × (Nat → Nat) × Nat × Nat × (Nat → Int32)
def lg_b (X : lg_X) : Nat := match X with
  | (_, _, _, _, _, _, _, _, _, _, b, _, _) => b
def lg_L (X : lg_X) : Nat := match X with
  | (_, _, _, _, _, _, _, _, _, _, _, L, _) => L
def lg_xs (X : lg_X) : Nat → Int32 := match X with
  | (_, _, _, _, _, _, _, _, _, _, _, _, xs) => xs
/-- the law at pc, k cells of n slots made so far; a2: where the reference lies -/
def lg_W (X : lg_X) (a2 : Nat) (k n pc : Nat) (lv : List (Nat × Value)) (st : List Value) (S : lg_S) : Prop := match X with
  | (p, l, e, s, m, below, meth, c, D, _, b, _, _) => ∀ (H : Heap) (locs : List Loc) (ls : Array Slot) (cA : Nat → ClassId) (ad : Nat → Nat), ad 0 = a2 → va_K D vwCl (xg_ty S.1) s → va_K D vwCl (mg_ty cA) s → va_P D vwCl (xg_ws S.1 S.2.1) H → va_P D vwCl (mg_ws cA ad S.2.2) H → va_D (fun q : Nat => s.heap.size ≤ q) (xg_ws S.1 S.2.1) → va_D (fun q : Nat => s.heap.size ≤ q) (mg_ws cA ad S.2.2) → lg_ap (xg_ws S.1 S.2.1) (mg_ws cA ad S.2.2) → va_S (fun q : Nat => s.heap.size ≤ q) s.heap H locs → lv_has ls 4 lv → W p l e room_1 s m #[Value.ref b] below meth c H locs k n (lw_Z below #[Value.ref b] s) (F0 m pc ls st)
def lg_ok (X : lg_X) : Prop := match X with
  | (p, _, _, s, m, _, meth, c, _, zs, b, L, xs) => p.tables.exec = Jvm.exec ∧ c.code = cL_law ∧ c.maxLocals = 4 ∧ s.vm.findClass RL = some m.cls ∧ (∀ w ∈ wsL_law, w.before #[Value.ref b] s = true) ∧ meth.locks = false ∧ meth.sig.returnType = ret ∧ va_X b L xs s s.heap ∧ b < s.heap.size ∧ xg_St zs (fun q : Nat => s.heap.size ≤ q) s s.heap ∧ xg_Nw zs s
theorem lg_iload_n {X : lg_X} {a2 k0 n0 : Nat} {pc : Nat} {lv : List (Nat × Value)} {st : List Value} {h : lg_S} {k : Fin 4} {x : Int32} (C : lg_ok X) (hd : decode cL_law pc = .ok (.iload_n k, 1)) (j : Nat) (hj : lv[j]? = some ((k : Nat), .int x)) (kk : lg_W X a2 k0 n0 (pc + 1) lv (.int x :: st) h) : lg_W X a2 k0 n0 pc lv (st) h := by
  obtain ⟨p, l, e, s, m, below, meth, c, D, zs, b, L, xs⟩ := X
  obtain ⟨hx, hb, hml, hown, hts, hlk, hr, hX, hbl, hSt, hNw⟩ := C
  intro H locs ls cA ad had hK1 hK2 hP1 hP2 hD1 hD2 hap hS hl
  exact lv_iload_n hx hb hd rfl (lv_at hl j hj) (kk H locs ls cA ad had hK1 hK2 hP1 hP2 hD1 hD2 hap hS hl)
theorem lg_aload_n {X : lg_X} {a2 k0 n0 : Nat} {pc : Nat} {lv : List (Nat × Value)} {st : List Value} {h : lg_S} {k : Fin 4} {x : Nat} (C : lg_ok X) (hd : decode cL_law pc = .ok (.aload_n k, 1)) (j : Nat) (hj : lv[j]? = some ((k : Nat), .ref x)) (kk : lg_W X a2 k0 n0 (pc + 1) lv (.ref x :: st) h) : lg_W X a2 k0 n0 pc lv (st) h := by
  obtain ⟨p, l, e, s, m, below, meth, c, D, zs, b, L, xs⟩ := X
  obtain ⟨hx, hb, hml, hown, hts, hlk, hr, hX, hbl, hSt, hNw⟩ := C
  intro H locs ls cA ad had hK1 hK2 hP1 hP2 hD1 hD2 hap hS hl
  exact lv_aload_n hx hb hd rfl (lv_at hl j hj) (kk H locs ls cA ad had hK1 hK2 hP1 hP2 hD1 hD2 hap hS hl)
theorem lg_istore_n {X : lg_X} {a2 k0 n0 : Nat} {pc : Nat} {lv : List (Nat × Value)} {st : List Value} {h : lg_S} {k : Fin 4} {x : Int32} {lv2 : List (Nat × Value)} (C : lg_ok X) (hd : decode cL_law pc = .ok (.istore_n k, 1)) (hn : (k : Nat) < 4) (hl2 : ((k : Nat), Value.int x) :: lv.filter (fun q => !(q.1 == (k : Nat)) && !(q.1 + 1 == (k : Nat) && q.2.category == 2)) = lv2) (kk : lg_W X a2 k0 n0 (pc + 1) lv2 st h) : lg_W X a2 k0 n0 pc lv (.int x :: st) h := by
  obtain ⟨p, l, e, s, m, below, meth, c, D, zs, b, L, xs⟩ := X
  obtain ⟨hx, hb, hml, hown, hts, hlk, hr, hX, hbl, hSt, hNw⟩ := C
  intro H locs ls cA ad had hK1 hK2 hP1 hP2 hD1 hD2 hap hS hl
  exact lv_istore_n hx hb hd rfl hl hn hl2 (fun ls2 hl3 => kk H locs ls2 cA ad had hK1 hK2 hP1 hP2 hD1 hD2 hap hS hl3)
theorem lg_iinc {X : lg_X} {a2 k0 n0 : Nat} {pc : Nat} {lv : List (Nat × Value)} {st : List Value} {h : lg_S} {i : Nat} {d : Int} {x v : Int32} {lv2 : List (Nat × Value)} (C : lg_ok X) (hd : decode cL_law pc = .ok (.iinc i d, 3)) (k : Nat) (hk : lv[k]? = some (i, .int x)) (hv : x + Int32.ofInt d = v) (hn : i < 4) (hl2 : (i, Value.int v) :: lv.filter (fun q => !(q.1 == i) && !(q.1 + 1 == i && q.2.category == 2)) = lv2) (kk : lg_W X a2 k0 n0 (pc + 3) lv2 st h) : lg_W X a2 k0 n0 pc lv st h := by
  obtain ⟨p, l, e, s, m, below, meth, c, D, zs, b, L, xs⟩ := X
  obtain ⟨hx, hb, hml, hown, hts, hlk, hr, hX, hbl, hSt, hNw⟩ := C
  intro H locs ls cA ad had hK1 hK2 hP1 hP2 hD1 hD2 hap hS hl
  exact lv_iinc hx hb hd hl hk hv hn hl2 (fun ls2 hl3 => kk H locs ls2 cA ad had hK1 hK2 hP1 hP2 hD1 hD2 hap hS hl3)
theorem lg_iconst {X : lg_X} {a2 k0 n0 : Nat} {pc : Nat} {lv : List (Nat × Value)} {st : List Value} {h : lg_S} {n : Int} {v : Int32} (C : lg_ok X) (hd : decode cL_law pc = .ok (.iconst n, 1)) (hv : Int32.ofInt n = v) (kk : lg_W X a2 k0 n0 (pc + 1) lv (.int v :: st) h) : lg_W X a2 k0 n0 pc lv (st) h := by
  obtain ⟨p, l, e, s, m, below, meth, c, D, zs, b, L, xs⟩ := X
  obtain ⟨hx, hb, hml, hown, hts, hlk, hr, hX, hbl, hSt, hNw⟩ := C
  intro H locs ls cA ad had hK1 hK2 hP1 hP2 hD1 hD2 hap hS hl
  exact lv_iconst hx hb hd hv (kk H locs ls cA ad had hK1 hK2 hP1 hP2 hD1 hD2 hap hS hl)
theorem lg_bipush {X : lg_X} {a2 k0 n0 : Nat} {pc : Nat} {lv : List (Nat × Value)} {st : List Value} {h : lg_S} {n : Int} {v : Int32} (C : lg_ok X) (hd : decode cL_law pc = .ok (.bipush n, 2)) (hv : (Int8.ofInt n).toInt32 = v) (kk : lg_W X a2 k0 n0 (pc + 2) lv (.int v :: st) h) : lg_W X a2 k0 n0 pc lv (st) h := by
  obtain ⟨p, l, e, s, m, below, meth, c, D, zs, b, L, xs⟩ := X
  obtain ⟨hx, hb, hml, hown, hts, hlk, hr, hX, hbl, hSt, hNw⟩ := C
  intro H locs ls cA ad had hK1 hK2 hP1 hP2 hD1 hD2 hap hS hl
  exact lv_bipush hx hb hd hv (kk H locs ls cA ad had hK1 hK2 hP1 hP2 hD1 hD2 hap hS hl)
theorem lg_iadd {X : lg_X} {a2 k0 n0 : Nat} {pc : Nat} {lv : List (Nat × Value)} {st : List Value} {h : lg_S} {x y : Int32} (C : lg_ok X) (hd : decode cL_law pc = .ok (.iadd, 1)) (kk : lg_W X a2 k0 n0 (pc + 1) lv (.int (x + y) :: st) h) : lg_W X a2 k0 n0 pc lv (.int y :: .int x :: st) h := by
  obtain ⟨p, l, e, s, m, below, meth, c, D, zs, b, L, xs⟩ := X
  obtain ⟨hx, hb, hml, hown, hts, hlk, hr, hX, hbl, hSt, hNw⟩ := C
  intro H locs ls cA ad had hK1 hK2 hP1 hP2 hD1 hD2 hap hS hl
  exact lv_iadd hx hb hd (kk H locs ls cA ad had hK1 hK2 hP1 hP2 hD1 hD2 hap hS hl)
theorem lg_isub {X : lg_X} {a2 k0 n0 : Nat} {pc : Nat} {lv : List (Nat × Value)} {st : List Value} {h : lg_S} {x y : Int32} (C : lg_ok X) (hd : decode cL_law pc = .ok (.isub, 1)) (kk : lg_W X a2 k0 n0 (pc + 1) lv (.int (x - y) :: st) h) : lg_W X a2 k0 n0 pc lv (.int y :: .int x :: st) h := by
  obtain ⟨p, l, e, s, m, below, meth, c, D, zs, b, L, xs⟩ := X
  obtain ⟨hx, hb, hml, hown, hts, hlk, hr, hX, hbl, hSt, hNw⟩ := C
  intro H locs ls cA ad had hK1 hK2 hP1 hP2 hD1 hD2 hap hS hl
  exact lv_isub hx hb hd (kk H locs ls cA ad had hK1 hK2 hP1 hP2 hD1 hD2 hap hS hl)
theorem lg_iand {X : lg_X} {a2 k0 n0 : Nat} {pc : Nat} {lv : List (Nat × Value)} {st : List Value} {h : lg_S} {x y : Int32} (C : lg_ok X) (hd : decode cL_law pc = .ok (.iand, 1)) (kk : lg_W X a2 k0 n0 (pc + 1) lv (.int (x &&& y) :: st) h) : lg_W X a2 k0 n0 pc lv (.int y :: .int x :: st) h := by
  obtain ⟨p, l, e, s, m, below, meth, c, D, zs, b, L, xs⟩ := X
  obtain ⟨hx, hb, hml, hown, hts, hlk, hr, hX, hbl, hSt, hNw⟩ := C
  intro H locs ls cA ad had hK1 hK2 hP1 hP2 hD1 hD2 hap hS hl
  exact lv_iand hx hb hd (kk H locs ls cA ad had hK1 hK2 hP1 hP2 hD1 hD2 hap hS hl)
theorem lg_lcmp {X : lg_X} {a2 k0 n0 : Nat} {pc : Nat} {lv : List (Nat × Value)} {st : List Value} {h : lg_S} {x y : Int64} (C : lg_ok X) (hd : decode cL_law pc = .ok (.lcmp, 1)) (kk : lg_W X a2 k0 n0 (pc + 1) lv (.int (lg_cmp x y) :: st) h) : lg_W X a2 k0 n0 pc lv (.long y :: .long x :: st) h := by
  obtain ⟨p, l, e, s, m, below, meth, c, D, zs, b, L, xs⟩ := X
  obtain ⟨hx, hb, hml, hown, hts, hlk, hr, hX, hbl, hSt, hNw⟩ := C
  intro H locs ls cA ad had hK1 hK2 hP1 hP2 hD1 hD2 hap hS hl
  exact W.lcmp hx hb hd (kk H locs ls cA ad had hK1 hK2 hP1 hP2 hD1 hD2 hap hS hl)
theorem lg_dup {X : lg_X} {a2 k0 n0 : Nat} {pc : Nat} {lv : List (Nat × Value)} {st : List Value} {h : lg_S} {a : Value} (C : lg_ok X) (hd : decode cL_law pc = .ok (.dup, 1)) (ha : a.category = 1) (kk : lg_W X a2 k0 n0 (pc + 1) lv (a :: a :: st) h) : lg_W X a2 k0 n0 pc lv (a :: st) h := by
  obtain ⟨p, l, e, s, m, below, meth, c, D, zs, b, L, xs⟩ := X
  obtain ⟨hx, hb, hml, hown, hts, hlk, hr, hX, hbl, hSt, hNw⟩ := C
  intro H locs ls cA ad had hK1 hK2 hP1 hP2 hD1 hD2 hap hS hl
  exact lv_dup hx hb hd ha (kk H locs ls cA ad had hK1 hK2 hP1 hP2 hD1 hD2 hap hS hl)
theorem lg_topi {X : lg_X} {a2 k0 n0 : Nat} {pc : Nat} {lv : List (Nat × Value)} {st : List Value} {h : lg_S} {x : Int32} (kk : ∀ y : Int32, y = x → lg_W X a2 k0 n0 pc lv (.int y :: st) h) : lg_W X a2 k0 n0 pc lv (.int x :: st) h := kk x rfl
theorem lg_sub {X : lg_X} {a2 k0 n0 : Nat} {pc : Nat} {lv : List (Nat × Value)} {st : List Value} {h : lg_S} {lv2 : List (Nat × Value)} (ks : List Nat) (hl2 : lv_pick lv ks = lv2) (kk : lg_W X a2 k0 n0 pc lv2 st h) : lg_W X a2 k0 n0 pc lv st h := by
  obtain ⟨p, l, e, s, m, below, meth, c, D, zs, b, L, xs⟩ := X
  intro H locs ls cA ad had hK1 hK2 hP1 hP2 hD1 hD2 hap hS hl
  exact kk H locs ls cA ad had hK1 hK2 hP1 hP2 hD1 hD2 hap hS (lv_sub hl ks hl2)
theorem lg_icmp_eq {X : lg_X} {a2 k0 n0 : Nat} {pc : Nat} {lv : List (Nat × Value)} {st : List Value} {h : lg_S} {x y : Int32} {off : Int} (tgt : Nat) (C : lg_ok X) (hd : decode cL_law pc = .ok (.if_icmp .eq off, 3)) (ht : (pc : Int) + off = (tgt : Int)) (kt : x = y → lg_W X a2 k0 n0 tgt lv st h) (kf : ¬ x = y → lg_W X a2 k0 n0 (pc + 3) lv st h) : lg_W X a2 k0 n0 pc lv (.int y :: .int x :: st) h := by
  obtain ⟨p, l, e, s, m, below, meth, c, D, zs, b, L, xs⟩ := X
  obtain ⟨hx, hb, hml, hown, hts, hlk, hr, hX, hbl, hSt, hNw⟩ := C
  intro H locs ls cA ad had hK1 hK2 hP1 hP2 hD1 hD2 hap hS hl
  exact lv_icmp_eq hx hb hd ht (fun q => kt q H locs ls cA ad had hK1 hK2 hP1 hP2 hD1 hD2 hap hS hl) (fun q => kf q H locs ls cA ad had hK1 hK2 hP1 hP2 hD1 hD2 hap hS hl)
theorem lg_icmp_ne {X : lg_X} {a2 k0 n0 : Nat} {pc : Nat} {lv : List (Nat × Value)} {st : List Value} {h : lg_S} {x y : Int32} {off : Int} (tgt : Nat) (C : lg_ok X) (hd : decode cL_law pc = .ok (.if_icmp .ne off, 3)) (ht : (pc : Int) + off = (tgt : Int)) (kt : ¬ x = y → lg_W X a2 k0 n0 tgt lv st h) (kf : x = y → lg_W X a2 k0 n0 (pc + 3) lv st h) : lg_W X a2 k0 n0 pc lv (.int y :: .int x :: st) h := by
  obtain ⟨p, l, e, s, m, below, meth, c, D, zs, b, L, xs⟩ := X
  obtain ⟨hx, hb, hml, hown, hts, hlk, hr, hX, hbl, hSt, hNw⟩ := C
  intro H locs ls cA ad had hK1 hK2 hP1 hP2 hD1 hD2 hap hS hl
  exact lv_icmp_ne hx hb hd ht (fun q => kt q H locs ls cA ad had hK1 hK2 hP1 hP2 hD1 hD2 hap hS hl) (fun q => kf q H locs ls cA ad had hK1 hK2 hP1 hP2 hD1 hD2 hap hS hl)
theorem lg_icmp_gt {X : lg_X} {a2 k0 n0 : Nat} {pc : Nat} {lv : List (Nat × Value)} {st : List Value} {h : lg_S} {x y : Int32} {off : Int} (tgt : Nat) (C : lg_ok X) (hd : decode cL_law pc = .ok (.if_icmp .gt off, 3)) (ht : (pc : Int) + off = (tgt : Int)) (kt : y < x → lg_W X a2 k0 n0 tgt lv st h) (kf : ¬ y < x → lg_W X a2 k0 n0 (pc + 3) lv st h) : lg_W X a2 k0 n0 pc lv (.int y :: .int x :: st) h := by
  obtain ⟨p, l, e, s, m, below, meth, c, D, zs, b, L, xs⟩ := X
  obtain ⟨hx, hb, hml, hown, hts, hlk, hr, hX, hbl, hSt, hNw⟩ := C
  intro H locs ls cA ad had hK1 hK2 hP1 hP2 hD1 hD2 hap hS hl
  exact lv_icmp_gt hx hb hd ht (fun q => kt q H locs ls cA ad had hK1 hK2 hP1 hP2 hD1 hD2 hap hS hl) (fun q => kf q H locs ls cA ad had hK1 hK2 hP1 hP2 hD1 hD2 hap hS hl)
theorem lg_if_eq {X : lg_X} {a2 k0 n0 : Nat} {pc : Nat} {lv : List (Nat × Value)} {st : List Value} {h : lg_S} {x : Int32} {off : Int} (tgt : Nat) (C : lg_ok X) (hd : decode cL_law pc = .ok (.ifCond .eq off, 3)) (ht : (pc : Int) + off = (tgt : Int)) (kt : x = 0 → lg_W X a2 k0 n0 tgt lv st h) (kf : ¬ x = 0 → lg_W X a2 k0 n0 (pc + 3) lv st h) : lg_W X a2 k0 n0 pc lv (.int x :: st) h := by
  obtain ⟨p, l, e, s, m, below, meth, c, D, zs, b, L, xs⟩ := X
  obtain ⟨hx, hb, hml, hown, hts, hlk, hr, hX, hbl, hSt, hNw⟩ := C
  intro H locs ls cA ad had hK1 hK2 hP1 hP2 hD1 hD2 hap hS hl
  exact lv_if_eq hx hb hd ht (fun q => kt q H locs ls cA ad had hK1 hK2 hP1 hP2 hD1 hD2 hap hS hl) (fun q => kf q H locs ls cA ad had hK1 hK2 hP1 hP2 hD1 hD2 hap hS hl)
theorem lg_if_ne {X : lg_X} {a2 k0 n0 : Nat} {pc : Nat} {lv : List (Nat × Value)} {st : List Value} {h : lg_S} {x : Int32} {off : Int} (tgt : Nat) (C : lg_ok X) (hd : decode cL_law pc = .ok (.ifCond .ne off, 3)) (ht : (pc : Int) + off = (tgt : Int)) (kt : ¬ x = 0 → lg_W X a2 k0 n0 tgt lv st h) (kf : x = 0 → lg_W X a2 k0 n0 (pc + 3) lv st h) : lg_W X a2 k0 n0 pc lv (.int x :: st) h := by
  obtain ⟨p, l, e, s, m, below, meth, c, D, zs, b, L, xs⟩ := X
  obtain ⟨hx, hb, hml, hown, hts, hlk, hr, hX, hbl, hSt, hNw⟩ := C
  intro H locs ls cA ad had hK1 hK2 hP1 hP2 hD1 hD2 hap hS hl
  exact lv_if_ne hx hb hd ht (fun q => kt q H locs ls cA ad had hK1 hK2 hP1 hP2 hD1 hD2 hap hS hl) (fun q => kf q H locs ls cA ad had hK1 hK2 hP1 hP2 hD1 hD2 hap hS hl)
theorem lg_if_ge {X : lg_X} {a2 k0 n0 : Nat} {pc : Nat} {lv : List (Nat × Value)} {st : List Value} {h : lg_S} {x : Int32} {off : Int} (tgt : Nat) (C : lg_ok X) (hd : decode cL_law pc = .ok (.ifCond .ge off, 3)) (ht : (pc : Int) + off = (tgt : Int)) (kt : 0 ≤ x → lg_W X a2 k0 n0 tgt lv st h) (kf : ¬ 0 ≤ x → lg_W X a2 k0 n0 (pc + 3) lv st h) : lg_W X a2 k0 n0 pc lv (.int x :: st) h := by
  obtain ⟨p, l, e, s, m, below, meth, c, D, zs, b, L, xs⟩ := X
  obtain ⟨hx, hb, hml, hown, hts, hlk, hr, hX, hbl, hSt, hNw⟩ := C
  intro H locs ls cA ad had hK1 hK2 hP1 hP2 hD1 hD2 hap hS hl
  exact lv_if_ge hx hb hd ht (fun q => kt q H locs ls cA ad had hK1 hK2 hP1 hP2 hD1 hD2 hap hS hl) (fun q => kf q H locs ls cA ad had hK1 hK2 hP1 hP2 hD1 hD2 hap hS hl)
theorem lg_goto {X : lg_X} {a2 k0 n0 : Nat} {pc : Nat} {lv : List (Nat × Value)} {st : List Value} {h : lg_S} {off : Int} (tgt : Nat) (C : lg_ok X) (hd : decode cL_law pc = .ok (.goto off, 3)) (ht : (pc : Int) + off = (tgt : Int)) (kk : lg_W X a2 k0 n0 tgt lv st h) : lg_W X a2 k0 n0 pc lv st h := by
  obtain ⟨p, l, e, s, m, below, meth, c, D, zs, b, L, xs⟩ := X
  obtain ⟨hx, hb, hml, hown, hts, hlk, hr, hX, hbl, hSt, hNw⟩ := C
  intro H locs ls cA ad had hK1 hK2 hP1 hP2 hD1 hD2 hap hS hl
  exact lv_goto hx hb hd ht (kk H locs ls cA ad had hK1 hK2 hP1 hP2 hD1 hD2 hap hS hl)
theorem lg_tabIn {X : lg_X} {a2 k0 n0 : Nat} {pc : Nat} {lv : List (Nat × Value)} {st : List Value} {h : lg_S} {dflt lo hi : Int} {offs : Array Int} {len : Nat} {x : Int32} {off : Int} (tgt : Nat) (C : lg_ok X) (hd : decode cL_law pc = .ok (.tableswitch dflt lo hi offs, len)) (h1 : ¬ x.toInt < lo) (h2 : ¬ hi < x.toInt) (ho : offs[(x.toInt - lo).toNat]? = some off) (ht : (pc : Int) + off = (tgt : Int)) (kk : lg_W X a2 k0 n0 tgt lv st h) : lg_W X a2 k0 n0 pc lv (.int x :: st) h := by
  obtain ⟨p, l, e, s, m, below, meth, c, D, zs, b, L, xs⟩ := X
  obtain ⟨hx, hb, hml, hown, hts, hlk, hr, hX, hbl, hSt, hNw⟩ := C
  intro H locs ls cA ad had hK1 hK2 hP1 hP2 hD1 hD2 hap hS hl
  exact lv_tableIn hx hb hd h1 h2 ho ht (kk H locs ls cA ad had hK1 hK2 hP1 hP2 hD1 hD2 hap hS hl)
theorem lg_tabOut {X : lg_X} {a2 k0 n0 : Nat} {pc : Nat} {lv : List (Nat × Value)} {st : List Value} {h : lg_S} {dflt lo hi : Int} {offs : Array Int} {len : Nat} {x : Int32} (tgt : Nat) (C : lg_ok X) (hd : decode cL_law pc = .ok (.tableswitch dflt lo hi offs, len)) (h1 : x.toInt < lo ∨ hi < x.toInt) (ht : (pc : Int) + dflt = (tgt : Int)) (kk : lg_W X a2 k0 n0 tgt lv st h) : lg_W X a2 k0 n0 pc lv (.int x :: st) h := by
  obtain ⟨p, l, e, s, m, below, meth, c, D, zs, b, L, xs⟩ := X
  obtain ⟨hx, hb, hml, hown, hts, hlk, hr, hX, hbl, hSt, hNw⟩ := C
  intro H locs ls cA ad had hK1 hK2 hP1 hP2 hD1 hD2 hap hS hl
  exact lv_tableOut hx hb hd h1 ht (kk H locs ls cA ad had hK1 hK2 hP1 hP2 hD1 hD2 hap hS hl)
theorem lg_widen {X : lg_X} {a2 k0 n0 pc : Nat} {lv : List (Nat × Value)} {st : List Value} {S : lg_S} {k1 n1 : Nat} (h1 : k0 ≤ k1) (h2 : n0 ≤ n1) (kk : lg_W X a2 k1 n1 pc lv st S) : lg_W X a2 k0 n0 pc lv st S := by
  obtain ⟨p, l, e, s, m, below, meth, c, D, zs, b, L, xs⟩ := X
  intro H locs ls cA ad had hK1 hK2 hP1 hP2 hD1 hD2 hap hS hl
  exact W.widen h1 h2 (kk H locs ls cA ad had hK1 hK2 hP1 hP2 hD1 hD2 hap hS hl)
theorem lg_slen {X : lg_X} {a2 k0 n0 pc : Nat} {lv : List (Nat × Value)} {st : List Value} {S : lg_S} (C : lg_ok X) (hd : decode cL_law pc = .ok (.arraylength, 1)) (kk : lg_W X a2 k0 n0 (pc + 1) lv (.int (nI (lg_L X)) :: st) S) : lg_W X a2 k0 n0 pc lv (.ref (lg_b X) :: st) S := by
  obtain ⟨p, l, e, s, m, below, meth, c, D, zs, b, L, xs⟩ := X
  obtain ⟨hx, hb, hml, hown, hts, hlk, hr, hX, hbl, hSt, hNw⟩ := C
  intro H locs ls cA ad had hK1 hK2 hP1 hP2 hD1 hD2 hap hS hl
  exact va_slen hx hb hX hbl (Nat.not_le.mpr hbl) hS hd (kk H locs ls cA ad had hK1 hK2 hP1 hP2 hD1 hD2 hap hS hl)
theorem lg_sld {X : lg_X} {a2 k0 n0 pc : Nat} {lv : List (Nat × Value)} {st : List Value} {S : lg_S} {i : Int32} (C : lg_ok X) (hi : vp_in i (lg_L X)) (hd : decode cL_law pc = .ok (.iaload, 1)) (kk : lg_W X a2 k0 n0 (pc + 1) lv (.int (lg_xs X i.toNatClampNeg) :: st) S) : lg_W X a2 k0 n0 pc lv (.int i :: .ref (lg_b X) :: st) S := by
  obtain ⟨p, l, e, s, m, below, meth, c, D, zs, b, L, xs⟩ := X
  obtain ⟨hx, hb, hml, hown, hts, hlk, hr, hX, hbl, hSt, hNw⟩ := C
  intro H locs ls cA ad had hK1 hK2 hP1 hP2 hD1 hD2 hap hS hl
  exact va_sld hx hb hX hbl (Nat.not_le.mpr hbl) hS hi hd (kk H locs ls cA ad had hK1 hK2 hP1 hP2 hD1 hD2 hap hS hl)
theorem lg_ret {X : lg_X} {a2 k0 n0 pc : Nat} {lv : List (Nat × Value)} {S : lg_S} (C : lg_ok X) (hk : k0 ≤ 600000 ∧ n0 ≤ 7302250) (hd : decode cL_law pc = .ok (.ireturn, 1)) : lg_W X a2 k0 n0 pc lv [.int 1] S := by
  obtain ⟨p, l, e, s, m, below, meth, c, D, zs, b, L, xs⟩ := X
  obtain ⟨hx, hb, hml, hown, hts, hlk, hr, hX, hbl, hSt, hNw⟩ := C
  intro H locs ls cA ad had hK1 hK2 hP1 hP2 hD1 hD2 hap hS hl
  refine va_forget (fun q hq => hS.2.2 q hq) ?_
  refine W.widen (k := 600000) (n := 7302250) hk.1 hk.2 ?_
  exact lw_ret hx hb hr hlk hd
set_option maxHeartbeats 1000000 in
theorem lg_xfI {X : lg_X} {a2 k0 n0 pc : Nat} {lv : List (Nat × Value)} {st : List Value} {S : lg_S} {y : MethodName} {ws ws2 : List Cond} {rmN : Room} {bytes : ByteArray} {maxL nn idx a : Nat} {ret9 : Option FieldType} {stk : List Value} {Qr : Int32 → xg_H → Prop} {wp : (Int32 → xg_H → Prop) → xg_H → Prop} (C : lg_ok X) (As : List Value) (hk : xg_is S.1 a 11) (hM : xg_MI y ws rmN S.1 (fun _ => va_rf (some a) :: As) wp) (hg : GoodIn wsL_law (wsV RL idx RX11 y ws)) (hw : ws = Cond.code y bytes maxL ret9 :: ws2) (hcs : rmN.cells = 0 ∧ rmN.slots = 0) (hd2 : y.cls = RX11 ∧ y.cls ≠ "java/lang/invoke/MethodHandle" ∧ y.cls ≠ "java/lang/invoke/VarHandle" ∧ (parseMethodDescriptor y.desc).map (fun d => d.parameters.length) = some nn) (hRm : rmN.frames + 1 ≤ 2048 ∧ 8 + (maxL + 11) + rmN.locals ≤ 84000) (hn : As.length = nn) (hst : stk = As.reverse ++ .ref a :: st) (hcat : (st.map fun v => v.category).sum ≤ 8) (hfit : k0 ≤ 600000 ∧ n0 ≤ 7302250) (hd : decode cL_law pc = .ok (.invokevirtual idx, 3)) (hF : wp Qr S.2.1) (kk : ∀ (r : Int32) (h2 : xg_H), Qr r h2 → lg_W X a2 k0 n0 (pc + 3) lv (.int r :: st) (S.1, h2, S.2.2)) : lg_W X a2 k0 n0 pc lv stk S := by
  obtain ⟨p, l, e, s, m, below, meth, c, D, zs, b, L, xs⟩ := X
  obtain ⟨hx, hb, hml, hown, hts, hlk, hr, hX, hbl, hSt, hNw⟩ := C
  intro H locs ls cA ad had hK1 hK2 hP1 hP2 hD1 hD2 hap hS hl
  have hFc : ∀ q, va_A (xg_ws S.1 S.2.1) H.size q → s.heap.size ≤ q := fun q hq => hq.elim (fun ⟨k, e9, hk⟩ => hD1.2 k _ hk) (fun hq => Nat.le_trans hS.1 hq)
  subst hst
  obtain ⟨kr, hkr⟩ := xg_get (h := S.2.1) hk (xg_E_obj hk (by decide))
  refine va_calli (va_runV (As := As) (rest := st) ⟨hx, hb, hml, hown, hts⟩ (hM l D zs S.2.1 H.size Qr hF) (cwV nn hts hg hw hcs.1 hcs.2 hd2 hRm) ⟨xg_blind _ _ _ _ _ _, va_recv hK1 hP1 (ci := 11) rfl hkr, fun U hU hW => ⟨rfl, by rw [hU], by rw [hU]; exact hP1, va_K.moved hW.alike hK1, hD1.weaken (fun _ _ _ _ => trivial), by rw [hU]; exact ((hSt.kept hS.2.1).narrow hFc).moved hW.alike, xg_Nw.warm hW hNw⟩⟩ rfl hn hl.1 rfl (lv_room hcat) hd hfit) hS (fun q _ h9 => hFc q h9) hFc (fun r u t H1 locs1 ht hvm hw9 hB hz1 hk1 hS1 => ?_)
  obtain ⟨hP3, hK3, hD3⟩ := hB
  rw [ht] at hP3
  exact kk r u hw9 H1 locs1 ls cA ad had hK1 hK2 hP3 (lg_keep hP2 hap hk1 hD3).1 ⟨hD3.1, fun k q hq => hFc _ (hD3.2 k q hq)⟩ hD2 (lg_keep hP2 hap hk1 hD3).2 hS1 hl
set_option maxHeartbeats 1000000 in
theorem lg_xfL {X : lg_X} {a2 k0 n0 pc : Nat} {lv : List (Nat × Value)} {st : List Value} {S : lg_S} {y : MethodName} {ws ws2 : List Cond} {rmN : Room} {bytes : ByteArray} {maxL nn idx a : Nat} {ret9 : Option FieldType} {stk : List Value} {Qr : Int64 → xg_H → Prop} {wp : (Int64 → xg_H → Prop) → xg_H → Prop} (C : lg_ok X) (As : List Value) (hk : xg_is S.1 a 11) (hM : xg_ML y ws rmN S.1 (fun _ => va_rf (some a) :: As) wp) (hg : GoodIn wsL_law (wsV RL idx RX11 y ws)) (hw : ws = Cond.code y bytes maxL ret9 :: ws2) (hcs : rmN.cells = 0 ∧ rmN.slots = 0) (hd2 : y.cls = RX11 ∧ y.cls ≠ "java/lang/invoke/MethodHandle" ∧ y.cls ≠ "java/lang/invoke/VarHandle" ∧ (parseMethodDescriptor y.desc).map (fun d => d.parameters.length) = some nn) (hRm : rmN.frames + 1 ≤ 2048 ∧ 8 + (maxL + 11) + rmN.locals ≤ 84000) (hn : As.length = nn) (hst : stk = As.reverse ++ .ref a :: st) (hcat : (st.map fun v => v.category).sum ≤ 8) (hfit : k0 ≤ 600000 ∧ n0 ≤ 7302250) (hd : decode cL_law pc = .ok (.invokevirtual idx, 3)) (hF : wp Qr S.2.1) (kk : ∀ (r : Int64) (h2 : xg_H), Qr r h2 → lg_W X a2 k0 n0 (pc + 3) lv (.long r :: st) (S.1, h2, S.2.2)) : lg_W X a2 k0 n0 pc lv stk S := by
  obtain ⟨p, l, e, s, m, below, meth, c, D, zs, b, L, xs⟩ := X
  obtain ⟨hx, hb, hml, hown, hts, hlk, hr, hX, hbl, hSt, hNw⟩ := C
  intro H locs ls cA ad had hK1 hK2 hP1 hP2 hD1 hD2 hap hS hl
  have hFc : ∀ q, va_A (xg_ws S.1 S.2.1) H.size q → s.heap.size ≤ q := fun q hq => hq.elim (fun ⟨k, e9, hk⟩ => hD1.2 k _ hk) (fun hq => Nat.le_trans hS.1 hq)
  subst hst
  obtain ⟨kr, hkr⟩ := xg_get (h := S.2.1) hk (xg_E_obj hk (by decide))
  refine va_calll (va_runV (As := As) (rest := st) ⟨hx, hb, hml, hown, hts⟩ (hM l D zs S.2.1 H.size Qr hF) (cwV nn hts hg hw hcs.1 hcs.2 hd2 hRm) ⟨xg_blind _ _ _ _ _ _, va_recv hK1 hP1 (ci := 11) rfl hkr, fun U hU hW => ⟨rfl, by rw [hU], by rw [hU]; exact hP1, va_K.moved hW.alike hK1, hD1.weaken (fun _ _ _ _ => trivial), by rw [hU]; exact ((hSt.kept hS.2.1).narrow hFc).moved hW.alike, xg_Nw.warm hW hNw⟩⟩ rfl hn hl.1 rfl (lv_room hcat) hd hfit) hS (fun q _ h9 => hFc q h9) hFc (fun r u t H1 locs1 ht hvm hw9 hB hz1 hk1 hS1 => ?_)
  obtain ⟨hP3, hK3, hD3⟩ := hB
  rw [ht] at hP3
  exact kk r u hw9 H1 locs1 ls cA ad had hK1 hK2 hP3 (lg_keep hP2 hap hk1 hD3).1 ⟨hD3.1, fun k q hq => hFc _ (hD3.2 k q hq)⟩ hD2 (lg_keep hP2 hap hk1 hD3).2 hS1 hl
set_option maxHeartbeats 1000000 in
theorem lg_xvI {X : lg_X} {a2 k0 n0 pc : Nat} {lv : List (Nat × Value)} {st : List Value} {S : lg_S} {y : MethodName} {ws ws2 : List Cond} {rmN : Room} {bytes : ByteArray} {maxL nn idx a : Nat} {ret9 : Option FieldType} {stk : List Value} {Qr : Int32 → xg_Y → xg_H → Prop} {wp : (Int32 → xg_Y → xg_H → Prop) → xg_H → Prop} (C : lg_ok X) (As : List Value) (hk : xg_is S.1 a 11) (hM : xg_NI y ws rmN S.1 (va_rf (some a) :: As) wp) (hg : GoodIn wsL_law (wsV RL idx RX11 y ws)) (hw : ws = Cond.code y bytes maxL ret9 :: ws2) (hd2 : y.cls = RX11 ∧ y.cls ≠ "java/lang/invoke/MethodHandle" ∧ y.cls ≠ "java/lang/invoke/VarHandle" ∧ (parseMethodDescriptor y.desc).map (fun d => d.parameters.length) = some nn) (hRm : rmN.frames + 1 ≤ 2048 ∧ 8 + (maxL + 11) + rmN.locals ≤ 84000) (hn : As.length = nn) (hst : stk = As.reverse ++ .ref a :: st) (hcat : (st.map fun v => v.category).sum ≤ 8) (hfit : k0 + rmN.cells ≤ 600000 ∧ n0 + rmN.slots ≤ 7302250) (hd : decode cL_law pc = .ok (.invokevirtual idx, 3)) (hF : wp Qr S.2.1) (kk : ∀ (r : Int32) (Y2 : xg_Y) (h2 : xg_H), Qr r Y2 h2 → lg_W X a2 (k0 + rmN.cells) (n0 + rmN.slots) (pc + 3) lv (.int r :: st) (Y2, h2, S.2.2)) : lg_W X a2 k0 n0 pc lv stk S := by
  obtain ⟨p, l, e, s, m, below, meth, c, D, zs, b, L, xs⟩ := X
  obtain ⟨hx, hb, hml, hown, hts, hlk, hr, hX, hbl, hSt, hNw⟩ := C
  intro H locs ls cA ad had hK1 hK2 hP1 hP2 hD1 hD2 hap hS hl
  have hFc : ∀ q, va_A (xg_ws S.1 S.2.1) H.size q → s.heap.size ≤ q := fun q hq => hq.elim (fun ⟨k, e9, hk⟩ => hD1.2 k _ hk) (fun hq => Nat.le_trans hS.1 hq)
  subst hst
  obtain ⟨kr, hkr⟩ := xg_get (h := S.2.1) hk (xg_E_obj hk (by decide))
  refine va_calli (va_runV (As := As) (rest := st) ⟨hx, hb, hml, hown, hts⟩ (hM l D zs S.2.1 H.size Qr hF) (cwV nn hts hg hw rfl rfl hd2 hRm) ⟨xg_blind _ _ _ _ _ _, va_recv hK1 hP1 (ci := 11) rfl hkr, fun U hU hW => ⟨rfl, by rw [hU], by rw [hU]; exact hP1, va_K.moved hW.alike hK1, hD1.weaken (fun _ _ _ _ => trivial), by rw [hU]; exact ((hSt.kept hS.2.1).narrow hFc).moved hW.alike, xg_Nw.warm hW hNw⟩⟩ rfl hn hl.1 rfl (lv_room hcat) hd hfit) hS (fun q _ h9 => hFc q h9) hFc (fun r u t H1 locs1 ht hvm hw9 hB hz1 hk1 hS1 => ?_)
  obtain ⟨hP3, hK3, hD3⟩ := hB
  rw [ht] at hP3
  exact kk r u.1 u.2 hw9 H1 locs1 ls cA ad had (va_K.moved hvm.symm hK3) hK2 hP3 (lg_keep hP2 hap hk1 hD3).1 ⟨hD3.1, fun k q hq => hFc _ (hD3.2 k q hq)⟩ hD2 (lg_keep hP2 hap hk1 hD3).2 hS1 hl
set_option maxHeartbeats 1000000 in
theorem lg_xvL {X : lg_X} {a2 k0 n0 pc : Nat} {lv : List (Nat × Value)} {st : List Value} {S : lg_S} {y : MethodName} {ws ws2 : List Cond} {rmN : Room} {bytes : ByteArray} {maxL nn idx a : Nat} {ret9 : Option FieldType} {stk : List Value} {Qr : Int64 → xg_Y → xg_H → Prop} {wp : (Int64 → xg_Y → xg_H → Prop) → xg_H → Prop} (C : lg_ok X) (As : List Value) (hk : xg_is S.1 a 11) (hM : xg_NL y ws rmN S.1 (va_rf (some a) :: As) wp) (hg : GoodIn wsL_law (wsV RL idx RX11 y ws)) (hw : ws = Cond.code y bytes maxL ret9 :: ws2) (hd2 : y.cls = RX11 ∧ y.cls ≠ "java/lang/invoke/MethodHandle" ∧ y.cls ≠ "java/lang/invoke/VarHandle" ∧ (parseMethodDescriptor y.desc).map (fun d => d.parameters.length) = some nn) (hRm : rmN.frames + 1 ≤ 2048 ∧ 8 + (maxL + 11) + rmN.locals ≤ 84000) (hn : As.length = nn) (hst : stk = As.reverse ++ .ref a :: st) (hcat : (st.map fun v => v.category).sum ≤ 8) (hfit : k0 + rmN.cells ≤ 600000 ∧ n0 + rmN.slots ≤ 7302250) (hd : decode cL_law pc = .ok (.invokevirtual idx, 3)) (hF : wp Qr S.2.1) (kk : ∀ (r : Int64) (Y2 : xg_Y) (h2 : xg_H), Qr r Y2 h2 → lg_W X a2 (k0 + rmN.cells) (n0 + rmN.slots) (pc + 3) lv (.long r :: st) (Y2, h2, S.2.2)) : lg_W X a2 k0 n0 pc lv stk S := by
  obtain ⟨p, l, e, s, m, below, meth, c, D, zs, b, L, xs⟩ := X
  obtain ⟨hx, hb, hml, hown, hts, hlk, hr, hX, hbl, hSt, hNw⟩ := C
  intro H locs ls cA ad had hK1 hK2 hP1 hP2 hD1 hD2 hap hS hl
  have hFc : ∀ q, va_A (xg_ws S.1 S.2.1) H.size q → s.heap.size ≤ q := fun q hq => hq.elim (fun ⟨k, e9, hk⟩ => hD1.2 k _ hk) (fun hq => Nat.le_trans hS.1 hq)
  subst hst
  obtain ⟨kr, hkr⟩ := xg_get (h := S.2.1) hk (xg_E_obj hk (by decide))
  refine va_calll (va_runV (As := As) (rest := st) ⟨hx, hb, hml, hown, hts⟩ (hM l D zs S.2.1 H.size Qr hF) (cwV nn hts hg hw rfl rfl hd2 hRm) ⟨xg_blind _ _ _ _ _ _, va_recv hK1 hP1 (ci := 11) rfl hkr, fun U hU hW => ⟨rfl, by rw [hU], by rw [hU]; exact hP1, va_K.moved hW.alike hK1, hD1.weaken (fun _ _ _ _ => trivial), by rw [hU]; exact ((hSt.kept hS.2.1).narrow hFc).moved hW.alike, xg_Nw.warm hW hNw⟩⟩ rfl hn hl.1 rfl (lv_room hcat) hd hfit) hS (fun q _ h9 => hFc q h9) hFc (fun r u t H1 locs1 ht hvm hw9 hB hz1 hk1 hS1 => ?_)
  obtain ⟨hP3, hK3, hD3⟩ := hB
  rw [ht] at hP3
  exact kk r u.1 u.2 hw9 H1 locs1 ls cA ad had (va_K.moved hvm.symm hK3) hK2 hP3 (lg_keep hP2 hap hk1 hD3).1 ⟨hD3.1, fun k q hq => hFc _ (hD3.2 k q hq)⟩ hD2 (lg_keep hP2 hap hk1 hD3).2 hS1 hl
set_option maxHeartbeats 1000000 in
theorem lg_mI {X : lg_X} {a2 k0 n0 pc : Nat} {lv : List (Nat × Value)} {st : List Value} {S : lg_S} {y : MethodName} {ws ws2 : List Cond} {rmN : Room} {bytes : ByteArray} {maxL nn idx : Nat} {ret9 : Option FieldType} {stk : List Value} {Qr : Int32 → mg_H → Prop} {wp : (Int32 → mg_H → Prop) → mg_H → Prop} (C : lg_ok X) (As : List Value) (hM : mg_MI y ws rmN (fun ad => .ref (ad 0) :: As) wp) (hg : GoodIn wsL_law (wsV RL idx RX12 y ws)) (hw : ws = Cond.code y bytes maxL ret9 :: ws2) (hcs : rmN.cells = 0 ∧ rmN.slots = 0) (hd2 : y.cls = RX12 ∧ y.cls ≠ "java/lang/invoke/MethodHandle" ∧ y.cls ≠ "java/lang/invoke/VarHandle" ∧ (parseMethodDescriptor y.desc).map (fun d => d.parameters.length) = some nn) (hRm : rmN.frames + 1 ≤ 2048 ∧ 8 + (maxL + 11) + rmN.locals ≤ 84000) (hn : As.length = nn) (hst : stk = As.reverse ++ .ref a2 :: st) (hcat : (st.map fun v => v.category).sum ≤ 8) (hfit : k0 ≤ 600000 ∧ n0 ≤ 7302250) (hd : decode cL_law pc = .ok (.invokevirtual idx, 3)) (hF : wp Qr S.2.2) (kk : ∀ (r : Int32) (h2 : mg_H), Qr r h2 → lg_W X a2 k0 n0 (pc + 3) lv (.int r :: st) (S.1, S.2.1, h2)) : lg_W X a2 k0 n0 pc lv stk S := by
  obtain ⟨p, l, e, s, m, below, meth, c, D, zs, b, L, xs⟩ := X
  obtain ⟨hx, hb, hml, hown, hts, hlk, hr, hX, hbl, hSt, hNw⟩ := C
  intro H locs ls cA ad had hK1 hK2 hP1 hP2 hD1 hD2 hap hS hl
  have hFc : ∀ q, va_A (mg_ws cA ad S.2.2) H.size q → s.heap.size ≤ q := fun q hq => hq.elim (fun ⟨k, e9, hk⟩ => hD2.2 k _ hk) (fun hq => Nat.le_trans hS.1 hq)
  subst hst
  subst had
  refine va_calli (va_runV (As := As) (rest := st) ⟨hx, hb, hml, hown, hts⟩ (hM l D cA ad S.2.2 H.size Qr hF) (cwV nn hts hg hw hcs.1 hcs.2 hd2 hRm) ⟨mg_blind _ _ _ _ _ _, va_recv hK2 hP2 (ci := 12) (q0 := 0) rfl (mg_ws_get (c := 0) (k := 0) rfl), fun U hU hW => ⟨rfl, by rw [hU], by rw [hU]; exact hP2, va_K.moved hW.alike hK2, hD2.weaken (fun _ _ _ _ => trivial)⟩⟩ rfl hn hl.1 rfl (lv_room hcat) hd hfit) hS (fun q _ h9 => hFc q h9) hFc (fun r u t H1 locs1 ht hvm hw9 hB hz1 hk1 hS1 => ?_)
  obtain ⟨hP3, hK3, hD3⟩ := hB
  rw [ht] at hP3
  exact kk r u hw9 H1 locs1 ls cA ad rfl hK1 hK2 (lg_keep hP1 hap.symm hk1 hD3).1 hP3 hD1 ⟨hD3.1, fun k q hq => hFc _ (hD3.2 k q hq)⟩ (lg_keep hP1 hap.symm hk1 hD3).2.symm hS1 hl
set_option maxHeartbeats 1000000 in
theorem lg_mL {X : lg_X} {a2 k0 n0 pc : Nat} {lv : List (Nat × Value)} {st : List Value} {S : lg_S} {y : MethodName} {ws ws2 : List Cond} {rmN : Room} {bytes : ByteArray} {maxL nn idx : Nat} {ret9 : Option FieldType} {stk : List Value} {Qr : Int64 → mg_H → Prop} {wp : (Int64 → mg_H → Prop) → mg_H → Prop} (C : lg_ok X) (As : List Value) (hM : mg_ML y ws rmN (fun ad => .ref (ad 0) :: As) wp) (hg : GoodIn wsL_law (wsV RL idx RX12 y ws)) (hw : ws = Cond.code y bytes maxL ret9 :: ws2) (hcs : rmN.cells = 0 ∧ rmN.slots = 0) (hd2 : y.cls = RX12 ∧ y.cls ≠ "java/lang/invoke/MethodHandle" ∧ y.cls ≠ "java/lang/invoke/VarHandle" ∧ (parseMethodDescriptor y.desc).map (fun d => d.parameters.length) = some nn) (hRm : rmN.frames + 1 ≤ 2048 ∧ 8 + (maxL + 11) + rmN.locals ≤ 84000) (hn : As.length = nn) (hst : stk = As.reverse ++ .ref a2 :: st) (hcat : (st.map fun v => v.category).sum ≤ 8) (hfit : k0 ≤ 600000 ∧ n0 ≤ 7302250) (hd : decode cL_law pc = .ok (.invokevirtual idx, 3)) (hF : wp Qr S.2.2) (kk : ∀ (r : Int64) (h2 : mg_H), Qr r h2 → lg_W X a2 k0 n0 (pc + 3) lv (.long r :: st) (S.1, S.2.1, h2)) : lg_W X a2 k0 n0 pc lv stk S := by
  obtain ⟨p, l, e, s, m, below, meth, c, D, zs, b, L, xs⟩ := X
  obtain ⟨hx, hb, hml, hown, hts, hlk, hr, hX, hbl, hSt, hNw⟩ := C
  intro H locs ls cA ad had hK1 hK2 hP1 hP2 hD1 hD2 hap hS hl
  have hFc : ∀ q, va_A (mg_ws cA ad S.2.2) H.size q → s.heap.size ≤ q := fun q hq => hq.elim (fun ⟨k, e9, hk⟩ => hD2.2 k _ hk) (fun hq => Nat.le_trans hS.1 hq)
  subst hst
  subst had
  refine va_calll (va_runV (As := As) (rest := st) ⟨hx, hb, hml, hown, hts⟩ (hM l D cA ad S.2.2 H.size Qr hF) (cwV nn hts hg hw hcs.1 hcs.2 hd2 hRm) ⟨mg_blind _ _ _ _ _ _, va_recv hK2 hP2 (ci := 12) (q0 := 0) rfl (mg_ws_get (c := 0) (k := 0) rfl), fun U hU hW => ⟨rfl, by rw [hU], by rw [hU]; exact hP2, va_K.moved hW.alike hK2, hD2.weaken (fun _ _ _ _ => trivial)⟩⟩ rfl hn hl.1 rfl (lv_room hcat) hd hfit) hS (fun q _ h9 => hFc q h9) hFc (fun r u t H1 locs1 ht hvm hw9 hB hz1 hk1 hS1 => ?_)
  obtain ⟨hP3, hK3, hD3⟩ := hB
  rw [ht] at hP3
  exact kk r u hw9 H1 locs1 ls cA ad rfl hK1 hK2 (lg_keep hP1 hap.symm hk1 hD3).1 hP3 hD1 ⟨hD3.1, fun k q hq => hFc _ (hD3.2 k q hq)⟩ (lg_keep hP1 hap.symm hk1 hD3).2.symm hS1 hl
