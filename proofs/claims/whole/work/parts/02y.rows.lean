/-- a cell q of kind c, length n, class id ca comes into the pool; all that it holds is 0 -/
def xg_nY (Y : xg_Y) (q c n : Nat) (ca : ClassId) : xg_Y := (Y.1 ++ [q], va_up Y.2.1 q c, va_up Y.2.2.1 q n, va_up Y.2.2.2 q ca)
def xg_nh (h : xg_H) (q : Nat) : xg_H := (va_up h.1 q (fun _ => 0), va_up h.2.1 q (fun _ => 0), va_up h.2.2 q (fun _ => none))
theorem xg_fresh {A : Nat → Prop} {L : List Nat} {f : Nat → va_E} {q : Nat} {e : va_E} (hD : va_D A (va_pl L f ++ [(q, e)])) : q ∉ L := by
  intro hm
  obtain ⟨i, hi⟩ := List.mem_iff_getElem?.mp hm
  have hil : i < L.length := (List.getElem?_eq_some_iff.mp hi).1
  have hlen : (va_pl L f).length = L.length := by rw [va_pl, List.length_map]
  have h1 : (va_pl L f ++ [(q, e)])[i]? = some (q, f q) := by
    rw [List.getElem?_append_left (by omega), va_pl, List.getElem?_map, hi]; rfl
  have h2 : (va_pl L f ++ [(q, e)])[L.length]? = some (q, e) := by
    rw [List.getElem?_append_right (by omega), hlen, Nat.sub_self]; rfl
  have := hD.1 i L.length _ _ h1 h2 rfl
  omega
theorem xg_push {Y : xg_Y} {h : xg_H} {q c n : Nat} {ca : ClassId} {e : va_E} (hq : q ∉ Y.1) (he : xg_E (xg_nY Y q c n ca) (xg_nh h q) q = e) : xg_ws Y h ++ [(q, e)] = xg_ws (xg_nY Y q c n ca) (xg_nh h q) := by
  have h1 : xg_ws Y h ++ [(q, e)] = va_pl (Y.1 ++ [q]) (va_up (xg_E Y h) q e) := va_pl_push hq
  have h2 : va_up (xg_E Y h) q e = xg_E (xg_nY Y q c n ca) (xg_nh h q) := by
    funext d
    by_cases hd : d = q
    · subst hd; simp [va_up, he]
    · have e1 : xg_fs (xg_nh h q) d = xg_fs h d := by
        funext c9
        rw [xg_fs, xg_fs]; congr 1; funext k; simp [xg_fv, xg_nh, va_up, hd]
      simp [va_up, hd, xg_E, xg_nY, xg_n, xg_c, e1]
      simp [xg_nh, va_up, hd]
  rw [h1, h2]; rfl
theorem xg_is_new {Y : xg_Y} {q c n : Nat} {ca : ClassId} : xg_is (xg_nY Y q c n ca) q c := ⟨by simp [xg_nY], by simp [xg_nY, va_up]⟩
theorem xg_is_old {Y : xg_Y} {q c n a k : Nat} {ca : ClassId} (hq : q ∉ Y.1) (h : xg_is Y a k) : xg_is (xg_nY Y q c n ca) a k := by
  have hne : a ≠ q := fun e => hq (e ▸ h.1)
  exact ⟨by simp [xg_nY, h.1], by simp [xg_nY, va_up, hne, h.2]⟩
theorem xg_ty_obj {Y : xg_Y} {q c n : Nat} {ca : ClassId} (hq : q ∉ Y.1) (hc : c < 20) : xg_ty (xg_nY Y q c n ca) = xg_ty Y := by
  have h1 : (xg_nY Y q c n ca).1.filter (fun a => decide (20 ≤ (xg_nY Y q c n ca).2.1 a)) = Y.1.filter (fun a => decide (20 ≤ Y.2.1 a)) := by
    rw [show (xg_nY Y q c n ca).1 = Y.1 ++ [q] from rfl, List.filter_append]
    have h2 : [q].filter (fun a => decide (20 ≤ (xg_nY Y q c n ca).2.1 a)) = [] := by simp [xg_nY, va_up]; omega
    rw [h2, List.append_nil]
    apply List.filter_congr
    intro a ha
    have hne : a ≠ q := fun e => hq (e ▸ ha)
    simp [xg_nY, va_up, hne]
  rw [xg_ty, xg_ty, h1]
  apply List.map_congr_left
  intro a ha
  have hne : a ≠ q := fun e => hq (e ▸ (List.mem_filter.mp ha).1)
  simp [xg_c, xg_nY, va_up, hne]
theorem xg_ty_arr {Y : xg_Y} {q c n : Nat} {ca : ClassId} (hq : q ∉ Y.1) (hc : 20 ≤ c) : xg_ty (xg_nY Y q c n ca) = xg_ty Y ++ [(ca, xg_ft c)] := by
  have h1 : (xg_nY Y q c n ca).1.filter (fun a => decide (20 ≤ (xg_nY Y q c n ca).2.1 a)) = Y.1.filter (fun a => decide (20 ≤ Y.2.1 a)) ++ [q] := by
    rw [show (xg_nY Y q c n ca).1 = Y.1 ++ [q] from rfl, List.filter_append]
    have h2 : [q].filter (fun a => decide (20 ≤ (xg_nY Y q c n ca).2.1 a)) = [q] := by simp [xg_nY, va_up, hc]
    rw [h2]
    congr 1
    apply List.filter_congr
    intro a ha
    have hne : a ≠ q := fun e => hq (e ▸ ha)
    simp [xg_nY, va_up, hne]
  rw [xg_ty, xg_ty, h1, List.map_append]
  congr 1
  · apply List.map_congr_left
    intro a ha
    have hne : a ≠ q := fun e => hq (e ▸ (List.mem_filter.mp ha).1)
    simp [xg_c, xg_nY, va_up, hne]
  · simp [xg_c, xg_nY, va_up]
def xg_dv (t : Nat) : Value := if t = 0 then .int 0 else if t = 1 then .long 0 else .null
theorem xg_zero {h : xg_H} {q c : Nat} : xg_fs (xg_nh h q) q c = (List.range (xg_N c)).map (fun j => xg_dv (xg_tm c j)) := by
  rw [xg_fs]; congr 1; funext j
  simp only [xg_fv, xg_nh, va_up, if_pos, xg_dv]
  rfl
theorem xg_new {X : xg_X} {k0 n0 : Nat} {Y : xg_Y} {own : String} {cc : ByteArray} {Ts : List Cond} {rm : Room} {pc : Nat} {lv : List (Nat × Value)} {st : List Value} {h : xg_H} {i : Nat} {C1 : String} {T1 : u_T} {ci : Nat} (C : xg_ok X cc own Ts rm) (hin : ∀ w ∈ u_ws C1 T1 (xg_N ci), w ∈ Ts) (hcl : vwCl[ci]? = some (C1, T1, xg_N ci)) (hci : ci < 20) (hcl2 : Cond.classLink own i C1 ∈ Ts) (hinst : Cond.instantiable C1 (xg_N ci) ∈ Ts) (hini : Cond.initialized C1 ∈ Ts) (ty0 : Nat → FieldType) (hty0 : ∀ k, k < xg_N ci → parseFieldDescriptor (T1 k).2.2.1 = some (ty0 k)) (hdef : ∀ j, j < xg_N ci → defaultValue (ty0 j) = xg_dv (xg_tm ci j)) (hc1 : k0 + 1 ≤ rm.cells) (hn1 : n0 + xg_N ci ≤ rm.slots) (hd : decode cc pc = .ok (.new i, 3)) (kk : ∀ (q : Nat) (Y2 : xg_Y) (h2 : xg_H), q ∉ Y.1 → Y2 = xg_nY Y q ci 0 0 → h2 = xg_nh h q → xg_W X (k0 + 1) (n0 + xg_N ci) Y2 (pc + 3) lv (va_rf (some q) :: st) h2) : xg_W X k0 n0 Y pc lv st h := by
  obtain ⟨p, l, e, R, s, m, args, below, meth, c, Q, D, cA, zs, A, nL⟩ := X
  obtain ⟨hx, hb, hml, hown, hts, hA, hlk, hR, hSt, hNw⟩ := C
  intro H locs ls hK hP hD hS hl
  subst hR
  refine va_new (ci := ci) (fs := (List.range (xg_N ci)).map (fun j => xg_dv (xg_tm ci j))) (C := C1) (T := T1) (N := xg_N ci) hx hb hts hin ty0 hty0 hown (hts _ hcl2) (hts _ hinst) (hts _ hini) hK hP hD hS hA hcl (fun j hj => by rw [hdef j hj, vp_V, List.getD_eq_getElem?_getD, List.getElem?_map, List.getElem?_range hj]; rfl) hc1 hn1 hd (fun q H1 hP1 hD1 hS1 => ?_)
  have hq : q ∉ Y.1 := xg_fresh hD1
  have he : xg_E (xg_nY Y q ci 0 0) (xg_nh h q) q = .inr (ci, (List.range (xg_N ci)).map (fun j => xg_dv (xg_tm ci j))) := by
    rw [xg_E_obj xg_is_new hci, xg_zero]
  rw [xg_push hq he] at hP1 hD1
  exact kk q _ _ hq rfl rfl H1 locs ls (by rw [xg_ty_obj hq hci]; exact hK) hP1 hD1 hS1 hl
theorem xg_newi {X : xg_X} {k0 n0 : Nat} {Y : xg_Y} {own : String} {cc : ByteArray} {Ts : List Cond} {rm : Room} {pc : Nat} {lv : List (Nat × Value)} {st : List Value} {h : xg_H} {n : Int32} (C : xg_ok X cc own Ts rm) (harr : Cond.arrayClass .int ∈ Ts) (hn : ¬ n < 0) (hby : n.toNatClampNeg * 4 ≤ 536870912) (hc1 : k0 + 1 ≤ rm.cells) (hn1 : n0 + n.toNatClampNeg ≤ rm.slots) (hd : decode cc pc = .ok (.newarray .int, 2)) (kk : ∀ (q : Nat) (ca : ClassId) (Y2 : xg_Y) (h2 : xg_H), q ∉ Y.1 → Y2 = xg_nY Y q 22 n.toNatClampNeg ca → h2 = xg_nh h q → xg_W X (k0 + 1) (n0 + n.toNatClampNeg) Y2 (pc + 2) lv (va_rf (some q) :: st) h2) : xg_W X k0 n0 Y pc lv (.int n :: st) h := by
  obtain ⟨p, l, e, R, s, m, args, below, meth, c, Q, D, cA, zs, A, nL⟩ := X
  obtain ⟨hx, hb, hml, hown, hts, hA, hlk, hR, hSt, hNw⟩ := C
  intro H locs ls hK hP hD hS hl
  subst hR
  refine va_newa (atype := .int) (ty := .int) (a0 := (n.toNatClampNeg, .inl (fun _ => 0))) hx hb (hts _ harr) rfl hK hP hD hS hA (fun cA => rfl) hn rfl hby hc1 hn1 hd (fun q ca H1 hK1 hP1 hD1 hS1 => ?_)
  have hq : q ∉ Y.1 := xg_fresh hD1
  have he : xg_E (xg_nY Y q 22 n.toNatClampNeg ca) (xg_nh h q) q = .inl (ca, n.toNatClampNeg, .inl (fun _ => 0)) := by
    rw [xg_E_int xg_is_new]; simp [xg_c, xg_n, xg_nY, xg_nh, va_up]
  rw [xg_push hq he] at hP1 hD1
  exact kk q ca _ _ hq rfl rfl H1 locs ls (by rw [xg_ty_arr hq (by decide)]; exact hK1) hP1 hD1 hS1 hl
theorem xg_newl {X : xg_X} {k0 n0 : Nat} {Y : xg_Y} {own : String} {cc : ByteArray} {Ts : List Cond} {rm : Room} {pc : Nat} {lv : List (Nat × Value)} {st : List Value} {h : xg_H} {n : Int32} (C : xg_ok X cc own Ts rm) (harr : Cond.arrayClass .long ∈ Ts) (hn : ¬ n < 0) (hby : n.toNatClampNeg * 8 ≤ 536870912) (hc1 : k0 + 1 ≤ rm.cells) (hn1 : n0 + n.toNatClampNeg ≤ rm.slots) (hd : decode cc pc = .ok (.newarray .long, 2)) (kk : ∀ (q : Nat) (ca : ClassId) (Y2 : xg_Y) (h2 : xg_H), q ∉ Y.1 → Y2 = xg_nY Y q 23 n.toNatClampNeg ca → h2 = xg_nh h q → xg_W X (k0 + 1) (n0 + n.toNatClampNeg) Y2 (pc + 2) lv (va_rf (some q) :: st) h2) : xg_W X k0 n0 Y pc lv (.int n :: st) h := by
  obtain ⟨p, l, e, R, s, m, args, below, meth, c, Q, D, cA, zs, A, nL⟩ := X
  obtain ⟨hx, hb, hml, hown, hts, hA, hlk, hR, hSt, hNw⟩ := C
  intro H locs ls hK hP hD hS hl
  subst hR
  refine va_newa (atype := .long) (ty := .long) (a0 := (n.toNatClampNeg, .inr (.inl (fun _ => 0)))) hx hb (hts _ harr) rfl hK hP hD hS hA (fun cA => rfl) hn rfl hby hc1 hn1 hd (fun q ca H1 hK1 hP1 hD1 hS1 => ?_)
  have hq : q ∉ Y.1 := xg_fresh hD1
  have he : xg_E (xg_nY Y q 23 n.toNatClampNeg ca) (xg_nh h q) q = .inl (ca, n.toNatClampNeg, .inr (.inl (fun _ => 0))) := by
    rw [xg_E_long xg_is_new]; simp [xg_c, xg_n, xg_nY, xg_nh, va_up]
  rw [xg_push hq he] at hP1 hD1
  exact kk q ca _ _ hq rfl rfl H1 locs ls (by rw [xg_ty_arr hq (by decide)]; exact hK1) hP1 hD1 hS1 hl
theorem xg_newq {X : xg_X} {k0 n0 : Nat} {Y : xg_Y} {own : String} {cc : ByteArray} {Ts : List Cond} {rm : Room} {pc : Nat} {lv : List (Nat × Value)} {st : List Value} {h : xg_H} {n : Int32} {i : Nat} {C1 : String} {c9 : Nat} (C : xg_ok X cc own Ts rm) (hcl2 : Cond.classLink own i C1 ∈ Ts) (hov : C1 ∈ xg_ao) (h25 : 25 ≤ c9) (hft : xg_ft c9 = .object C1) (hn : ¬ n < 0) (hby : n.toNatClampNeg * 4 ≤ 536870912) (hc1 : k0 + 1 ≤ rm.cells) (hn1 : n0 + n.toNatClampNeg ≤ rm.slots) (hd : decode cc pc = .ok (.anewarray i, 3)) (kk : ∀ (q : Nat) (ca : ClassId) (Y2 : xg_Y) (h2 : xg_H), q ∉ Y.1 → Y2 = xg_nY Y q c9 n.toNatClampNeg ca → h2 = xg_nh h q → xg_W X (k0 + 1) (n0 + n.toNatClampNeg) Y2 (pc + 3) lv (va_rf (some q) :: st) h2) : xg_W X k0 n0 Y pc lv (.int n :: st) h := by
  obtain ⟨p, l, e, R, s, m, args, below, meth, c, Q, D, cA, zs, A, nL⟩ := X
  obtain ⟨hx, hb, hml, hown, hts, hA, hlk, hR, hSt, hNw⟩ := C
  intro H locs ls hK hP hD hS hl
  subst hR
  refine va_newq (C := C1) hx hb hown (hts _ hcl2) (hNw.2.1 _ hov) hK hP hD hS hA hn rfl hby hc1 hn1 hd (fun q ca H1 hK1 hP1 hD1 hS1 => ?_)
  have hq : q ∉ Y.1 := xg_fresh hD1
  have he : xg_E (xg_nY Y q c9 n.toNatClampNeg ca) (xg_nh h q) q = .inl (ca, n.toNatClampNeg, .inr (.inr (.inr (.inr (fun _ => none))))) := by
    rw [xg_E_ref xg_is_new h25]; simp [xg_c, xg_n, xg_nY, xg_nh, va_up]
  rw [xg_push hq he] at hP1 hD1
  exact kk q ca _ _ hq rfl rfl H1 locs ls (by rw [xg_ty_arr hq (by omega), hft]; exact hK1) hP1 hD1 hS1 hl
theorem xg_objinit {X : xg_X} {k0 n0 : Nat} {Y : xg_Y} {own : String} {cc : ByteArray} {Ts : List Cond} {rm : Room} {pc : Nat} {lv : List (Nat × Value)} {st : List Value} {h : xg_H} {i a : Nat} {r : Option Nat} (C : xg_ok X cc own Ts rm) (hr : r = some a) (hl2 : Cond.methodLink own i objectInit ∈ Ts) (hi2 : Cond.instanceMethod objectInit ∈ Ts) (hco : Cond.code objectInit ⟨#[0xb1]⟩ 1 none ∈ Ts) (hfr : 1 ≤ rm.frames) (hlo : (st.map fun v => v.category).sum + 12 ≤ rm.locals) (hd : decode cc pc = .ok (.invokespecial i, 3)) (kk : xg_W X k0 n0 Y (pc + 3) lv st h) : xg_W X k0 n0 Y pc lv (va_rf r :: st) h := by
  obtain ⟨p, l, e, R, s, m, args, below, meth, c, Q, D, cA, zs, A, nL⟩ := X
  obtain ⟨hx, hb, hml, hown, hts, hA, hlk, hR, hSt, hNw⟩ := C
  intro H locs ls hK hP hD hS hl
  subst hR
  subst hr
  refine W.objInit hx hb hown (hts _ hl2) (hts _ hi2) (hts _ hco) rfl (hl.1.trans hml.symm) rfl hd hfr (by simpa [JFrame.monitorRoom] using hlo) ?_
  exact kk H locs ls hK hP hD hS hl
theorem xg_mmaxl {X : xg_X} {k0 n0 : Nat} {Y : xg_Y} {own : String} {cc : ByteArray} {Ts : List Cond} {rm : Room} {pc : Nat} {lv : List (Nat × Value)} {st : List Value} {h : xg_H} {i : Nat} {x y : Int64} (C : xg_ok X cc own Ts rm) (hlk2 : Cond.methodLink own i Lib.MathLoose.max_long.x ∈ Ts) (hst2 : Cond.static Lib.MathLoose.max_long.x ∈ Ts) (hin2 : Cond.initialized "java/lang/Math" ∈ Ts) (hco : Cond.code Lib.MathLoose.max_long.x Lib.MathLoose.max_long.code 4 (some .long) ∈ Ts) (hfr : 1 ≤ rm.frames) (hlo : (st.map fun v => v.category).sum + 15 ≤ rm.locals) (hc0 : k0 ≤ rm.cells) (hn0 : n0 ≤ rm.slots) (hd : decode cc pc = .ok (.invokestatic i, 3)) (kk : xg_W X k0 n0 Y (pc + 3) lv (.long (if y < x then x else y) :: st) h) : xg_W X k0 n0 Y pc lv (.long y :: .long x :: st) h := by
  obtain ⟨p, l, e, R, s, m, args, below, meth, c, Q, D, cA, zs, A, nL⟩ := X
  obtain ⟨hx, hb, hml, hown, hts, hA, hlk, hR, hSt, hNw⟩ := C
  intro H locs ls hK hP hD hS hl
  subst hR
  exact va_mmax_long hx hb (hml.trans hl.1.symm) hown (hts _ hlk2) (hts _ hst2) (hts _ hin2) (hts _ hco) hfr hlo hc0 hn0 hd (kk H locs ls hK hP hD hS hl)
def xg_NI (y : MethodName) (ws : List Cond) (rm : Room) (Y : xg_Y) (av : List Value) (wp : (Int32 → xg_Y → xg_H → Prop) → xg_H → Prop) : Prop := ∀ (l : Launch) (D : va_G) (zs : Nat → Nat) (h : xg_H) (sz : Nat) (Q : Int32 → xg_Y → xg_H → Prop), wp Q h → Met l y ws rm (va_Pc av (xg_Pre D zs Y h sz)) (va_Qi (S := xg_Y × xg_H) (fun r u => Q r u.1 u.2) (fun u => xg_B D (xg_A Y h sz) u.1 u.2) (xg_A Y h sz)) rm.cells rm.slots (xg_A Y h sz)
def xg_GI (X : xg_X) (ty : FieldType) (rm : Room) (Qr : Int32 → xg_Y → xg_H → Prop) : Prop := match X with
  | (_, _, _, _, s, _, args, below, meth, _, Q, D, _, _, A, _) => Q = MQ below (va_Qi (S := xg_Y × xg_H) (fun r u => Qr r u.1 u.2) (fun u => xg_B D A u.1 u.2) A) args s rm.cells rm.slots A ∧ meth.sig.returnType = some ty
theorem xg_beginI {y : MethodName} {ws ws2 : List Cond} {rm : Room} {cc : ByteArray} {maxL : Nat} {own : String} {Y : xg_Y} {ty : FieldType} {av : List Value} {wp : (Int32 → xg_Y → xg_H → Prop) → xg_H → Prop} (hy : plainName y.cls = true) (hcls : y.cls = own) (hw : ws = Cond.code y cc maxL (some ty) :: ws2) (hlen : (lg_sl av).length ≤ maxL) (body : ∀ (X : xg_X) (Q : Int32 → xg_Y → xg_H → Prop) (h : xg_H), xg_ok X cc own ws rm → xg_nL X maxL → xg_GI X ty rm Q → wp Q h → xg_W X 0 0 Y 0 (lv_args 0 av) [] h) : xg_NI y ws rm Y av wp := by
  intro l D zs h sz Q hwp
  refine Met.ofW (cc := cc) (maxL := maxL) (ret := (some ty)) hy hw ?_
  intro p e s m args below meth c s₁ B hml hv
  obtain ⟨rfl, hsz, hP, hK, hD0, hSt, hNw⟩ := hv
  have hown : s.vm.findClass own = some m.cls := hcls ▸ findClass_of_methodNamed B.named
  have hts := atoms_spec (ws := ws) B.pre
  subst hsz
  have hD := hD0.self (sz := s.heap.size)
  have hA : ∀ q : Nat, s.heap.size ≤ q → xg_A Y h s.heap.size q := fun q h => Or.inr h
  have hS : va_S (xg_A Y h s.heap.size) s.heap s.heap [] := va_S.rf
  have hl := lv_entry av (n := maxL) hlen
  rw [lg_entry_eq]
  exact body (p, l, e, rm, s, m, av.toArray, below, meth, c, _, D, (fun _ => 0), zs, xg_A Y h s.heap.size, maxL) Q h ⟨B.exec, B.bytes, hml, hown, hts, hA, B.notSynchronized, rfl, hSt, hNw⟩ rfl ⟨rfl, B.returns⟩ hwp s.heap [] _ hK hP hD hS hl
def xg_NL (y : MethodName) (ws : List Cond) (rm : Room) (Y : xg_Y) (av : List Value) (wp : (Int64 → xg_Y → xg_H → Prop) → xg_H → Prop) : Prop := ∀ (l : Launch) (D : va_G) (zs : Nat → Nat) (h : xg_H) (sz : Nat) (Q : Int64 → xg_Y → xg_H → Prop), wp Q h → Met l y ws rm (va_Pc av (xg_Pre D zs Y h sz)) (va_Ql (S := xg_Y × xg_H) (fun r u => Q r u.1 u.2) (fun u => xg_B D (xg_A Y h sz) u.1 u.2) (xg_A Y h sz)) rm.cells rm.slots (xg_A Y h sz)
def xg_GL (X : xg_X) (rm : Room) (Qr : Int64 → xg_Y → xg_H → Prop) : Prop := match X with
  | (_, _, _, _, s, _, args, below, meth, _, Q, D, _, _, A, _) => Q = MQ below (va_Ql (S := xg_Y × xg_H) (fun r u => Qr r u.1 u.2) (fun u => xg_B D A u.1 u.2) A) args s rm.cells rm.slots A ∧ meth.sig.returnType = some .long
theorem xg_beginL {y : MethodName} {ws ws2 : List Cond} {rm : Room} {cc : ByteArray} {maxL : Nat} {own : String} {Y : xg_Y} {av : List Value} {wp : (Int64 → xg_Y → xg_H → Prop) → xg_H → Prop} (hy : plainName y.cls = true) (hcls : y.cls = own) (hw : ws = Cond.code y cc maxL (some .long) :: ws2) (hlen : (lg_sl av).length ≤ maxL) (body : ∀ (X : xg_X) (Q : Int64 → xg_Y → xg_H → Prop) (h : xg_H), xg_ok X cc own ws rm → xg_nL X maxL → xg_GL X rm Q → wp Q h → xg_W X 0 0 Y 0 (lv_args 0 av) [] h) : xg_NL y ws rm Y av wp := by
  intro l D zs h sz Q hwp
  refine Met.ofW (cc := cc) (maxL := maxL) (ret := (some .long)) hy hw ?_
  intro p e s m args below meth c s₁ B hml hv
  obtain ⟨rfl, hsz, hP, hK, hD0, hSt, hNw⟩ := hv
  have hown : s.vm.findClass own = some m.cls := hcls ▸ findClass_of_methodNamed B.named
  have hts := atoms_spec (ws := ws) B.pre
  subst hsz
  have hD := hD0.self (sz := s.heap.size)
  have hA : ∀ q : Nat, s.heap.size ≤ q → xg_A Y h s.heap.size q := fun q h => Or.inr h
  have hS : va_S (xg_A Y h s.heap.size) s.heap s.heap [] := va_S.rf
  have hl := lv_entry av (n := maxL) hlen
  rw [lg_entry_eq]
  exact body (p, l, e, rm, s, m, av.toArray, below, meth, c, _, D, (fun _ => 0), zs, xg_A Y h s.heap.size, maxL) Q h ⟨B.exec, B.bytes, hml, hown, hts, hA, B.notSynchronized, rfl, hSt, hNw⟩ rfl ⟨rfl, B.returns⟩ hwp s.heap [] _ hK hP hD hS hl
def xg_NR (y : MethodName) (ws : List Cond) (rm : Room) (Y : xg_Y) (av : List Value) (wp : (Option Nat → xg_Y → xg_H → Prop) → xg_H → Prop) : Prop := ∀ (l : Launch) (D : va_G) (zs : Nat → Nat) (h : xg_H) (sz : Nat) (Q : Option Nat → xg_Y → xg_H → Prop), wp Q h → Met l y ws rm (va_Pc av (xg_Pre D zs Y h sz)) (va_Qq (S := xg_Y × xg_H) (fun r u => Q r u.1 u.2) (fun u => xg_B D (xg_A Y h sz) u.1 u.2) (xg_A Y h sz)) rm.cells rm.slots (xg_A Y h sz)
def xg_GR (X : xg_X) (ty : FieldType) (rm : Room) (Qr : Option Nat → xg_Y → xg_H → Prop) : Prop := match X with
  | (_, _, _, _, s, _, args, below, meth, _, Q, D, _, _, A, _) => Q = MQ below (va_Qq (S := xg_Y × xg_H) (fun r u => Qr r u.1 u.2) (fun u => xg_B D A u.1 u.2) A) args s rm.cells rm.slots A ∧ meth.sig.returnType = some ty
theorem xg_beginR {y : MethodName} {ws ws2 : List Cond} {rm : Room} {cc : ByteArray} {maxL : Nat} {own : String} {Y : xg_Y} {ty : FieldType} {av : List Value} {wp : (Option Nat → xg_Y → xg_H → Prop) → xg_H → Prop} (hy : plainName y.cls = true) (hcls : y.cls = own) (hw : ws = Cond.code y cc maxL (some ty) :: ws2) (hlen : (lg_sl av).length ≤ maxL) (body : ∀ (X : xg_X) (Q : Option Nat → xg_Y → xg_H → Prop) (h : xg_H), xg_ok X cc own ws rm → xg_nL X maxL → xg_GR X ty rm Q → wp Q h → xg_W X 0 0 Y 0 (lv_args 0 av) [] h) : xg_NR y ws rm Y av wp := by
  intro l D zs h sz Q hwp
  refine Met.ofW (cc := cc) (maxL := maxL) (ret := (some ty)) hy hw ?_
  intro p e s m args below meth c s₁ B hml hv
  obtain ⟨rfl, hsz, hP, hK, hD0, hSt, hNw⟩ := hv
  have hown : s.vm.findClass own = some m.cls := hcls ▸ findClass_of_methodNamed B.named
  have hts := atoms_spec (ws := ws) B.pre
  subst hsz
  have hD := hD0.self (sz := s.heap.size)
  have hA : ∀ q : Nat, s.heap.size ≤ q → xg_A Y h s.heap.size q := fun q h => Or.inr h
  have hS : va_S (xg_A Y h s.heap.size) s.heap s.heap [] := va_S.rf
  have hl := lv_entry av (n := maxL) hlen
  rw [lg_entry_eq]
  exact body (p, l, e, rm, s, m, av.toArray, below, meth, c, _, D, (fun _ => 0), zs, xg_A Y h s.heap.size, maxL) Q h ⟨B.exec, B.bytes, hml, hown, hts, hA, B.notSynchronized, rfl, hSt, hNw⟩ rfl ⟨rfl, B.returns⟩ hwp s.heap [] _ hK hP hD hS hl
def xg_NV (y : MethodName) (ws : List Cond) (rm : Room) (Y : xg_Y) (av : List Value) (wp : (xg_Y → xg_H → Prop) → xg_H → Prop) : Prop := ∀ (l : Launch) (D : va_G) (zs : Nat → Nat) (h : xg_H) (sz : Nat) (Q : xg_Y → xg_H → Prop), wp Q h → Met l y ws rm (va_Pc av (xg_Pre D zs Y h sz)) (va_Qv (S := xg_Y × xg_H) (fun u => Q u.1 u.2) (fun u => xg_B D (xg_A Y h sz) u.1 u.2) (xg_A Y h sz)) rm.cells rm.slots (xg_A Y h sz)
def xg_GV (X : xg_X) (rm : Room) (Qr : xg_Y → xg_H → Prop) : Prop := match X with
  | (_, _, _, _, s, _, args, below, meth, _, Q, D, _, _, A, _) => Q = MQ below (va_Qv (S := xg_Y × xg_H) (fun u => Qr u.1 u.2) (fun u => xg_B D A u.1 u.2) A) args s rm.cells rm.slots A ∧ meth.sig.returnType = none
theorem xg_beginV {y : MethodName} {ws ws2 : List Cond} {rm : Room} {cc : ByteArray} {maxL : Nat} {own : String} {Y : xg_Y} {av : List Value} {wp : (xg_Y → xg_H → Prop) → xg_H → Prop} (hy : plainName y.cls = true) (hcls : y.cls = own) (hw : ws = Cond.code y cc maxL none :: ws2) (hlen : (lg_sl av).length ≤ maxL) (body : ∀ (X : xg_X) (Q : xg_Y → xg_H → Prop) (h : xg_H), xg_ok X cc own ws rm → xg_nL X maxL → xg_GV X rm Q → (y.name = "<init>" → xg_init X) → wp Q h → xg_W X 0 0 Y 0 (lv_args 0 av) [] h) : xg_NV y ws rm Y av wp := by
  intro l D zs h sz Q hwp
  refine Met.ofW (cc := cc) (maxL := maxL) (ret := none) hy hw ?_
  intro p e s m args below meth c s₁ B hml hv
  obtain ⟨rfl, hsz, hP, hK, hD0, hSt, hNw⟩ := hv
  have hown : s.vm.findClass own = some m.cls := hcls ▸ findClass_of_methodNamed B.named
  have hts := atoms_spec (ws := ws) B.pre
  subst hsz
  have hD := hD0.self (sz := s.heap.size)
  have hA : ∀ q : Nat, s.heap.size ≤ q → xg_A Y h s.heap.size q := fun q h => Or.inr h
  have hS : va_S (xg_A Y h s.heap.size) s.heap s.heap [] := va_S.rf
  have hl := lv_entry av (n := maxL) hlen
  rw [lg_entry_eq]
  exact body (p, l, e, rm, s, m, av.toArray, below, meth, c, _, D, (fun _ => 0), zs, xg_A Y h s.heap.size, maxL) Q h ⟨B.exec, B.bytes, hml, hown, hts, hA, B.notSynchronized, rfl, hSt, hNw⟩ rfl ⟨rfl, B.returns⟩ (fun hyn => ((name_of_methodNamed B.named B.method).1).trans hyn) hwp s.heap [] _ hK hP hD hS hl
theorem xg_endI {X : xg_X} {k0 n0 : Nat} {Y : xg_Y} {own : String} {cc : ByteArray} {Ts : List Cond} {rm : Room} {pc : Nat} {lv : List (Nat × Value)} {h : xg_H} {v : Int32} {Qr : Int32 → xg_Y → xg_H → Prop} (C : xg_ok X cc own Ts rm) (E : xg_GI X .int rm Qr) (hk : k0 ≤ rm.cells ∧ n0 ≤ rm.slots) (hd : decode cc pc = .ok (.ireturn, 1)) (hq : Qr v Y h) : xg_W X k0 n0 Y pc lv [.int v] h := by
  refine xg_widen hk.1 hk.2 ?_
  obtain ⟨p, l, e, R, s, m, args, below, meth, c, Q, D, cA, zs, A, nL⟩ := X
  obtain ⟨hx, hb, hml, hown, hts, hA, hlk, hR, hSt, hNw⟩ := C
  intro H locs ls hK hP hD hS hl
  obtain ⟨hQ, hr⟩ := E
  have hQ2 : Q = _ := hQ
  subst hQ2
  exact W.iret (hlocks := hlk) hx hb hr (fun t ht hW => ⟨⟨v, (Y, h), rfl, hq, by rw [ht]; exact hP, va_K.moved hW.alike hK, hD⟩, hS.F ht⟩) hS.2.2 hd
theorem xg_endZ {X : xg_X} {k0 n0 : Nat} {Y : xg_Y} {own : String} {cc : ByteArray} {Ts : List Cond} {rm : Room} {pc : Nat} {lv : List (Nat × Value)} {h : xg_H} {v : Int32} {Qr : Int32 → xg_Y → xg_H → Prop} (C : xg_ok X cc own Ts rm) (E : xg_GI X .boolean rm Qr) (hv : mg_b v) (hk : k0 ≤ rm.cells ∧ n0 ≤ rm.slots) (hd : decode cc pc = .ok (.ireturn, 1)) (hq : Qr v Y h) : xg_W X k0 n0 Y pc lv [.int v] h := by
  refine xg_widen hk.1 hk.2 ?_
  obtain ⟨p, l, e, R, s, m, args, below, meth, c, Q, D, cA, zs, A, nL⟩ := X
  obtain ⟨hx, hb, hml, hown, hts, hA, hlk, hR, hSt, hNw⟩ := C
  intro H locs ls hK hP hD hS hl
  obtain ⟨hQ, hr⟩ := E
  have hQ2 : Q = _ := hQ
  subst hQ2
  exact W.zret (hlocks := hlk) hx hb hr (mg_nb hv).1 (fun t ht hW => ⟨⟨v, (Y, h), rfl, hq, by rw [ht]; exact hP, va_K.moved hW.alike hK, hD⟩, hS.F ht⟩) hS.2.2 hd
theorem xg_endL {X : xg_X} {k0 n0 : Nat} {Y : xg_Y} {own : String} {cc : ByteArray} {Ts : List Cond} {rm : Room} {pc : Nat} {lv : List (Nat × Value)} {h : xg_H} {v : Int64} {Qr : Int64 → xg_Y → xg_H → Prop} (C : xg_ok X cc own Ts rm) (E : xg_GL X rm Qr) (hk : k0 ≤ rm.cells ∧ n0 ≤ rm.slots) (hd : decode cc pc = .ok (.lreturn, 1)) (hq : Qr v Y h) : xg_W X k0 n0 Y pc lv [.long v] h := by
  refine xg_widen hk.1 hk.2 ?_
  obtain ⟨p, l, e, R, s, m, args, below, meth, c, Q, D, cA, zs, A, nL⟩ := X
  obtain ⟨hx, hb, hml, hown, hts, hA, hlk, hR, hSt, hNw⟩ := C
  intro H locs ls hK hP hD hS hl
  obtain ⟨hQ, hr⟩ := E
  have hQ2 : Q = _ := hQ
  subst hQ2
  exact W.lret (hlocks := hlk) hx hb hr (fun t ht hW => ⟨⟨v, (Y, h), rfl, hq, by rw [ht]; exact hP, va_K.moved hW.alike hK, hD⟩, hS.F ht⟩) hS.2.2 hd
theorem xg_endR {X : xg_X} {k0 n0 : Nat} {Y : xg_Y} {own : String} {cc : ByteArray} {Ts : List Cond} {rm : Room} {pc : Nat} {lv : List (Nat × Value)} {h : xg_H} {v : Option Nat} {ty : FieldType} {Qr : Option Nat → xg_Y → xg_H → Prop} (C : xg_ok X cc own Ts rm) (E : xg_GR X ty rm Qr) (hv : (∃ n, ty = .object n) ∨ ∃ t, ty = .array t) (hk : k0 ≤ rm.cells ∧ n0 ≤ rm.slots) (hd : decode cc pc = .ok (.areturn, 1)) (hq : Qr v Y h) : xg_W X k0 n0 Y pc lv [va_rf v] h := by
  refine xg_widen hk.1 hk.2 ?_
  obtain ⟨p, l, e, R, s, m, args, below, meth, c, Q, D, cA, zs, A, nL⟩ := X
  obtain ⟨hx, hb, hml, hown, hts, hA, hlk, hR, hSt, hNw⟩ := C
  intro H locs ls hK hP hD hS hl
  obtain ⟨hQ, hr⟩ := E
  have hQ2 : Q = _ := hQ
  subst hQ2
  exact W.aret (hlocks := hlk) hx hb hr hv (by cases v with
    | none => exact Or.inl rfl
    | some a => exact Or.inr ⟨a, rfl⟩) (fun t ht hW => ⟨⟨v, (Y, h), rfl, hq, by rw [ht]; exact hP, va_K.moved hW.alike hK, hD⟩, hS.F ht⟩) hS.2.2 hd
theorem xg_endV {X : xg_X} {k0 n0 : Nat} {Y : xg_Y} {own : String} {cc : ByteArray} {Ts : List Cond} {rm : Room} {pc : Nat} {lv : List (Nat × Value)} {h : xg_H} {Qr : xg_Y → xg_H → Prop} (C : xg_ok X cc own Ts rm) (E : xg_GV X rm Qr) (hk : k0 ≤ rm.cells ∧ n0 ≤ rm.slots) (hd : decode cc pc = .ok (.return_, 1)) (hq : Qr Y h) : xg_W X k0 n0 Y pc lv [] h := by
  refine xg_widen hk.1 hk.2 ?_
  obtain ⟨p, l, e, R, s, m, args, below, meth, c, Q, D, cA, zs, A, nL⟩ := X
  obtain ⟨hx, hb, hml, hown, hts, hA, hlk, hR, hSt, hNw⟩ := C
  intro H locs ls hK hP hD hS hl
  obtain ⟨hQ, hr⟩ := E
  have hQ2 : Q = _ := hQ
  subst hQ2
  exact W.vret (hlocks := hlk) hx hb hr (fun t ht hW => ⟨⟨(Y, h), rfl, hq, by rw [ht]; exact hP, va_K.moved hW.alike hK, hD⟩, hS.F ht⟩) hS.2.2 hd
theorem xg_dvI {X : xg_X} {k0 n0 : Nat} {Y : xg_Y} {own : String} {cc : ByteArray} {Ts : List Cond} {rm : Room} {pc : Nat} {lv : List (Nat × Value)} {st : List Value} {h : xg_H} {C1 : String} {T1 : u_T} {a ci N1 : Nat} {r9 : Option Nat} {y : MethodName} {ws ws2 : List Cond} {rmN : Room} {bytes : ByteArray} {maxL n idx : Nat} {ret : Option FieldType} {stk : List Value} {Qr : Int32 → xg_Y → xg_H → Prop} {wp : (Int32 → xg_Y → xg_H → Prop) → xg_H → Prop} (C : xg_ok X cc own Ts rm) (As : List Value) (hr9 : r9 = some a) (hk : xg_is Y a ci) (hci : ci < 20) (hcl : vwCl[ci]? = some (C1, T1, N1)) (hM : xg_NI y ws rmN Y (va_rf (some a) :: As) wp) (hg : GoodIn Ts (wsV own idx C1 y ws)) (hw : ws = Cond.code y bytes maxL ret :: ws2) (hd2 : y.cls = C1 ∧ y.cls ≠ "java/lang/invoke/MethodHandle" ∧ y.cls ≠ "java/lang/invoke/VarHandle" ∧ (parseMethodDescriptor y.desc).map (fun d => d.parameters.length) = some n) (hRm : rmN.frames + 1 ≤ rm.frames ∧ 8 + (maxL + 11) + rmN.locals ≤ rm.locals) (hn : As.length = n) (hst : stk = As.reverse ++ va_rf r9 :: st) (hcat : (st.map fun v => v.category).sum ≤ 8) (hfit : k0 + rmN.cells ≤ rm.cells ∧ n0 + rmN.slots ≤ rm.slots) (hd : decode cc pc = .ok (.invokevirtual idx, 3)) (hF : wp Qr h) (kk : ∀ (r : Int32) (Y2 : xg_Y) (h2 : xg_H), Qr r Y2 h2 → xg_W X (k0 + rmN.cells) (n0 + rmN.slots) Y2 (pc + 3) lv (.int r :: st) h2) : xg_W X k0 n0 Y pc lv stk h := by
  obtain ⟨p, l, e, R, s, m, args, below, meth, c, Q, D, cA, zs, A, nL⟩ := X
  obtain ⟨hx, hb, hml, hown, hts, hA, hlk, hR, hSt, hNw⟩ := C
  intro H locs ls hK hP hD hS hl
  have hFc : ∀ q, va_A (xg_ws Y h) H.size q → A q := fun q hq => hq.elim (fun ⟨k, e9, hk⟩ => hD.2 k _ hk) (fun hq => hA q (Nat.le_trans hS.1 hq))
  subst hR
  subst hst
  subst hr9
  obtain ⟨kr, hkr⟩ := xg_get (h := h) hk (xg_E_obj hk hci)
  refine va_calli (va_runV (As := As) (rest := st) ⟨hx, hb, hml, hown, hts⟩ (hM l D zs h H.size Qr hF) (cwV n hts hg hw rfl rfl hd2 hRm) ⟨xg_blind _ _ _ _ _ _, va_recv hK hP hcl hkr, fun U hU hW => ⟨rfl, by rw [hU], by rw [hU]; exact hP, va_K.moved hW.alike hK, hD.weaken (fun _ _ _ _ => trivial), by rw [hU]; exact ((hSt.kept hS.2.1).narrow hFc).moved hW.alike, xg_Nw.warm hW hNw⟩⟩ rfl hn hl.1 rfl (lv_room hcat) hd hfit) hS (fun q _ h9 => hFc q h9) hFc (fun r u t H1 locs1 ht hvm hw9 hB hz1 hk1 hS1 => ?_)
  obtain ⟨hP1, hK1, hD1⟩ := hB
  rw [ht] at hP1
  exact kk r u.1 u.2 hw9 H1 locs1 ls (va_K.moved hvm.symm hK1) hP1 ⟨hD1.1, fun k q hq => hFc _ (hD1.2 k q hq)⟩ hS1 hl
theorem xg_dvL {X : xg_X} {k0 n0 : Nat} {Y : xg_Y} {own : String} {cc : ByteArray} {Ts : List Cond} {rm : Room} {pc : Nat} {lv : List (Nat × Value)} {st : List Value} {h : xg_H} {C1 : String} {T1 : u_T} {a ci N1 : Nat} {r9 : Option Nat} {y : MethodName} {ws ws2 : List Cond} {rmN : Room} {bytes : ByteArray} {maxL n idx : Nat} {ret : Option FieldType} {stk : List Value} {Qr : Int64 → xg_Y → xg_H → Prop} {wp : (Int64 → xg_Y → xg_H → Prop) → xg_H → Prop} (C : xg_ok X cc own Ts rm) (As : List Value) (hr9 : r9 = some a) (hk : xg_is Y a ci) (hci : ci < 20) (hcl : vwCl[ci]? = some (C1, T1, N1)) (hM : xg_NL y ws rmN Y (va_rf (some a) :: As) wp) (hg : GoodIn Ts (wsV own idx C1 y ws)) (hw : ws = Cond.code y bytes maxL ret :: ws2) (hd2 : y.cls = C1 ∧ y.cls ≠ "java/lang/invoke/MethodHandle" ∧ y.cls ≠ "java/lang/invoke/VarHandle" ∧ (parseMethodDescriptor y.desc).map (fun d => d.parameters.length) = some n) (hRm : rmN.frames + 1 ≤ rm.frames ∧ 8 + (maxL + 11) + rmN.locals ≤ rm.locals) (hn : As.length = n) (hst : stk = As.reverse ++ va_rf r9 :: st) (hcat : (st.map fun v => v.category).sum ≤ 8) (hfit : k0 + rmN.cells ≤ rm.cells ∧ n0 + rmN.slots ≤ rm.slots) (hd : decode cc pc = .ok (.invokevirtual idx, 3)) (hF : wp Qr h) (kk : ∀ (r : Int64) (Y2 : xg_Y) (h2 : xg_H), Qr r Y2 h2 → xg_W X (k0 + rmN.cells) (n0 + rmN.slots) Y2 (pc + 3) lv (.long r :: st) h2) : xg_W X k0 n0 Y pc lv stk h := by
  obtain ⟨p, l, e, R, s, m, args, below, meth, c, Q, D, cA, zs, A, nL⟩ := X
  obtain ⟨hx, hb, hml, hown, hts, hA, hlk, hR, hSt, hNw⟩ := C
  intro H locs ls hK hP hD hS hl
  have hFc : ∀ q, va_A (xg_ws Y h) H.size q → A q := fun q hq => hq.elim (fun ⟨k, e9, hk⟩ => hD.2 k _ hk) (fun hq => hA q (Nat.le_trans hS.1 hq))
  subst hR
  subst hst
  subst hr9
  obtain ⟨kr, hkr⟩ := xg_get (h := h) hk (xg_E_obj hk hci)
  refine va_calll (va_runV (As := As) (rest := st) ⟨hx, hb, hml, hown, hts⟩ (hM l D zs h H.size Qr hF) (cwV n hts hg hw rfl rfl hd2 hRm) ⟨xg_blind _ _ _ _ _ _, va_recv hK hP hcl hkr, fun U hU hW => ⟨rfl, by rw [hU], by rw [hU]; exact hP, va_K.moved hW.alike hK, hD.weaken (fun _ _ _ _ => trivial), by rw [hU]; exact ((hSt.kept hS.2.1).narrow hFc).moved hW.alike, xg_Nw.warm hW hNw⟩⟩ rfl hn hl.1 rfl (lv_room hcat) hd hfit) hS (fun q _ h9 => hFc q h9) hFc (fun r u t H1 locs1 ht hvm hw9 hB hz1 hk1 hS1 => ?_)
  obtain ⟨hP1, hK1, hD1⟩ := hB
  rw [ht] at hP1
  exact kk r u.1 u.2 hw9 H1 locs1 ls (va_K.moved hvm.symm hK1) hP1 ⟨hD1.1, fun k q hq => hFc _ (hD1.2 k q hq)⟩ hS1 hl
theorem xg_dvR {X : xg_X} {k0 n0 : Nat} {Y : xg_Y} {own : String} {cc : ByteArray} {Ts : List Cond} {rm : Room} {pc : Nat} {lv : List (Nat × Value)} {st : List Value} {h : xg_H} {C1 : String} {T1 : u_T} {a ci N1 : Nat} {r9 : Option Nat} {y : MethodName} {ws ws2 : List Cond} {rmN : Room} {bytes : ByteArray} {maxL n idx : Nat} {ret : Option FieldType} {stk : List Value} {Qr : Option Nat → xg_Y → xg_H → Prop} {wp : (Option Nat → xg_Y → xg_H → Prop) → xg_H → Prop} (C : xg_ok X cc own Ts rm) (As : List Value) (hr9 : r9 = some a) (hk : xg_is Y a ci) (hci : ci < 20) (hcl : vwCl[ci]? = some (C1, T1, N1)) (hM : xg_NR y ws rmN Y (va_rf (some a) :: As) wp) (hg : GoodIn Ts (wsV own idx C1 y ws)) (hw : ws = Cond.code y bytes maxL ret :: ws2) (hd2 : y.cls = C1 ∧ y.cls ≠ "java/lang/invoke/MethodHandle" ∧ y.cls ≠ "java/lang/invoke/VarHandle" ∧ (parseMethodDescriptor y.desc).map (fun d => d.parameters.length) = some n) (hRm : rmN.frames + 1 ≤ rm.frames ∧ 8 + (maxL + 11) + rmN.locals ≤ rm.locals) (hn : As.length = n) (hst : stk = As.reverse ++ va_rf r9 :: st) (hcat : (st.map fun v => v.category).sum ≤ 8) (hfit : k0 + rmN.cells ≤ rm.cells ∧ n0 + rmN.slots ≤ rm.slots) (hd : decode cc pc = .ok (.invokevirtual idx, 3)) (hF : wp Qr h) (kk : ∀ (r : Option Nat) (Y2 : xg_Y) (h2 : xg_H), Qr r Y2 h2 → xg_W X (k0 + rmN.cells) (n0 + rmN.slots) Y2 (pc + 3) lv (va_rf r :: st) h2) : xg_W X k0 n0 Y pc lv stk h := by
  obtain ⟨p, l, e, R, s, m, args, below, meth, c, Q, D, cA, zs, A, nL⟩ := X
  obtain ⟨hx, hb, hml, hown, hts, hA, hlk, hR, hSt, hNw⟩ := C
  intro H locs ls hK hP hD hS hl
  have hFc : ∀ q, va_A (xg_ws Y h) H.size q → A q := fun q hq => hq.elim (fun ⟨k, e9, hk⟩ => hD.2 k _ hk) (fun hq => hA q (Nat.le_trans hS.1 hq))
  subst hR
  subst hst
  subst hr9
  obtain ⟨kr, hkr⟩ := xg_get (h := h) hk (xg_E_obj hk hci)
  refine va_callq (va_runV (As := As) (rest := st) ⟨hx, hb, hml, hown, hts⟩ (hM l D zs h H.size Qr hF) (cwV n hts hg hw rfl rfl hd2 hRm) ⟨xg_blind _ _ _ _ _ _, va_recv hK hP hcl hkr, fun U hU hW => ⟨rfl, by rw [hU], by rw [hU]; exact hP, va_K.moved hW.alike hK, hD.weaken (fun _ _ _ _ => trivial), by rw [hU]; exact ((hSt.kept hS.2.1).narrow hFc).moved hW.alike, xg_Nw.warm hW hNw⟩⟩ rfl hn hl.1 rfl (lv_room hcat) hd hfit) hS (fun q _ h9 => hFc q h9) hFc (fun r u t H1 locs1 ht hvm hw9 hB hz1 hk1 hS1 => ?_)
  obtain ⟨hP1, hK1, hD1⟩ := hB
  rw [ht] at hP1
  exact kk r u.1 u.2 hw9 H1 locs1 ls (va_K.moved hvm.symm hK1) hP1 ⟨hD1.1, fun k q hq => hFc _ (hD1.2 k q hq)⟩ hS1 hl
theorem xg_dvV {X : xg_X} {k0 n0 : Nat} {Y : xg_Y} {own : String} {cc : ByteArray} {Ts : List Cond} {rm : Room} {pc : Nat} {lv : List (Nat × Value)} {st : List Value} {h : xg_H} {C1 : String} {T1 : u_T} {a ci N1 : Nat} {r9 : Option Nat} {y : MethodName} {ws ws2 : List Cond} {rmN : Room} {bytes : ByteArray} {maxL n idx : Nat} {ret : Option FieldType} {stk : List Value} {Qr : xg_Y → xg_H → Prop} {wp : (xg_Y → xg_H → Prop) → xg_H → Prop} (C : xg_ok X cc own Ts rm) (As : List Value) (hr9 : r9 = some a) (hk : xg_is Y a ci) (hci : ci < 20) (hcl : vwCl[ci]? = some (C1, T1, N1)) (hM : xg_NV y ws rmN Y (va_rf (some a) :: As) wp) (hg : GoodIn Ts (wsV own idx C1 y ws)) (hw : ws = Cond.code y bytes maxL ret :: ws2) (hd2 : y.cls = C1 ∧ y.cls ≠ "java/lang/invoke/MethodHandle" ∧ y.cls ≠ "java/lang/invoke/VarHandle" ∧ (parseMethodDescriptor y.desc).map (fun d => d.parameters.length) = some n) (hRm : rmN.frames + 1 ≤ rm.frames ∧ 8 + (maxL + 11) + rmN.locals ≤ rm.locals) (hn : As.length = n) (hst : stk = As.reverse ++ va_rf r9 :: st) (hcat : (st.map fun v => v.category).sum ≤ 8) (hfit : k0 + rmN.cells ≤ rm.cells ∧ n0 + rmN.slots ≤ rm.slots) (hd : decode cc pc = .ok (.invokevirtual idx, 3)) (hF : wp Qr h) (kk : ∀ (Y2 : xg_Y) (h2 : xg_H), Qr Y2 h2 → xg_W X (k0 + rmN.cells) (n0 + rmN.slots) Y2 (pc + 3) lv st h2) : xg_W X k0 n0 Y pc lv stk h := by
  obtain ⟨p, l, e, R, s, m, args, below, meth, c, Q, D, cA, zs, A, nL⟩ := X
  obtain ⟨hx, hb, hml, hown, hts, hA, hlk, hR, hSt, hNw⟩ := C
  intro H locs ls hK hP hD hS hl
  have hFc : ∀ q, va_A (xg_ws Y h) H.size q → A q := fun q hq => hq.elim (fun ⟨k, e9, hk⟩ => hD.2 k _ hk) (fun hq => hA q (Nat.le_trans hS.1 hq))
  subst hR
  subst hst
  subst hr9
  obtain ⟨kr, hkr⟩ := xg_get (h := h) hk (xg_E_obj hk hci)
  refine va_callv (va_runV (As := As) (rest := st) ⟨hx, hb, hml, hown, hts⟩ (hM l D zs h H.size Qr hF) (cwV n hts hg hw rfl rfl hd2 hRm) ⟨xg_blind _ _ _ _ _ _, va_recv hK hP hcl hkr, fun U hU hW => ⟨rfl, by rw [hU], by rw [hU]; exact hP, va_K.moved hW.alike hK, hD.weaken (fun _ _ _ _ => trivial), by rw [hU]; exact ((hSt.kept hS.2.1).narrow hFc).moved hW.alike, xg_Nw.warm hW hNw⟩⟩ rfl hn hl.1 rfl (lv_room hcat) hd hfit) hS (fun q _ h9 => hFc q h9) hFc (fun u t H1 locs1 ht hvm hw9 hB hz1 hk1 hS1 => ?_)
  obtain ⟨hP1, hK1, hD1⟩ := hB
  rw [ht] at hP1
  exact kk u.1 u.2 hw9 H1 locs1 ls (va_K.moved hvm.symm hK1) hP1 ⟨hD1.1, fun k q hq => hFc _ (hD1.2 k q hq)⟩ hS1 hl
theorem xg_diV {X : xg_X} {k0 n0 : Nat} {Y : xg_Y} {own : String} {cc : ByteArray} {Ts : List Cond} {rm : Room} {pc : Nat} {lv : List (Nat × Value)} {st : List Value} {h : xg_H} {a : Nat} {r9 : Option Nat} {y : MethodName} {ws ws2 : List Cond} {rmN : Room} {bytes : ByteArray} {maxL n idx : Nat} {stk : List Value} {Qr : xg_Y → xg_H → Prop} {wp : (xg_Y → xg_H → Prop) → xg_H → Prop} (C : xg_ok X cc own Ts rm) (As : List Value) (hr9 : r9 = some a) (hini : Cond.initialized y.cls ∈ Ts) (hl2 : Cond.methodLink own idx y ∈ Ts) (hi2 : Cond.instanceMethod y ∈ Ts) (hyn : y.name = "<init>") (hM : xg_NV y ws rmN Y (va_rf (some a) :: As) wp) (hg : GoodIn Ts ws) (hw : ws = Cond.code y bytes maxL none :: ws2) (hd2 : y.cls ≠ "java/lang/invoke/MethodHandle" ∧ y.cls ≠ "java/lang/invoke/VarHandle" ∧ (parseMethodDescriptor y.desc).map (fun d => d.parameters.length) = some n) (hRm : rmN.frames + 1 ≤ rm.frames ∧ 8 + (maxL + 11) + rmN.locals ≤ rm.locals) (hn : As.length = n) (hst : stk = As.reverse ++ va_rf r9 :: st) (hcat : (st.map fun v => v.category).sum ≤ 8) (hfit : k0 + rmN.cells ≤ rm.cells ∧ n0 + rmN.slots ≤ rm.slots) (hd : decode cc pc = .ok (.invokespecial idx, 3)) (hF : wp Qr h) (kk : ∀ (Y2 : xg_Y) (h2 : xg_H), Qr Y2 h2 → xg_W X (k0 + rmN.cells) (n0 + rmN.slots) Y2 (pc + 3) lv st h2) : xg_W X k0 n0 Y pc lv stk h := by
  obtain ⟨p, l, e, R, s, m, args, below, meth, c, Q, D, cA, zs, A, nL⟩ := X
  obtain ⟨hx, hb, hml, hown, hts, hA, hlk, hR, hSt, hNw⟩ := C
  intro H locs ls hK hP hD hS hl
  have hFc : ∀ q, va_A (xg_ws Y h) H.size q → A q := fun q hq => hq.elim (fun ⟨k, e9, hk⟩ => hD.2 k _ hk) (fun hq => hA q (Nat.le_trans hS.1 hq))
  subst hR
  subst hst
  subst hr9
  refine va_callv (va_runI (As := As) (rest := st) ⟨hx, hb, hml, hown, hts⟩ (hM l D zs h H.size Qr hF) (cwI n hts hg hw rfl rfl (hts _ hini) (hts _ hl2) (hts _ hi2) hyn hd2 hRm) ⟨xg_blind _ _ _ _ _ _, fun U hU hW => ⟨rfl, by rw [hU], by rw [hU]; exact hP, va_K.moved hW.alike hK, hD.weaken (fun _ _ _ _ => trivial), by rw [hU]; exact ((hSt.kept hS.2.1).narrow hFc).moved hW.alike, xg_Nw.warm hW hNw⟩⟩ rfl hn hl.1 rfl (lv_room hcat) hd hfit) hS (fun q _ h9 => hFc q h9) hFc (fun u t H1 locs1 ht hvm hw9 hB hz1 hk1 hS1 => ?_)
  obtain ⟨hP1, hK1, hD1⟩ := hB
  rw [ht] at hP1
  exact kk u.1 u.2 hw9 H1 locs1 ls (va_K.moved hvm.symm hK1) hP1 ⟨hD1.1, fun k q hq => hFc _ (hD1.2 k q hq)⟩ hS1 hl
theorem xg_djV {X : xg_X} {k0 n0 : Nat} {Y : xg_Y} {own : String} {cc : ByteArray} {Ts : List Cond} {rm : Room} {pc : Nat} {lv : List (Nat × Value)} {st : List Value} {h : xg_H} {host : String} {a : Nat} {r9 : Option Nat} {y : MethodName} {ws ws2 : List Cond} {rmN : Room} {bytes : ByteArray} {maxL n idx : Nat} {stk : List Value} {Qr : xg_Y → xg_H → Prop} {wp : (xg_Y → xg_H → Prop) → xg_H → Prop} (C : xg_ok X cc own Ts rm) (As : List Value) (hr9 : r9 = some a) (hnw : Cond.methodLinkNest own idx y host ∈ xg_nw) (hini : Cond.initialized y.cls ∈ Ts) (hi2 : Cond.instanceMethod y ∈ Ts) (hyn : y.name = "<init>") (hM : xg_NV y ws rmN Y (va_rf (some a) :: As) wp) (hg : GoodIn Ts ws) (hw : ws = Cond.code y bytes maxL none :: ws2) (hd2 : y.cls ≠ "java/lang/invoke/MethodHandle" ∧ y.cls ≠ "java/lang/invoke/VarHandle" ∧ (parseMethodDescriptor y.desc).map (fun d => d.parameters.length) = some n) (hRm : rmN.frames + 1 ≤ rm.frames ∧ 8 + (maxL + 11) + rmN.locals ≤ rm.locals) (hn : As.length = n) (hst : stk = As.reverse ++ va_rf r9 :: st) (hcat : (st.map fun v => v.category).sum ≤ 8) (hfit : k0 + rmN.cells ≤ rm.cells ∧ n0 + rmN.slots ≤ rm.slots) (hd : decode cc pc = .ok (.invokespecial idx, 3)) (hF : wp Qr h) (kk : ∀ (Y2 : xg_Y) (h2 : xg_H), Qr Y2 h2 → xg_W X (k0 + rmN.cells) (n0 + rmN.slots) Y2 (pc + 3) lv st h2) : xg_W X k0 n0 Y pc lv stk h := by
  obtain ⟨p, l, e, R, s, m, args, below, meth, c, Q, D, cA, zs, A, nL⟩ := X
  obtain ⟨hx, hb, hml, hown, hts, hA, hlk, hR, hSt, hNw⟩ := C
  intro H locs ls hK hP hD hS hl
  have hFc : ∀ q, va_A (xg_ws Y h) H.size q → A q := fun q hq => hq.elim (fun ⟨k, e9, hk⟩ => hD.2 k _ hk) (fun hq => hA q (Nat.le_trans hS.1 hq))
  subst hR
  subst hst
  subst hr9
  refine va_callv (va_runIN (As := As) (rest := st) ⟨hx, hb, hml, hown, hts⟩ (hM l D zs h H.size Qr hF) (⟨va_cnB n hts hg hw rfl rfl (hNw.1 _ hnw) (hts _ hini) hd2 hRm, hyn, hts _ hi2⟩) ⟨xg_blind _ _ _ _ _ _, fun U hU hW => ⟨rfl, by rw [hU], by rw [hU]; exact hP, va_K.moved hW.alike hK, hD.weaken (fun _ _ _ _ => trivial), by rw [hU]; exact ((hSt.kept hS.2.1).narrow hFc).moved hW.alike, xg_Nw.warm hW hNw⟩⟩ rfl hn hl.1 rfl (lv_room hcat) hd hfit) hS (fun q _ h9 => hFc q h9) hFc (fun u t H1 locs1 ht hvm hw9 hB hz1 hk1 hS1 => ?_)
  obtain ⟨hP1, hK1, hD1⟩ := hB
  rw [ht] at hP1
  exact kk u.1 u.2 hw9 H1 locs1 ls (va_K.moved hvm.symm hK1) hP1 ⟨hD1.1, fun k q hq => hFc _ (hD1.2 k q hq)⟩ hS1 hl
