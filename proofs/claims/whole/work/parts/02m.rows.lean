/-! the reference: its state by cells and places. Cell 0: the object (places = slots); cell c: the array of slot c -/
/- slots: 0=code 1=tape[2400] 2=size[4] 3=fault[4] 4=faultPlace[4] 5=many[16] 6=shelves[104] 7=days[648] 8=logs[136] 9=orders[56] 10=reached 11=length 12=begins 13=sort 14=value 15=word 16=wrongAt 17=laterFault 18=laterPlace 19=told[81] 20=read[2] 21=farOne 22=good 23=shelf 24=glasses 25=some 26=first 27=sizeOf[4] 28=topOf[4] 29=day 30=minute 31=laid 32=ran 33=turns 34=firstRan 35=most 36=idle 37=ranBy[4] 38=ranAt[100] 39=behind 40=cost[126976] 41=rowSet[30] 42=rowAt[30] 43=rowLong 44=kept[126976] 45=order 46=idleThen[376832] 47=seenAt[4096] 48=minuteAt[4097] 49=waysTo[45056] 50=ends[65536] 51=which 52=log 53=found 54=asked 55=fullOnes 56=noneOnes 57=tellsOf[4] 58=loud[41] 59=seed 60=saved[3] -/
abbrev mg_H : Type := (Nat → Nat → Int32) × (Nat → Nat → Int64)
def mg_i (h : mg_H) (c j : Nat) : Int32 := h.1 c j
def mg_l (h : mg_H) (c j : Nat) : Int64 := h.2 c j
def mg_u {α : Type} (f : Nat → Nat → α) (a j : Nat) (v : α) : Nat → Nat → α := fun b k => if b = a ∧ k = j then v else f b k
def mg_ui (h : mg_H) (c j : Nat) (v : Int32) : mg_H := (mg_u h.1 c j v, h.2)
def mg_ul (h : mg_H) (c j : Nat) (v : Int64) : mg_H := (h.1, mg_u h.2 c j v)
def mg_b (v : Int32) : Prop := v = 0 ∨ v = 1
/-- the kind of a slot: 0 no array, 1 bytes, 2 ints, 3 longs, 4 booleans -/
def mg_kd : Nat → Nat
  | 1 => 1
  | 2 => 2
  | 3 => 2
  | 4 => 2
  | 5 => 2
  | 6 => 2
  | 7 => 2
  | 8 => 2
  | 9 => 2
  | 19 => 2
  | 20 => 2
  | 27 => 2
  | 28 => 2
  | 37 => 2
  | 38 => 2
  | 40 => 2
  | 41 => 2
  | 42 => 2
  | 44 => 2
  | 46 => 2
  | 47 => 2
  | 48 => 2
  | 49 => 3
  | 50 => 2
  | 57 => 2
  | 58 => 2
  | 60 => 4
  | _ => 0
def mg_len : Nat → Nat
  | 1 => 2400
  | 2 => 4
  | 3 => 4
  | 4 => 4
  | 5 => 16
  | 6 => 104
  | 7 => 648
  | 8 => 136
  | 9 => 56
  | 19 => 81
  | 20 => 2
  | 27 => 4
  | 28 => 4
  | 37 => 4
  | 38 => 100
  | 40 => 126976
  | 41 => 30
  | 42 => 30
  | 44 => 126976
  | 46 => 376832
  | 47 => 4096
  | 48 => 4097
  | 49 => 45056
  | 50 => 65536
  | 57 => 4
  | 58 => 41
  | 60 => 3
  | _ => 0
def mg_cs : List Nat := [0, 1, 2, 3, 4, 5, 6, 7, 8, 9, 19, 20, 27, 28, 37, 38, 40, 41, 42, 44, 46, 47, 48, 49, 50, 57, 58, 60]
def mg_fv (ad : Nat → Nat) (h : mg_H) (j : Nat) : Value := if mg_kd j = 0 then (if j = 15 then .long (h.2 0 j) else .int (h.1 0 j)) else .ref (ad j)
def mg_fs (ad : Nat → Nat) (h : mg_H) : List Value := (List.range 61).map (mg_fv ad h)
def mg_E (cA : Nat → ClassId) (ad : Nat → Nat) (h : mg_H) (c : Nat) : va_E := if mg_kd c = 0 then .inr (12, mg_fs ad h) else if mg_kd c = 3 then .inl (cA c, mg_len c, .inr (.inl (h.2 c))) else .inl (cA c, mg_len c, .inl (h.1 c))
def mg_ws (cA : Nat → ClassId) (ad : Nat → Nat) (h : mg_H) : va_W := mg_cs.map (fun c => (ad c, mg_E cA ad h c))
def mg_ft : Nat → FieldType
  | 1 => .byte
  | 2 => .int
  | 3 => .long
  | _ => .boolean
def mg_ty (cA : Nat → ClassId) : List (ClassId × FieldType) := (mg_cs.drop 1).map (fun c => (cA c, mg_ft (mg_kd c)))
abbrev mg_X : Type := Program × Launch × Env × Room × State × MethodId × Array Value × List Frame × Method × Code × (State → Prop) × va_G × (Nat → ClassId) × (Nat → Nat) × (Nat → Prop) × Nat
def mg_ad (X : mg_X) : Nat → Nat := match X with
  | (_, _, _, _, _, _, _, _, _, _, _, _, _, ad, _, _) => ad
/-- the machine at pc of the method, its locals lv, its stack st, the reference's state h -/
def mg_W (X : mg_X) (pc : Nat) (lv : List (Nat × Value)) (st : List Value) (h : mg_H) : Prop := match X with
  | (p, l, e, R, s, m, args, below, meth, c, Q, D, cA, ad, A, nL) => ∀ (H : Heap) (locs : List Loc) (ls : Array Slot), va_P D vwCl (mg_ws cA ad h) H → va_D A (mg_ws cA ad h) → va_S A s.heap H locs → lv_has ls nL lv → W p l e R s m args below meth c H locs 0 0 Q (F0 m pc ls st)
def mg_ok (X : mg_X) (cc : ByteArray) (Ts : List Cond) (rm : Room) : Prop := match X with
  | (p, _, _, R, s, m, args, _, meth, c, _, D, cA, _, A, nL) => p.tables.exec = Jvm.exec ∧ c.code = cc ∧ c.maxLocals = nL ∧ s.vm.findClass RX12 = some m.cls ∧ (∀ w ∈ Ts, w.before args s = true) ∧ va_K D vwCl (mg_ty cA) s ∧ (∀ q, s.heap.size ≤ q → A q) ∧ meth.locks = false ∧ R = rm
def mg_nL (X : mg_X) (n : Nat) : Prop := match X with
  | (_, _, _, _, _, _, _, _, _, _, _, _, _, _, _, nL) => nL = n
-- the world, read and written
theorem mg_cs_get : ∀ c, c ∈ mg_cs → ∃ k : Nat, mg_cs[k]? = some c := fun c h => by
  obtain ⟨k, hk⟩ := List.mem_iff_getElem?.mp h
  exact ⟨k, hk⟩
theorem mg_ws_get {cA : Nat → ClassId} {ad : Nat → Nat} {h : mg_H} {c k : Nat} (hk : mg_cs[k]? = some c) : (mg_ws cA ad h)[k]? = some (ad c, mg_E cA ad h c) := by
  rw [mg_ws, List.getElem?_map, hk]; rfl
theorem mg_cs_nd : ∀ i j : Nat, ∀ c : Nat, mg_cs[i]? = some c → mg_cs[j]? = some c → i = j := by
  have hn : mg_cs.Nodup := by decide
  intro i j c hi hj
  obtain ⟨hi1, hi2⟩ := List.getElem?_eq_some_iff.mp hi
  exact (List.getElem?_inj hi1 hn).mp (hi.trans hj.symm)
theorem mg_cs_kd : ∀ d, d ∈ mg_cs → d ≠ 0 → mg_kd d ≠ 0 := by decide
theorem mg_ws_set {cA : Nat → ClassId} {ad : Nat → Nat} {h h2 : mg_H} {c k : Nat} {e : va_E} (hk : mg_cs[k]? = some c) (he : mg_E cA ad h2 c = e) (ho : ∀ d, d ∈ mg_cs → d ≠ c → mg_E cA ad h2 d = mg_E cA ad h d) : (mg_ws cA ad h).set k (ad c, e) = mg_ws cA ad h2 := by
  apply List.ext_getElem?
  intro i
  rw [List.getElem?_set]
  by_cases hi : k = i
  · subst hi
    have hlt : k < (mg_ws cA ad h).length := by
      obtain ⟨h1, _⟩ := List.getElem?_eq_some_iff.mp (mg_ws_get (cA := cA) (ad := ad) (h := h) hk)
      exact h1
    rw [if_pos rfl, if_pos hlt, mg_ws_get hk, he]
  · rw [if_neg hi, mg_ws, mg_ws, List.getElem?_map, List.getElem?_map]
    cases hc : mg_cs[i]? with
    | none => rfl
    | some d =>
      have hne : d ≠ c := fun e2 => hi (mg_cs_nd k i c hk (by rw [hc, e2]))
      simp only [Option.map_some, ho d (List.mem_of_getElem? hc) hne]
theorem mg_fs_get {ad : Nat → Nat} {h : mg_H} {j : Nat} (hj : j < 61) : (mg_fs ad h)[j]? = some (mg_fv ad h j) := by
  rw [mg_fs, List.getElem?_map, List.getElem?_range hj]; rfl
theorem mg_fs_len {ad : Nat → Nat} {h : mg_H} : (mg_fs ad h).length = 61 := by rw [mg_fs, List.length_map, List.length_range]
theorem mg_fs_set {ad : Nat → Nat} {h h2 : mg_H} {j : Nat} {v : Value} (hv : mg_fv ad h2 j = v) (ho : ∀ k, k ≠ j → mg_fv ad h2 k = mg_fv ad h k) : (mg_fs ad h).set j v = mg_fs ad h2 := by
  apply List.ext_getElem?
  intro i
  rw [List.getElem?_set]
  by_cases hi : j = i
  · subst hi
    rw [if_pos rfl, mg_fs_len]
    by_cases h61 : j < 61
    · rw [if_pos h61, mg_fs_get h61, hv]
    · rw [if_neg h61, mg_fs, List.getElem?_map, List.getElem?_eq_none (by rw [List.length_range]; omega)]; rfl
  · rw [if_neg hi, mg_fs, mg_fs, List.getElem?_map, List.getElem?_map]
    by_cases h61 : i < 61
    · rw [List.getElem?_range h61]
      simp only [Option.map_some, ho i (fun e => hi e.symm)]
    · rw [List.getElem?_eq_none (by rw [List.length_range]; omega)]; rfl
theorem mg_E_obj {cA : Nat → ClassId} {ad : Nat → Nat} {h : mg_H} : mg_E cA ad h 0 = .inr (12, mg_fs ad h) := rfl
theorem mg_E_int {cA : Nat → ClassId} {ad : Nat → Nat} {h : mg_H} {c k : Nat} (hk : mg_kd c = k) (h0 : k ≠ 0) (h3 : k ≠ 3) : mg_E cA ad h c = .inl (cA c, mg_len c, .inl (h.1 c)) := by
  rw [mg_E, hk, if_neg h0, if_neg h3]
theorem mg_E_long {cA : Nat → ClassId} {ad : Nat → Nat} {h : mg_H} {c : Nat} (hk : mg_kd c = 3) : mg_E cA ad h c = .inl (cA c, mg_len c, .inr (.inl (h.2 c))) := by
  rw [mg_E, hk]; rfl
theorem mg_ui_E {cA : Nat → ClassId} {ad : Nat → Nat} {h : mg_H} {c j : Nat} {v : Int32} (h0 : mg_kd c ≠ 0) : ∀ d, d ≠ c → mg_E cA ad (mg_ui h c j v) d = mg_E cA ad h d := by
  intro d hd
  have hc0 : c ≠ 0 := fun e => h0 (by rw [e]; rfl)
  have e1 : (mg_ui h c j v).1 d = h.1 d := by funext k; simp [mg_ui, mg_u, hd]
  have e2 : (mg_ui h c j v).1 0 = h.1 0 := by funext k; simp [mg_ui, mg_u, hc0.symm]
  have e3 : mg_fs ad (mg_ui h c j v) = mg_fs ad h := by
    rw [mg_fs, mg_fs]; congr 1; funext k; rw [mg_fv, mg_fv, e2]; rfl
  rw [mg_E, mg_E, e1, e3]; rfl
theorem mg_ul_E {cA : Nat → ClassId} {ad : Nat → Nat} {h : mg_H} {c j : Nat} {v : Int64} (h0 : mg_kd c ≠ 0) : ∀ d, d ≠ c → mg_E cA ad (mg_ul h c j v) d = mg_E cA ad h d := by
  intro d hd
  have hc0 : c ≠ 0 := fun e => h0 (by rw [e]; rfl)
  have e1 : (mg_ul h c j v).2 d = h.2 d := by funext k; simp [mg_ul, mg_u, hd]
  have e2 : (mg_ul h c j v).2 0 = h.2 0 := by funext k; simp [mg_ul, mg_u, hc0.symm]
  have e3 : mg_fs ad (mg_ul h c j v) = mg_fs ad h := by
    rw [mg_fs, mg_fs]; congr 1; funext k; rw [mg_fv, mg_fv, e2]; rfl
  rw [mg_E, mg_E, e1, e3]; rfl
theorem mg_ui_row {h : mg_H} {c j : Nat} {v : Int32} : (mg_ui h c j v).1 c = upd (h.1 c) j v := by
  funext k; simp [mg_ui, mg_u, upd]
theorem mg_ul_row {h : mg_H} {c j : Nat} {v : Int64} : (mg_ul h c j v).2 c = vp_updL (h.2 c) j v := by
  funext k; simp [mg_ul, mg_u, vp_updL]
theorem mg_ui_0 {cA : Nat → ClassId} {ad : Nat → Nat} {h : mg_H} {j : Nat} {v : Int32} : ∀ d, d ∈ mg_cs → d ≠ 0 → mg_E cA ad (mg_ui h 0 j v) d = mg_E cA ad h d := by
  intro d hm hd
  have e1 : (mg_ui h 0 j v).1 d = h.1 d := by funext k; simp [mg_ui, mg_u, hd]
  have hk : mg_kd d ≠ 0 := mg_cs_kd d hm hd
  rw [mg_E, mg_E, e1, if_neg hk, if_neg hk]; rfl
theorem mg_cs_d : ∀ c, c ∈ mg_cs → mg_kd c ≠ 0 → c ∈ mg_cs.drop 1 := by decide
theorem mg_ty_get {cA : Nat → ClassId} {c kd : Nat} (hc : c ∈ mg_cs) (hk : mg_kd c = kd) (h0 : kd ≠ 0) : ∃ t : Nat, (mg_ty cA)[t]? = some (cA c, mg_ft kd) := by
  obtain ⟨t, ht⟩ := List.mem_iff_getElem?.mp (mg_cs_d c hc (hk ▸ h0))
  exact ⟨t, by rw [mg_ty, List.getElem?_map, ht, ← hk]; rfl⟩
theorem mg_ws_int {cA : Nat → ClassId} {ad : Nat → Nat} {h : mg_H} {c k kd : Nat} (hk2 : mg_cs[k]? = some c) (hk : mg_kd c = kd) (h0 : kd ≠ 0) (h3 : kd ≠ 3) : (mg_ws cA ad h)[k]? = some (ad c, .inl (cA c, mg_len c, .inl (h.1 c))) := by
  rw [mg_ws_get hk2, mg_E_int hk h0 h3]
theorem mg_ws_long {cA : Nat → ClassId} {ad : Nat → Nat} {h : mg_H} {c k : Nat} (hk2 : mg_cs[k]? = some c) (hk : mg_kd c = 3) : (mg_ws cA ad h)[k]? = some (ad c, .inl (cA c, mg_len c, .inr (.inl (h.2 c)))) := by
  rw [mg_ws_get hk2, mg_E_long hk]
theorem mg_iload_n {X : mg_X} {cc : ByteArray} {Ts : List Cond} {rm : Room} {pc : Nat} {lv : List (Nat × Value)} {st : List Value} {h : mg_H} {k : Fin 4} {x : Int32} (C : mg_ok X cc Ts rm) (hd : decode cc pc = .ok (.iload_n k, 1)) (j : Nat) (hj : lv[j]? = some ((k : Nat), .int x)) (kk : mg_W X (pc + 1) lv (.int x :: st) h) : mg_W X pc lv (st) h := by
  obtain ⟨p, l, e, R, s, m, args, below, meth, c, Q, D, cA, ad, A, nL⟩ := X
  obtain ⟨hx, hb, hml, hown, hts, hK, hA, hlk, hR⟩ := C
  intro H locs ls hP hD hS hl
  exact lv_iload_n hx hb hd rfl (lv_at hl j hj) (kk H locs ls hP hD hS hl)
theorem mg_iload {X : mg_X} {cc : ByteArray} {Ts : List Cond} {rm : Room} {pc : Nat} {lv : List (Nat × Value)} {st : List Value} {h : mg_H} {k : Nat} {x : Int32} (C : mg_ok X cc Ts rm) (hd : decode cc pc = .ok (.iload k, 2)) (j : Nat) (hj : lv[j]? = some (k, .int x)) (kk : mg_W X (pc + 2) lv (.int x :: st) h) : mg_W X pc lv (st) h := by
  obtain ⟨p, l, e, R, s, m, args, below, meth, c, Q, D, cA, ad, A, nL⟩ := X
  obtain ⟨hx, hb, hml, hown, hts, hK, hA, hlk, hR⟩ := C
  intro H locs ls hP hD hS hl
  exact lv_iload hx hb hd (lv_at hl j hj) (kk H locs ls hP hD hS hl)
theorem mg_lload_n {X : mg_X} {cc : ByteArray} {Ts : List Cond} {rm : Room} {pc : Nat} {lv : List (Nat × Value)} {st : List Value} {h : mg_H} {k : Fin 4} {x : Int64} (C : mg_ok X cc Ts rm) (hd : decode cc pc = .ok (.lload_n k, 1)) (j : Nat) (hj : lv[j]? = some ((k : Nat), .long x)) (kk : mg_W X (pc + 1) lv (.long x :: st) h) : mg_W X pc lv (st) h := by
  obtain ⟨p, l, e, R, s, m, args, below, meth, c, Q, D, cA, ad, A, nL⟩ := X
  obtain ⟨hx, hb, hml, hown, hts, hK, hA, hlk, hR⟩ := C
  intro H locs ls hP hD hS hl
  exact lv_lload_n hx hb hd rfl (lv_at hl j hj) (kk H locs ls hP hD hS hl)
theorem mg_lload {X : mg_X} {cc : ByteArray} {Ts : List Cond} {rm : Room} {pc : Nat} {lv : List (Nat × Value)} {st : List Value} {h : mg_H} {k : Nat} {x : Int64} (C : mg_ok X cc Ts rm) (hd : decode cc pc = .ok (.lload k, 2)) (j : Nat) (hj : lv[j]? = some (k, .long x)) (kk : mg_W X (pc + 2) lv (.long x :: st) h) : mg_W X pc lv (st) h := by
  obtain ⟨p, l, e, R, s, m, args, below, meth, c, Q, D, cA, ad, A, nL⟩ := X
  obtain ⟨hx, hb, hml, hown, hts, hK, hA, hlk, hR⟩ := C
  intro H locs ls hP hD hS hl
  exact lv_lload hx hb hd (lv_at hl j hj) (kk H locs ls hP hD hS hl)
theorem mg_aload_n {X : mg_X} {cc : ByteArray} {Ts : List Cond} {rm : Room} {pc : Nat} {lv : List (Nat × Value)} {st : List Value} {h : mg_H} {k : Fin 4} {x : Nat} (C : mg_ok X cc Ts rm) (hd : decode cc pc = .ok (.aload_n k, 1)) (j : Nat) (hj : lv[j]? = some ((k : Nat), .ref x)) (kk : mg_W X (pc + 1) lv (.ref x :: st) h) : mg_W X pc lv (st) h := by
  obtain ⟨p, l, e, R, s, m, args, below, meth, c, Q, D, cA, ad, A, nL⟩ := X
  obtain ⟨hx, hb, hml, hown, hts, hK, hA, hlk, hR⟩ := C
  intro H locs ls hP hD hS hl
  exact lv_aload_n hx hb hd rfl (lv_at hl j hj) (kk H locs ls hP hD hS hl)
theorem mg_aload {X : mg_X} {cc : ByteArray} {Ts : List Cond} {rm : Room} {pc : Nat} {lv : List (Nat × Value)} {st : List Value} {h : mg_H} {k : Nat} {x : Nat} (C : mg_ok X cc Ts rm) (hd : decode cc pc = .ok (.aload k, 2)) (j : Nat) (hj : lv[j]? = some (k, .ref x)) (kk : mg_W X (pc + 2) lv (.ref x :: st) h) : mg_W X pc lv (st) h := by
  obtain ⟨p, l, e, R, s, m, args, below, meth, c, Q, D, cA, ad, A, nL⟩ := X
  obtain ⟨hx, hb, hml, hown, hts, hK, hA, hlk, hR⟩ := C
  intro H locs ls hP hD hS hl
  exact lv_aload hx hb hd (lv_at hl j hj) (kk H locs ls hP hD hS hl)
theorem mg_istore_n {X : mg_X} {cc : ByteArray} {Ts : List Cond} {rm : Room} {pc : Nat} {lv : List (Nat × Value)} {st : List Value} {h : mg_H} {k : Fin 4} {x : Int32} {lv2 : List (Nat × Value)} (C : mg_ok X cc Ts rm) (hd : decode cc pc = .ok (.istore_n k, 1)) (n : Nat) (hnL : mg_nL X n) (hn : (k : Nat) < n) (hl2 : ((k : Nat), Value.int x) :: lv.filter (fun q => !(q.1 == (k : Nat)) && !(q.1 + 1 == (k : Nat) && q.2.category == 2)) = lv2) (kk : mg_W X (pc + 1) lv2 st h) : mg_W X pc lv (.int x :: st) h := by
  obtain ⟨p, l, e, R, s, m, args, below, meth, c, Q, D, cA, ad, A, nL⟩ := X
  obtain ⟨hx, hb, hml, hown, hts, hK, hA, hlk, hR⟩ := C
  intro H locs ls hP hD hS hl
  exact lv_istore_n hx hb hd rfl hl (by have h9 : nL = n := hnL; rw [h9]; exact hn) hl2 (fun ls2 hl3 => kk H locs ls2 hP hD hS hl3)
theorem mg_istore {X : mg_X} {cc : ByteArray} {Ts : List Cond} {rm : Room} {pc : Nat} {lv : List (Nat × Value)} {st : List Value} {h : mg_H} {k : Nat} {x : Int32} {lv2 : List (Nat × Value)} (C : mg_ok X cc Ts rm) (hd : decode cc pc = .ok (.istore k, 2)) (n : Nat) (hnL : mg_nL X n) (hn : k < n) (hl2 : (k, Value.int x) :: lv.filter (fun q => !(q.1 == k) && !(q.1 + 1 == k && q.2.category == 2)) = lv2) (kk : mg_W X (pc + 2) lv2 st h) : mg_W X pc lv (.int x :: st) h := by
  obtain ⟨p, l, e, R, s, m, args, below, meth, c, Q, D, cA, ad, A, nL⟩ := X
  obtain ⟨hx, hb, hml, hown, hts, hK, hA, hlk, hR⟩ := C
  intro H locs ls hP hD hS hl
  exact lv_istore hx hb hd hl (by have h9 : nL = n := hnL; rw [h9]; exact hn) hl2 (fun ls2 hl3 => kk H locs ls2 hP hD hS hl3)
theorem mg_lstore_n {X : mg_X} {cc : ByteArray} {Ts : List Cond} {rm : Room} {pc : Nat} {lv : List (Nat × Value)} {st : List Value} {h : mg_H} {k : Fin 4} {x : Int64} {lv2 : List (Nat × Value)} (C : mg_ok X cc Ts rm) (hd : decode cc pc = .ok (.lstore_n k, 1)) (n : Nat) (hnL : mg_nL X n) (hn : (k : Nat) + 1 < n) (hl2 : ((k : Nat), Value.long x) :: lv.filter (fun q => !(q.1 == (k : Nat)) && (!(q.1 == (k : Nat) + 1) && !(q.1 + 1 == (k : Nat) && q.2.category == 2))) = lv2) (kk : mg_W X (pc + 1) lv2 st h) : mg_W X pc lv (.long x :: st) h := by
  obtain ⟨p, l, e, R, s, m, args, below, meth, c, Q, D, cA, ad, A, nL⟩ := X
  obtain ⟨hx, hb, hml, hown, hts, hK, hA, hlk, hR⟩ := C
  intro H locs ls hP hD hS hl
  exact lv_lstore_n hx hb hd rfl hl (by have h9 : nL = n := hnL; rw [h9]; exact hn) hl2 (fun ls2 hl3 => kk H locs ls2 hP hD hS hl3)
theorem mg_lstore {X : mg_X} {cc : ByteArray} {Ts : List Cond} {rm : Room} {pc : Nat} {lv : List (Nat × Value)} {st : List Value} {h : mg_H} {k : Nat} {x : Int64} {lv2 : List (Nat × Value)} (C : mg_ok X cc Ts rm) (hd : decode cc pc = .ok (.lstore k, 2)) (n : Nat) (hnL : mg_nL X n) (hn : k + 1 < n) (hl2 : (k, Value.long x) :: lv.filter (fun q => !(q.1 == k) && (!(q.1 == k + 1) && !(q.1 + 1 == k && q.2.category == 2))) = lv2) (kk : mg_W X (pc + 2) lv2 st h) : mg_W X pc lv (.long x :: st) h := by
  obtain ⟨p, l, e, R, s, m, args, below, meth, c, Q, D, cA, ad, A, nL⟩ := X
  obtain ⟨hx, hb, hml, hown, hts, hK, hA, hlk, hR⟩ := C
  intro H locs ls hP hD hS hl
  exact lv_lstore hx hb hd hl (by have h9 : nL = n := hnL; rw [h9]; exact hn) hl2 (fun ls2 hl3 => kk H locs ls2 hP hD hS hl3)
theorem mg_astore_n {X : mg_X} {cc : ByteArray} {Ts : List Cond} {rm : Room} {pc : Nat} {lv : List (Nat × Value)} {st : List Value} {h : mg_H} {k : Fin 4} {x : Nat} {lv2 : List (Nat × Value)} (C : mg_ok X cc Ts rm) (hd : decode cc pc = .ok (.astore_n k, 1)) (n : Nat) (hnL : mg_nL X n) (hn : (k : Nat) < n) (hl2 : ((k : Nat), Value.ref x) :: lv.filter (fun q => !(q.1 == (k : Nat)) && !(q.1 + 1 == (k : Nat) && q.2.category == 2)) = lv2) (kk : mg_W X (pc + 1) lv2 st h) : mg_W X pc lv (.ref x :: st) h := by
  obtain ⟨p, l, e, R, s, m, args, below, meth, c, Q, D, cA, ad, A, nL⟩ := X
  obtain ⟨hx, hb, hml, hown, hts, hK, hA, hlk, hR⟩ := C
  intro H locs ls hP hD hS hl
  exact lv_astore_n hx hb hd rfl hl (by have h9 : nL = n := hnL; rw [h9]; exact hn) hl2 (fun ls2 hl3 => kk H locs ls2 hP hD hS hl3)
theorem mg_astore {X : mg_X} {cc : ByteArray} {Ts : List Cond} {rm : Room} {pc : Nat} {lv : List (Nat × Value)} {st : List Value} {h : mg_H} {k : Nat} {x : Nat} {lv2 : List (Nat × Value)} (C : mg_ok X cc Ts rm) (hd : decode cc pc = .ok (.astore k, 2)) (n : Nat) (hnL : mg_nL X n) (hn : k < n) (hl2 : (k, Value.ref x) :: lv.filter (fun q => !(q.1 == k) && !(q.1 + 1 == k && q.2.category == 2)) = lv2) (kk : mg_W X (pc + 2) lv2 st h) : mg_W X pc lv (.ref x :: st) h := by
  obtain ⟨p, l, e, R, s, m, args, below, meth, c, Q, D, cA, ad, A, nL⟩ := X
  obtain ⟨hx, hb, hml, hown, hts, hK, hA, hlk, hR⟩ := C
  intro H locs ls hP hD hS hl
  exact lv_astore hx hb hd hl (by have h9 : nL = n := hnL; rw [h9]; exact hn) hl2 (fun ls2 hl3 => kk H locs ls2 hP hD hS hl3)
theorem mg_iinc {X : mg_X} {cc : ByteArray} {Ts : List Cond} {rm : Room} {pc : Nat} {lv : List (Nat × Value)} {st : List Value} {h : mg_H} {i : Nat} {d : Int} {x v : Int32} {lv2 : List (Nat × Value)} (C : mg_ok X cc Ts rm) (hd : decode cc pc = .ok (.iinc i d, 3)) (k : Nat) (hk : lv[k]? = some (i, .int x)) (hv : x + Int32.ofInt d = v) (n : Nat) (hnL : mg_nL X n) (hn : i < n) (hl2 : (i, Value.int v) :: lv.filter (fun q => !(q.1 == i) && !(q.1 + 1 == i && q.2.category == 2)) = lv2) (kk : mg_W X (pc + 3) lv2 st h) : mg_W X pc lv st h := by
  obtain ⟨p, l, e, R, s, m, args, below, meth, c, Q, D, cA, ad, A, nL⟩ := X
  obtain ⟨hx, hb, hml, hown, hts, hK, hA, hlk, hR⟩ := C
  intro H locs ls hP hD hS hl
  exact lv_iinc hx hb hd hl hk hv (by have h9 : nL = n := hnL; rw [h9]; exact hn) hl2 (fun ls2 hl3 => kk H locs ls2 hP hD hS hl3)
theorem mg_iconst {X : mg_X} {cc : ByteArray} {Ts : List Cond} {rm : Room} {pc : Nat} {lv : List (Nat × Value)} {st : List Value} {h : mg_H} {n : Int} {v : Int32} (C : mg_ok X cc Ts rm) (hd : decode cc pc = .ok (.iconst n, 1)) (hv : Int32.ofInt n = v) (kk : mg_W X (pc + 1) lv (.int v :: st) h) : mg_W X pc lv (st) h := by
  obtain ⟨p, l, e, R, s, m, args, below, meth, c, Q, D, cA, ad, A, nL⟩ := X
  obtain ⟨hx, hb, hml, hown, hts, hK, hA, hlk, hR⟩ := C
  intro H locs ls hP hD hS hl
  exact lv_iconst hx hb hd hv (kk H locs ls hP hD hS hl)
theorem mg_lconst {X : mg_X} {cc : ByteArray} {Ts : List Cond} {rm : Room} {pc : Nat} {lv : List (Nat × Value)} {st : List Value} {h : mg_H} {n : Fin 2} {v : Int64} (C : mg_ok X cc Ts rm) (hd : decode cc pc = .ok (.lconst n, 1)) (hv : Int64.ofNat (n : Nat) = v) (kk : mg_W X (pc + 1) lv (.long v :: st) h) : mg_W X pc lv (st) h := by
  obtain ⟨p, l, e, R, s, m, args, below, meth, c, Q, D, cA, ad, A, nL⟩ := X
  obtain ⟨hx, hb, hml, hown, hts, hK, hA, hlk, hR⟩ := C
  intro H locs ls hP hD hS hl
  exact lv_lconst hx hb hd hv (kk H locs ls hP hD hS hl)
theorem mg_bipush {X : mg_X} {cc : ByteArray} {Ts : List Cond} {rm : Room} {pc : Nat} {lv : List (Nat × Value)} {st : List Value} {h : mg_H} {n : Int} {v : Int32} (C : mg_ok X cc Ts rm) (hd : decode cc pc = .ok (.bipush n, 2)) (hv : (Int8.ofInt n).toInt32 = v) (kk : mg_W X (pc + 2) lv (.int v :: st) h) : mg_W X pc lv (st) h := by
  obtain ⟨p, l, e, R, s, m, args, below, meth, c, Q, D, cA, ad, A, nL⟩ := X
  obtain ⟨hx, hb, hml, hown, hts, hK, hA, hlk, hR⟩ := C
  intro H locs ls hP hD hS hl
  exact lv_bipush hx hb hd hv (kk H locs ls hP hD hS hl)
theorem mg_sipush {X : mg_X} {cc : ByteArray} {Ts : List Cond} {rm : Room} {pc : Nat} {lv : List (Nat × Value)} {st : List Value} {h : mg_H} {n : Int} {v : Int32} (C : mg_ok X cc Ts rm) (hd : decode cc pc = .ok (.sipush n, 3)) (hv : (Int16.ofInt n).toInt32 = v) (kk : mg_W X (pc + 3) lv (.int v :: st) h) : mg_W X pc lv (st) h := by
  obtain ⟨p, l, e, R, s, m, args, below, meth, c, Q, D, cA, ad, A, nL⟩ := X
  obtain ⟨hx, hb, hml, hown, hts, hK, hA, hlk, hR⟩ := C
  intro H locs ls hP hD hS hl
  exact lv_sipush hx hb hd hv (kk H locs ls hP hD hS hl)
theorem mg_ldc {X : mg_X} {cc : ByteArray} {Ts : List Cond} {rm : Room} {pc : Nat} {lv : List (Nat × Value)} {st : List Value} {h : mg_H} {i : Nat} {v : Int32} (C : mg_ok X cc Ts rm) (hd : decode cc pc = .ok (.ldc i, 2)) (hc : Cond.constant RX12 i v ∈ Ts) (kk : mg_W X (pc + 2) lv (.int v :: st) h) : mg_W X pc lv (st) h := by
  obtain ⟨p, l, e, R, s, m, args, below, meth, c, Q, D, cA, ad, A, nL⟩ := X
  obtain ⟨hx, hb, hml, hown, hts, hK, hA, hlk, hR⟩ := C
  intro H locs ls hP hD hS hl
  exact lv_ldc hx hb hown (hts _ hc) hd (kk H locs ls hP hD hS hl)
theorem mg_ldcw {X : mg_X} {cc : ByteArray} {Ts : List Cond} {rm : Room} {pc : Nat} {lv : List (Nat × Value)} {st : List Value} {h : mg_H} {i : Nat} {v : Int32} (C : mg_ok X cc Ts rm) (hd : decode cc pc = .ok (.ldc_w i, 3)) (hc : Cond.constant RX12 i v ∈ Ts) (kk : mg_W X (pc + 3) lv (.int v :: st) h) : mg_W X pc lv (st) h := by
  obtain ⟨p, l, e, R, s, m, args, below, meth, c, Q, D, cA, ad, A, nL⟩ := X
  obtain ⟨hx, hb, hml, hown, hts, hK, hA, hlk, hR⟩ := C
  intro H locs ls hP hD hS hl
  exact lv_ldcw hx hb hown (hts _ hc) hd (kk H locs ls hP hD hS hl)
theorem mg_ldc2 {X : mg_X} {cc : ByteArray} {Ts : List Cond} {rm : Room} {pc : Nat} {lv : List (Nat × Value)} {st : List Value} {h : mg_H} {i : Nat} {v : Int64} (C : mg_ok X cc Ts rm) (hd : decode cc pc = .ok (.ldc2_w i, 3)) (hc : Cond.constantLong RX12 i v ∈ Ts) (kk : mg_W X (pc + 3) lv (.long v :: st) h) : mg_W X pc lv (st) h := by
  obtain ⟨p, l, e, R, s, m, args, below, meth, c, Q, D, cA, ad, A, nL⟩ := X
  obtain ⟨hx, hb, hml, hown, hts, hK, hA, hlk, hR⟩ := C
  intro H locs ls hP hD hS hl
  exact lv_ldc2 hx hb hown (hts _ hc) hd (kk H locs ls hP hD hS hl)
theorem mg_iadd {X : mg_X} {cc : ByteArray} {Ts : List Cond} {rm : Room} {pc : Nat} {lv : List (Nat × Value)} {st : List Value} {h : mg_H} {x y : Int32} (C : mg_ok X cc Ts rm) (hd : decode cc pc = .ok (.iadd, 1)) (kk : mg_W X (pc + 1) lv (.int (x + y) :: st) h) : mg_W X pc lv (.int y :: .int x :: st) h := by
  obtain ⟨p, l, e, R, s, m, args, below, meth, c, Q, D, cA, ad, A, nL⟩ := X
  obtain ⟨hx, hb, hml, hown, hts, hK, hA, hlk, hR⟩ := C
  intro H locs ls hP hD hS hl
  exact lv_iadd hx hb hd (kk H locs ls hP hD hS hl)
theorem mg_isub {X : mg_X} {cc : ByteArray} {Ts : List Cond} {rm : Room} {pc : Nat} {lv : List (Nat × Value)} {st : List Value} {h : mg_H} {x y : Int32} (C : mg_ok X cc Ts rm) (hd : decode cc pc = .ok (.isub, 1)) (kk : mg_W X (pc + 1) lv (.int (x - y) :: st) h) : mg_W X pc lv (.int y :: .int x :: st) h := by
  obtain ⟨p, l, e, R, s, m, args, below, meth, c, Q, D, cA, ad, A, nL⟩ := X
  obtain ⟨hx, hb, hml, hown, hts, hK, hA, hlk, hR⟩ := C
  intro H locs ls hP hD hS hl
  exact lv_isub hx hb hd (kk H locs ls hP hD hS hl)
theorem mg_imul {X : mg_X} {cc : ByteArray} {Ts : List Cond} {rm : Room} {pc : Nat} {lv : List (Nat × Value)} {st : List Value} {h : mg_H} {x y : Int32} (C : mg_ok X cc Ts rm) (hd : decode cc pc = .ok (.imul, 1)) (kk : mg_W X (pc + 1) lv (.int (x * y) :: st) h) : mg_W X pc lv (.int y :: .int x :: st) h := by
  obtain ⟨p, l, e, R, s, m, args, below, meth, c, Q, D, cA, ad, A, nL⟩ := X
  obtain ⟨hx, hb, hml, hown, hts, hK, hA, hlk, hR⟩ := C
  intro H locs ls hP hD hS hl
  exact lv_imul hx hb hd (kk H locs ls hP hD hS hl)
theorem mg_iand {X : mg_X} {cc : ByteArray} {Ts : List Cond} {rm : Room} {pc : Nat} {lv : List (Nat × Value)} {st : List Value} {h : mg_H} {x y : Int32} (C : mg_ok X cc Ts rm) (hd : decode cc pc = .ok (.iand, 1)) (kk : mg_W X (pc + 1) lv (.int (x &&& y) :: st) h) : mg_W X pc lv (.int y :: .int x :: st) h := by
  obtain ⟨p, l, e, R, s, m, args, below, meth, c, Q, D, cA, ad, A, nL⟩ := X
  obtain ⟨hx, hb, hml, hown, hts, hK, hA, hlk, hR⟩ := C
  intro H locs ls hP hD hS hl
  exact lv_iand hx hb hd (kk H locs ls hP hD hS hl)
theorem mg_ior {X : mg_X} {cc : ByteArray} {Ts : List Cond} {rm : Room} {pc : Nat} {lv : List (Nat × Value)} {st : List Value} {h : mg_H} {x y : Int32} (C : mg_ok X cc Ts rm) (hd : decode cc pc = .ok (.ior, 1)) (kk : mg_W X (pc + 1) lv (.int (x ||| y) :: st) h) : mg_W X pc lv (.int y :: .int x :: st) h := by
  obtain ⟨p, l, e, R, s, m, args, below, meth, c, Q, D, cA, ad, A, nL⟩ := X
  obtain ⟨hx, hb, hml, hown, hts, hK, hA, hlk, hR⟩ := C
  intro H locs ls hP hD hS hl
  exact lv_ior hx hb hd (kk H locs ls hP hD hS hl)
theorem mg_ixor {X : mg_X} {cc : ByteArray} {Ts : List Cond} {rm : Room} {pc : Nat} {lv : List (Nat × Value)} {st : List Value} {h : mg_H} {x y : Int32} (C : mg_ok X cc Ts rm) (hd : decode cc pc = .ok (.ixor, 1)) (kk : mg_W X (pc + 1) lv (.int (x ^^^ y) :: st) h) : mg_W X pc lv (.int y :: .int x :: st) h := by
  obtain ⟨p, l, e, R, s, m, args, below, meth, c, Q, D, cA, ad, A, nL⟩ := X
  obtain ⟨hx, hb, hml, hown, hts, hK, hA, hlk, hR⟩ := C
  intro H locs ls hP hD hS hl
  exact lv_ixor hx hb hd (kk H locs ls hP hD hS hl)
theorem mg_ishl {X : mg_X} {cc : ByteArray} {Ts : List Cond} {rm : Room} {pc : Nat} {lv : List (Nat × Value)} {st : List Value} {h : mg_H} {x y : Int32} (C : mg_ok X cc Ts rm) (hd : decode cc pc = .ok (.ishl, 1)) (kk : mg_W X (pc + 1) lv (.int (x <<< (y &&& 31)) :: st) h) : mg_W X pc lv (.int y :: .int x :: st) h := by
  obtain ⟨p, l, e, R, s, m, args, below, meth, c, Q, D, cA, ad, A, nL⟩ := X
  obtain ⟨hx, hb, hml, hown, hts, hK, hA, hlk, hR⟩ := C
  intro H locs ls hP hD hS hl
  exact lv_ishl hx hb hd (kk H locs ls hP hD hS hl)
theorem mg_ishr {X : mg_X} {cc : ByteArray} {Ts : List Cond} {rm : Room} {pc : Nat} {lv : List (Nat × Value)} {st : List Value} {h : mg_H} {x y : Int32} (C : mg_ok X cc Ts rm) (hd : decode cc pc = .ok (.ishr, 1)) (kk : mg_W X (pc + 1) lv (.int (x >>> (y &&& 31)) :: st) h) : mg_W X pc lv (.int y :: .int x :: st) h := by
  obtain ⟨p, l, e, R, s, m, args, below, meth, c, Q, D, cA, ad, A, nL⟩ := X
  obtain ⟨hx, hb, hml, hown, hts, hK, hA, hlk, hR⟩ := C
  intro H locs ls hP hD hS hl
  exact lv_ishr hx hb hd (kk H locs ls hP hD hS hl)
theorem mg_iushr {X : mg_X} {cc : ByteArray} {Ts : List Cond} {rm : Room} {pc : Nat} {lv : List (Nat × Value)} {st : List Value} {h : mg_H} {x y : Int32} (C : mg_ok X cc Ts rm) (hd : decode cc pc = .ok (.iushr, 1)) (kk : mg_W X (pc + 1) lv (.int ((x.toUInt32 >>> (y.toUInt32 &&& Int32.toUInt32 31)).toInt32) :: st) h) : mg_W X pc lv (.int y :: .int x :: st) h := by
  obtain ⟨p, l, e, R, s, m, args, below, meth, c, Q, D, cA, ad, A, nL⟩ := X
  obtain ⟨hx, hb, hml, hown, hts, hK, hA, hlk, hR⟩ := C
  intro H locs ls hP hD hS hl
  exact lv_iushr hx hb hd rfl (kk H locs ls hP hD hS hl)
theorem mg_idiv {X : mg_X} {cc : ByteArray} {Ts : List Cond} {rm : Room} {pc : Nat} {lv : List (Nat × Value)} {st : List Value} {h : mg_H} {x y : Int32} (C : mg_ok X cc Ts rm) (hd : decode cc pc = .ok (.idiv, 1)) (hne : ¬ y = 0) (kk : mg_W X (pc + 1) lv (.int (x / y) :: st) h) : mg_W X pc lv (.int y :: .int x :: st) h := by
  obtain ⟨p, l, e, R, s, m, args, below, meth, c, Q, D, cA, ad, A, nL⟩ := X
  obtain ⟨hx, hb, hml, hown, hts, hK, hA, hlk, hR⟩ := C
  intro H locs ls hP hD hS hl
  exact lv_idiv hx hb hd hne (kk H locs ls hP hD hS hl)
theorem mg_irem {X : mg_X} {cc : ByteArray} {Ts : List Cond} {rm : Room} {pc : Nat} {lv : List (Nat × Value)} {st : List Value} {h : mg_H} {x y : Int32} (C : mg_ok X cc Ts rm) (hd : decode cc pc = .ok (.irem, 1)) (hne : ¬ y = 0) (kk : mg_W X (pc + 1) lv (.int (x - x / y * y) :: st) h) : mg_W X pc lv (.int y :: .int x :: st) h := by
  obtain ⟨p, l, e, R, s, m, args, below, meth, c, Q, D, cA, ad, A, nL⟩ := X
  obtain ⟨hx, hb, hml, hown, hts, hK, hA, hlk, hR⟩ := C
  intro H locs ls hP hD hS hl
  exact lv_irem hx hb hd hne (kk H locs ls hP hD hS hl)
theorem mg_ladd {X : mg_X} {cc : ByteArray} {Ts : List Cond} {rm : Room} {pc : Nat} {lv : List (Nat × Value)} {st : List Value} {h : mg_H} {x y : Int64} (C : mg_ok X cc Ts rm) (hd : decode cc pc = .ok (.ladd, 1)) (kk : mg_W X (pc + 1) lv (.long (x + y) :: st) h) : mg_W X pc lv (.long y :: .long x :: st) h := by
  obtain ⟨p, l, e, R, s, m, args, below, meth, c, Q, D, cA, ad, A, nL⟩ := X
  obtain ⟨hx, hb, hml, hown, hts, hK, hA, hlk, hR⟩ := C
  intro H locs ls hP hD hS hl
  exact lv_ladd hx hb hd (kk H locs ls hP hD hS hl)
theorem mg_land {X : mg_X} {cc : ByteArray} {Ts : List Cond} {rm : Room} {pc : Nat} {lv : List (Nat × Value)} {st : List Value} {h : mg_H} {x y : Int64} (C : mg_ok X cc Ts rm) (hd : decode cc pc = .ok (.land, 1)) (kk : mg_W X (pc + 1) lv (.long (x &&& y) :: st) h) : mg_W X pc lv (.long y :: .long x :: st) h := by
  obtain ⟨p, l, e, R, s, m, args, below, meth, c, Q, D, cA, ad, A, nL⟩ := X
  obtain ⟨hx, hb, hml, hown, hts, hK, hA, hlk, hR⟩ := C
  intro H locs ls hP hD hS hl
  exact lv_land hx hb hd (kk H locs ls hP hD hS hl)
theorem mg_lor {X : mg_X} {cc : ByteArray} {Ts : List Cond} {rm : Room} {pc : Nat} {lv : List (Nat × Value)} {st : List Value} {h : mg_H} {x y : Int64} (C : mg_ok X cc Ts rm) (hd : decode cc pc = .ok (.lor, 1)) (kk : mg_W X (pc + 1) lv (.long (x ||| y) :: st) h) : mg_W X pc lv (.long y :: .long x :: st) h := by
  obtain ⟨p, l, e, R, s, m, args, below, meth, c, Q, D, cA, ad, A, nL⟩ := X
  obtain ⟨hx, hb, hml, hown, hts, hK, hA, hlk, hR⟩ := C
  intro H locs ls hP hD hS hl
  exact lv_lor hx hb hd (kk H locs ls hP hD hS hl)
theorem mg_ldiv {X : mg_X} {cc : ByteArray} {Ts : List Cond} {rm : Room} {pc : Nat} {lv : List (Nat × Value)} {st : List Value} {h : mg_H} {x y : Int64} (C : mg_ok X cc Ts rm) (hd : decode cc pc = .ok (.ldiv, 1)) (hne : ¬ y = 0) (kk : mg_W X (pc + 1) lv (.long (x / y) :: st) h) : mg_W X pc lv (.long y :: .long x :: st) h := by
  obtain ⟨p, l, e, R, s, m, args, below, meth, c, Q, D, cA, ad, A, nL⟩ := X
  obtain ⟨hx, hb, hml, hown, hts, hK, hA, hlk, hR⟩ := C
  intro H locs ls hP hD hS hl
  exact lv_ldiv hx hb hd hne (kk H locs ls hP hD hS hl)
theorem mg_lrem {X : mg_X} {cc : ByteArray} {Ts : List Cond} {rm : Room} {pc : Nat} {lv : List (Nat × Value)} {st : List Value} {h : mg_H} {x y : Int64} (C : mg_ok X cc Ts rm) (hd : decode cc pc = .ok (.lrem, 1)) (hne : ¬ y = 0) (kk : mg_W X (pc + 1) lv (.long (x - x / y * y) :: st) h) : mg_W X pc lv (.long y :: .long x :: st) h := by
  obtain ⟨p, l, e, R, s, m, args, below, meth, c, Q, D, cA, ad, A, nL⟩ := X
  obtain ⟨hx, hb, hml, hown, hts, hK, hA, hlk, hR⟩ := C
  intro H locs ls hP hD hS hl
  exact lv_lrem hx hb hd hne (kk H locs ls hP hD hS hl)
theorem mg_lshl {X : mg_X} {cc : ByteArray} {Ts : List Cond} {rm : Room} {pc : Nat} {lv : List (Nat × Value)} {st : List Value} {h : mg_H} {x : Int64} {y : Int32} (C : mg_ok X cc Ts rm) (hd : decode cc pc = .ok (.lshl, 1)) (kk : mg_W X (pc + 1) lv (.long (x <<< (y.toInt64 &&& 63)) :: st) h) : mg_W X pc lv (.int y :: .long x :: st) h := by
  obtain ⟨p, l, e, R, s, m, args, below, meth, c, Q, D, cA, ad, A, nL⟩ := X
  obtain ⟨hx, hb, hml, hown, hts, hK, hA, hlk, hR⟩ := C
  intro H locs ls hP hD hS hl
  exact lv_lshl hx hb hd rfl (kk H locs ls hP hD hS hl)
theorem mg_lshr {X : mg_X} {cc : ByteArray} {Ts : List Cond} {rm : Room} {pc : Nat} {lv : List (Nat × Value)} {st : List Value} {h : mg_H} {x : Int64} {y : Int32} (C : mg_ok X cc Ts rm) (hd : decode cc pc = .ok (.lshr, 1)) (kk : mg_W X (pc + 1) lv (.long (x >>> (y.toInt64 &&& 63)) :: st) h) : mg_W X pc lv (.int y :: .long x :: st) h := by
  obtain ⟨p, l, e, R, s, m, args, below, meth, c, Q, D, cA, ad, A, nL⟩ := X
  obtain ⟨hx, hb, hml, hown, hts, hK, hA, hlk, hR⟩ := C
  intro H locs ls hP hD hS hl
  exact lv_lshr hx hb hd rfl (kk H locs ls hP hD hS hl)
theorem mg_lcmp {X : mg_X} {cc : ByteArray} {Ts : List Cond} {rm : Room} {pc : Nat} {lv : List (Nat × Value)} {st : List Value} {h : mg_H} {x y : Int64} (C : mg_ok X cc Ts rm) (hd : decode cc pc = .ok (.lcmp, 1)) (kk : mg_W X (pc + 1) lv (.int (lg_cmp x y) :: st) h) : mg_W X pc lv (.long y :: .long x :: st) h := by
  obtain ⟨p, l, e, R, s, m, args, below, meth, c, Q, D, cA, ad, A, nL⟩ := X
  obtain ⟨hx, hb, hml, hown, hts, hK, hA, hlk, hR⟩ := C
  intro H locs ls hP hD hS hl
  exact W.lcmp hx hb hd (kk H locs ls hP hD hS hl)
theorem mg_i2l {X : mg_X} {cc : ByteArray} {Ts : List Cond} {rm : Room} {pc : Nat} {lv : List (Nat × Value)} {st : List Value} {h : mg_H} {x : Int32} (C : mg_ok X cc Ts rm) (hd : decode cc pc = .ok (.i2l, 1)) (kk : mg_W X (pc + 1) lv (.long x.toInt64 :: st) h) : mg_W X pc lv (.int x :: st) h := by
  obtain ⟨p, l, e, R, s, m, args, below, meth, c, Q, D, cA, ad, A, nL⟩ := X
  obtain ⟨hx, hb, hml, hown, hts, hK, hA, hlk, hR⟩ := C
  intro H locs ls hP hD hS hl
  exact lv_i2l hx hb hd rfl (kk H locs ls hP hD hS hl)
theorem mg_l2i {X : mg_X} {cc : ByteArray} {Ts : List Cond} {rm : Room} {pc : Nat} {lv : List (Nat × Value)} {st : List Value} {h : mg_H} {x : Int64} (C : mg_ok X cc Ts rm) (hd : decode cc pc = .ok (.l2i, 1)) (kk : mg_W X (pc + 1) lv (.int x.toInt32 :: st) h) : mg_W X pc lv (.long x :: st) h := by
  obtain ⟨p, l, e, R, s, m, args, below, meth, c, Q, D, cA, ad, A, nL⟩ := X
  obtain ⟨hx, hb, hml, hown, hts, hK, hA, hlk, hR⟩ := C
  intro H locs ls hP hD hS hl
  exact lv_l2i hx hb hd rfl (kk H locs ls hP hD hS hl)
theorem mg_i2b {X : mg_X} {cc : ByteArray} {Ts : List Cond} {rm : Room} {pc : Nat} {lv : List (Nat × Value)} {st : List Value} {h : mg_H} {x : Int32} (C : mg_ok X cc Ts rm) (hd : decode cc pc = .ok (.i2b, 1)) (kk : mg_W X (pc + 1) lv (.int x.toInt8.toInt32 :: st) h) : mg_W X pc lv (.int x :: st) h := by
  obtain ⟨p, l, e, R, s, m, args, below, meth, c, Q, D, cA, ad, A, nL⟩ := X
  obtain ⟨hx, hb, hml, hown, hts, hK, hA, hlk, hR⟩ := C
  intro H locs ls hP hD hS hl
  exact lv_i2b hx hb hd rfl (kk H locs ls hP hD hS hl)
theorem mg_dup {X : mg_X} {cc : ByteArray} {Ts : List Cond} {rm : Room} {pc : Nat} {lv : List (Nat × Value)} {st : List Value} {h : mg_H} {a : Value} (C : mg_ok X cc Ts rm) (hd : decode cc pc = .ok (.dup, 1)) (ha : a.category = 1) (kk : mg_W X (pc + 1) lv (a :: a :: st) h) : mg_W X pc lv (a :: st) h := by
  obtain ⟨p, l, e, R, s, m, args, below, meth, c, Q, D, cA, ad, A, nL⟩ := X
  obtain ⟨hx, hb, hml, hown, hts, hK, hA, hlk, hR⟩ := C
  intro H locs ls hP hD hS hl
  exact lv_dup hx hb hd ha (kk H locs ls hP hD hS hl)
theorem mg_dup2 {X : mg_X} {cc : ByteArray} {Ts : List Cond} {rm : Room} {pc : Nat} {lv : List (Nat × Value)} {st : List Value} {h : mg_H} {a b : Value} (C : mg_ok X cc Ts rm) (hd : decode cc pc = .ok (.dup2, 1)) (ha : a.category = 1) (hb1 : b.category = 1) (kk : mg_W X (pc + 1) lv (a :: b :: a :: b :: st) h) : mg_W X pc lv (a :: b :: st) h := by
  obtain ⟨p, l, e, R, s, m, args, below, meth, c, Q, D, cA, ad, A, nL⟩ := X
  obtain ⟨hx, hb, hml, hown, hts, hK, hA, hlk, hR⟩ := C
  intro H locs ls hP hD hS hl
  exact lv_dup2_11 hx hb hd ha hb1 (kk H locs ls hP hD hS hl)
theorem mg_pop {X : mg_X} {cc : ByteArray} {Ts : List Cond} {rm : Room} {pc : Nat} {lv : List (Nat × Value)} {st : List Value} {h : mg_H} {a : Value} (C : mg_ok X cc Ts rm) (hd : decode cc pc = .ok (.pop, 1)) (ha : a.category = 1) (kk : mg_W X (pc + 1) lv (st) h) : mg_W X pc lv (a :: st) h := by
  obtain ⟨p, l, e, R, s, m, args, below, meth, c, Q, D, cA, ad, A, nL⟩ := X
  obtain ⟨hx, hb, hml, hown, hts, hK, hA, hlk, hR⟩ := C
  intro H locs ls hP hD hS hl
  exact lv_pop hx hb hd ha (kk H locs ls hP hD hS hl)
theorem mg_topi {X : mg_X} {pc : Nat} {lv : List (Nat × Value)} {st : List Value} {h : mg_H} {x : Int32} (kk : ∀ y : Int32, y = x → mg_W X pc lv (.int y :: st) h) : mg_W X pc lv (.int x :: st) h := kk x rfl
theorem mg_topl {X : mg_X} {pc : Nat} {lv : List (Nat × Value)} {st : List Value} {h : mg_H} {x : Int64} (kk : ∀ y : Int64, y = x → mg_W X pc lv (.long y :: st) h) : mg_W X pc lv (.long x :: st) h := kk x rfl
theorem mg_sub {X : mg_X} {pc : Nat} {lv : List (Nat × Value)} {st : List Value} {h : mg_H} {lv2 : List (Nat × Value)} (ks : List Nat) (hl2 : lv_pick lv ks = lv2) (kk : mg_W X pc lv2 st h) : mg_W X pc lv st h := by
  obtain ⟨p, l, e, R, s, m, args, below, meth, c, Q, D, cA, ad, A, nL⟩ := X
  intro H locs ls hP hD hS hl
  exact kk H locs ls hP hD hS (lv_sub hl ks hl2)
theorem mg_icmp_eq {X : mg_X} {cc : ByteArray} {Ts : List Cond} {rm : Room} {pc : Nat} {lv : List (Nat × Value)} {st : List Value} {h : mg_H} {x y : Int32} {off : Int} (tgt : Nat) (C : mg_ok X cc Ts rm) (hd : decode cc pc = .ok (.if_icmp .eq off, 3)) (ht : (pc : Int) + off = (tgt : Int)) (kt : x = y → mg_W X tgt lv st h) (kf : ¬ x = y → mg_W X (pc + 3) lv st h) : mg_W X pc lv (.int y :: .int x :: st) h := by
  obtain ⟨p, l, e, R, s, m, args, below, meth, c, Q, D, cA, ad, A, nL⟩ := X
  obtain ⟨hx, hb, hml, hown, hts, hK, hA, hlk, hR⟩ := C
  intro H locs ls hP hD hS hl
  exact lv_icmp_eq hx hb hd ht (fun q => kt q H locs ls hP hD hS hl) (fun q => kf q H locs ls hP hD hS hl)
theorem mg_icmp_ne {X : mg_X} {cc : ByteArray} {Ts : List Cond} {rm : Room} {pc : Nat} {lv : List (Nat × Value)} {st : List Value} {h : mg_H} {x y : Int32} {off : Int} (tgt : Nat) (C : mg_ok X cc Ts rm) (hd : decode cc pc = .ok (.if_icmp .ne off, 3)) (ht : (pc : Int) + off = (tgt : Int)) (kt : ¬ x = y → mg_W X tgt lv st h) (kf : x = y → mg_W X (pc + 3) lv st h) : mg_W X pc lv (.int y :: .int x :: st) h := by
  obtain ⟨p, l, e, R, s, m, args, below, meth, c, Q, D, cA, ad, A, nL⟩ := X
  obtain ⟨hx, hb, hml, hown, hts, hK, hA, hlk, hR⟩ := C
  intro H locs ls hP hD hS hl
  exact lv_icmp_ne hx hb hd ht (fun q => kt q H locs ls hP hD hS hl) (fun q => kf q H locs ls hP hD hS hl)
theorem mg_icmp_lt {X : mg_X} {cc : ByteArray} {Ts : List Cond} {rm : Room} {pc : Nat} {lv : List (Nat × Value)} {st : List Value} {h : mg_H} {x y : Int32} {off : Int} (tgt : Nat) (C : mg_ok X cc Ts rm) (hd : decode cc pc = .ok (.if_icmp .lt off, 3)) (ht : (pc : Int) + off = (tgt : Int)) (kt : x < y → mg_W X tgt lv st h) (kf : ¬ x < y → mg_W X (pc + 3) lv st h) : mg_W X pc lv (.int y :: .int x :: st) h := by
  obtain ⟨p, l, e, R, s, m, args, below, meth, c, Q, D, cA, ad, A, nL⟩ := X
  obtain ⟨hx, hb, hml, hown, hts, hK, hA, hlk, hR⟩ := C
  intro H locs ls hP hD hS hl
  exact lv_icmp_lt hx hb hd ht (fun q => kt q H locs ls hP hD hS hl) (fun q => kf q H locs ls hP hD hS hl)
theorem mg_icmp_ge {X : mg_X} {cc : ByteArray} {Ts : List Cond} {rm : Room} {pc : Nat} {lv : List (Nat × Value)} {st : List Value} {h : mg_H} {x y : Int32} {off : Int} (tgt : Nat) (C : mg_ok X cc Ts rm) (hd : decode cc pc = .ok (.if_icmp .ge off, 3)) (ht : (pc : Int) + off = (tgt : Int)) (kt : y ≤ x → mg_W X tgt lv st h) (kf : ¬ y ≤ x → mg_W X (pc + 3) lv st h) : mg_W X pc lv (.int y :: .int x :: st) h := by
  obtain ⟨p, l, e, R, s, m, args, below, meth, c, Q, D, cA, ad, A, nL⟩ := X
  obtain ⟨hx, hb, hml, hown, hts, hK, hA, hlk, hR⟩ := C
  intro H locs ls hP hD hS hl
  exact lv_icmp_ge hx hb hd ht (fun q => kt q H locs ls hP hD hS hl) (fun q => kf q H locs ls hP hD hS hl)
theorem mg_icmp_gt {X : mg_X} {cc : ByteArray} {Ts : List Cond} {rm : Room} {pc : Nat} {lv : List (Nat × Value)} {st : List Value} {h : mg_H} {x y : Int32} {off : Int} (tgt : Nat) (C : mg_ok X cc Ts rm) (hd : decode cc pc = .ok (.if_icmp .gt off, 3)) (ht : (pc : Int) + off = (tgt : Int)) (kt : y < x → mg_W X tgt lv st h) (kf : ¬ y < x → mg_W X (pc + 3) lv st h) : mg_W X pc lv (.int y :: .int x :: st) h := by
  obtain ⟨p, l, e, R, s, m, args, below, meth, c, Q, D, cA, ad, A, nL⟩ := X
  obtain ⟨hx, hb, hml, hown, hts, hK, hA, hlk, hR⟩ := C
  intro H locs ls hP hD hS hl
  exact lv_icmp_gt hx hb hd ht (fun q => kt q H locs ls hP hD hS hl) (fun q => kf q H locs ls hP hD hS hl)
theorem mg_icmp_le {X : mg_X} {cc : ByteArray} {Ts : List Cond} {rm : Room} {pc : Nat} {lv : List (Nat × Value)} {st : List Value} {h : mg_H} {x y : Int32} {off : Int} (tgt : Nat) (C : mg_ok X cc Ts rm) (hd : decode cc pc = .ok (.if_icmp .le off, 3)) (ht : (pc : Int) + off = (tgt : Int)) (kt : x ≤ y → mg_W X tgt lv st h) (kf : ¬ x ≤ y → mg_W X (pc + 3) lv st h) : mg_W X pc lv (.int y :: .int x :: st) h := by
  obtain ⟨p, l, e, R, s, m, args, below, meth, c, Q, D, cA, ad, A, nL⟩ := X
  obtain ⟨hx, hb, hml, hown, hts, hK, hA, hlk, hR⟩ := C
  intro H locs ls hP hD hS hl
  exact lv_icmp_le hx hb hd ht (fun q => kt q H locs ls hP hD hS hl) (fun q => kf q H locs ls hP hD hS hl)
theorem mg_if_eq {X : mg_X} {cc : ByteArray} {Ts : List Cond} {rm : Room} {pc : Nat} {lv : List (Nat × Value)} {st : List Value} {h : mg_H} {x : Int32} {off : Int} (tgt : Nat) (C : mg_ok X cc Ts rm) (hd : decode cc pc = .ok (.ifCond .eq off, 3)) (ht : (pc : Int) + off = (tgt : Int)) (kt : x = 0 → mg_W X tgt lv st h) (kf : ¬ x = 0 → mg_W X (pc + 3) lv st h) : mg_W X pc lv (.int x :: st) h := by
  obtain ⟨p, l, e, R, s, m, args, below, meth, c, Q, D, cA, ad, A, nL⟩ := X
  obtain ⟨hx, hb, hml, hown, hts, hK, hA, hlk, hR⟩ := C
  intro H locs ls hP hD hS hl
  exact lv_if_eq hx hb hd ht (fun q => kt q H locs ls hP hD hS hl) (fun q => kf q H locs ls hP hD hS hl)
theorem mg_if_ne {X : mg_X} {cc : ByteArray} {Ts : List Cond} {rm : Room} {pc : Nat} {lv : List (Nat × Value)} {st : List Value} {h : mg_H} {x : Int32} {off : Int} (tgt : Nat) (C : mg_ok X cc Ts rm) (hd : decode cc pc = .ok (.ifCond .ne off, 3)) (ht : (pc : Int) + off = (tgt : Int)) (kt : ¬ x = 0 → mg_W X tgt lv st h) (kf : x = 0 → mg_W X (pc + 3) lv st h) : mg_W X pc lv (.int x :: st) h := by
  obtain ⟨p, l, e, R, s, m, args, below, meth, c, Q, D, cA, ad, A, nL⟩ := X
  obtain ⟨hx, hb, hml, hown, hts, hK, hA, hlk, hR⟩ := C
  intro H locs ls hP hD hS hl
  exact lv_if_ne hx hb hd ht (fun q => kt q H locs ls hP hD hS hl) (fun q => kf q H locs ls hP hD hS hl)
theorem mg_if_lt {X : mg_X} {cc : ByteArray} {Ts : List Cond} {rm : Room} {pc : Nat} {lv : List (Nat × Value)} {st : List Value} {h : mg_H} {x : Int32} {off : Int} (tgt : Nat) (C : mg_ok X cc Ts rm) (hd : decode cc pc = .ok (.ifCond .lt off, 3)) (ht : (pc : Int) + off = (tgt : Int)) (kt : x < 0 → mg_W X tgt lv st h) (kf : ¬ x < 0 → mg_W X (pc + 3) lv st h) : mg_W X pc lv (.int x :: st) h := by
  obtain ⟨p, l, e, R, s, m, args, below, meth, c, Q, D, cA, ad, A, nL⟩ := X
  obtain ⟨hx, hb, hml, hown, hts, hK, hA, hlk, hR⟩ := C
  intro H locs ls hP hD hS hl
  exact lv_if_lt hx hb hd ht (fun q => kt q H locs ls hP hD hS hl) (fun q => kf q H locs ls hP hD hS hl)
theorem mg_if_ge {X : mg_X} {cc : ByteArray} {Ts : List Cond} {rm : Room} {pc : Nat} {lv : List (Nat × Value)} {st : List Value} {h : mg_H} {x : Int32} {off : Int} (tgt : Nat) (C : mg_ok X cc Ts rm) (hd : decode cc pc = .ok (.ifCond .ge off, 3)) (ht : (pc : Int) + off = (tgt : Int)) (kt : 0 ≤ x → mg_W X tgt lv st h) (kf : ¬ 0 ≤ x → mg_W X (pc + 3) lv st h) : mg_W X pc lv (.int x :: st) h := by
  obtain ⟨p, l, e, R, s, m, args, below, meth, c, Q, D, cA, ad, A, nL⟩ := X
  obtain ⟨hx, hb, hml, hown, hts, hK, hA, hlk, hR⟩ := C
  intro H locs ls hP hD hS hl
  exact lv_if_ge hx hb hd ht (fun q => kt q H locs ls hP hD hS hl) (fun q => kf q H locs ls hP hD hS hl)
theorem mg_if_gt {X : mg_X} {cc : ByteArray} {Ts : List Cond} {rm : Room} {pc : Nat} {lv : List (Nat × Value)} {st : List Value} {h : mg_H} {x : Int32} {off : Int} (tgt : Nat) (C : mg_ok X cc Ts rm) (hd : decode cc pc = .ok (.ifCond .gt off, 3)) (ht : (pc : Int) + off = (tgt : Int)) (kt : 0 < x → mg_W X tgt lv st h) (kf : ¬ 0 < x → mg_W X (pc + 3) lv st h) : mg_W X pc lv (.int x :: st) h := by
  obtain ⟨p, l, e, R, s, m, args, below, meth, c, Q, D, cA, ad, A, nL⟩ := X
  obtain ⟨hx, hb, hml, hown, hts, hK, hA, hlk, hR⟩ := C
  intro H locs ls hP hD hS hl
  exact lv_if_gt hx hb hd ht (fun q => kt q H locs ls hP hD hS hl) (fun q => kf q H locs ls hP hD hS hl)
theorem mg_if_le {X : mg_X} {cc : ByteArray} {Ts : List Cond} {rm : Room} {pc : Nat} {lv : List (Nat × Value)} {st : List Value} {h : mg_H} {x : Int32} {off : Int} (tgt : Nat) (C : mg_ok X cc Ts rm) (hd : decode cc pc = .ok (.ifCond .le off, 3)) (ht : (pc : Int) + off = (tgt : Int)) (kt : x ≤ 0 → mg_W X tgt lv st h) (kf : ¬ x ≤ 0 → mg_W X (pc + 3) lv st h) : mg_W X pc lv (.int x :: st) h := by
  obtain ⟨p, l, e, R, s, m, args, below, meth, c, Q, D, cA, ad, A, nL⟩ := X
  obtain ⟨hx, hb, hml, hown, hts, hK, hA, hlk, hR⟩ := C
  intro H locs ls hP hD hS hl
  exact lv_if_le hx hb hd ht (fun q => kt q H locs ls hP hD hS hl) (fun q => kf q H locs ls hP hD hS hl)
theorem mg_goto {X : mg_X} {cc : ByteArray} {Ts : List Cond} {rm : Room} {pc : Nat} {lv : List (Nat × Value)} {st : List Value} {h : mg_H} {off : Int} (tgt : Nat) (C : mg_ok X cc Ts rm) (hd : decode cc pc = .ok (.goto off, 3)) (ht : (pc : Int) + off = (tgt : Int)) (kk : mg_W X tgt lv st h) : mg_W X pc lv st h := by
  obtain ⟨p, l, e, R, s, m, args, below, meth, c, Q, D, cA, ad, A, nL⟩ := X
  obtain ⟨hx, hb, hml, hown, hts, hK, hA, hlk, hR⟩ := C
  intro H locs ls hP hD hS hl
  exact lv_goto hx hb hd ht (kk H locs ls hP hD hS hl)
theorem mg_tabIn {X : mg_X} {cc : ByteArray} {Ts : List Cond} {rm : Room} {pc : Nat} {lv : List (Nat × Value)} {st : List Value} {h : mg_H} {dflt lo hi : Int} {offs : Array Int} {len : Nat} {x : Int32} {off : Int} (tgt : Nat) (C : mg_ok X cc Ts rm) (hd : decode cc pc = .ok (.tableswitch dflt lo hi offs, len)) (h1 : ¬ x.toInt < lo) (h2 : ¬ hi < x.toInt) (ho : offs[(x.toInt - lo).toNat]? = some off) (ht : (pc : Int) + off = (tgt : Int)) (kk : mg_W X tgt lv st h) : mg_W X pc lv (.int x :: st) h := by
  obtain ⟨p, l, e, R, s, m, args, below, meth, c, Q, D, cA, ad, A, nL⟩ := X
  obtain ⟨hx, hb, hml, hown, hts, hK, hA, hlk, hR⟩ := C
  intro H locs ls hP hD hS hl
  exact lv_tableIn hx hb hd h1 h2 ho ht (kk H locs ls hP hD hS hl)
theorem mg_tabOut {X : mg_X} {cc : ByteArray} {Ts : List Cond} {rm : Room} {pc : Nat} {lv : List (Nat × Value)} {st : List Value} {h : mg_H} {dflt lo hi : Int} {offs : Array Int} {len : Nat} {x : Int32} (tgt : Nat) (C : mg_ok X cc Ts rm) (hd : decode cc pc = .ok (.tableswitch dflt lo hi offs, len)) (h1 : x.toInt < lo ∨ hi < x.toInt) (ht : (pc : Int) + dflt = (tgt : Int)) (kk : mg_W X tgt lv st h) : mg_W X pc lv (.int x :: st) h := by
  obtain ⟨p, l, e, R, s, m, args, below, meth, c, Q, D, cA, ad, A, nL⟩ := X
  obtain ⟨hx, hb, hml, hown, hts, hK, hA, hlk, hR⟩ := C
  intro H locs ls hP hD hS hl
  exact lv_tableOut hx hb hd h1 ht (kk H locs ls hP hD hS hl)
theorem mg_fv_i {ad : Nat → Nat} {h : mg_H} {j : Nat} (h0 : mg_kd j = 0) (h15 : j ≠ 15) : mg_fv ad h j = .int (mg_i h 0 j) := by rw [mg_fv, if_pos h0, if_neg h15]; rfl
theorem mg_fv_r {ad : Nat → Nat} {h : mg_H} {j : Nat} (h0 : mg_kd j ≠ 0) : mg_fv ad h j = .ref (ad j) := by rw [mg_fv, if_neg h0]
theorem mg_geti {X : mg_X} {cc : ByteArray} {Ts : List Cond} {rm : Room} {pc : Nat} {lv : List (Nat × Value)} {st : List Value} {h : mg_H} {i : Nat} (C : mg_ok X cc Ts rm) (hin : ∀ w ∈ wsX120, w ∈ Ts) (j : Nat) (hj : j < 61) (h0 : mg_kd j = 0) (h15 : j ≠ 15) (hd : decode cc pc = .ok (.getfield i, 3)) (hlk2 : Cond.fieldLink RX12 i (TX12 j).1 (TX12 j).2.1 (TX12 j).2.2.1 ∈ Ts) (kk : mg_W X (pc + 3) lv (.int (mg_i h 0 j) :: st) h) : mg_W X pc lv (.ref (mg_ad X 0) :: st) h := by
  obtain ⟨p, l, e, R, s, m, args, below, meth, c, Q, D, cA, ad, A, nL⟩ := X
  obtain ⟨hx, hb, hml, hown, hts, hK, hA, hlk, hR⟩ := C
  intro H locs ls hP hD hS hl
  exact va_get (D := D) (ci := 12) (C := RX12) (T := TX12) (N := 61) hx hb hts hin hown hK hP 0 (mg_ws_get (c := 0) (k := 0) rfl) rfl j hj (hts _ hlk2) (fun _ h9 => h9) ((mg_fs_get hj).trans (congrArg some (mg_fv_i h0 h15))) hd (kk H locs ls hP hD hS hl)
theorem mg_getr {X : mg_X} {cc : ByteArray} {Ts : List Cond} {rm : Room} {pc : Nat} {lv : List (Nat × Value)} {st : List Value} {h : mg_H} {i : Nat} (C : mg_ok X cc Ts rm) (hin : ∀ w ∈ wsX120, w ∈ Ts) (j : Nat) (hj : j < 61) (h0 : mg_kd j ≠ 0) (hd : decode cc pc = .ok (.getfield i, 3)) (hlk2 : Cond.fieldLink RX12 i (TX12 j).1 (TX12 j).2.1 (TX12 j).2.2.1 ∈ Ts) (kk : mg_W X (pc + 3) lv (.ref (mg_ad X j) :: st) h) : mg_W X pc lv (.ref (mg_ad X 0) :: st) h := by
  obtain ⟨p, l, e, R, s, m, args, below, meth, c, Q, D, cA, ad, A, nL⟩ := X
  obtain ⟨hx, hb, hml, hown, hts, hK, hA, hlk, hR⟩ := C
  intro H locs ls hP hD hS hl
  exact va_get (D := D) (ci := 12) (C := RX12) (T := TX12) (N := 61) hx hb hts hin hown hK hP 0 (mg_ws_get (c := 0) (k := 0) rfl) rfl j hj (hts _ hlk2) (fun _ h9 => h9) ((mg_fs_get hj).trans (congrArg some (mg_fv_r h0))) hd (kk H locs ls hP hD hS hl)
theorem mg_getl {X : mg_X} {cc : ByteArray} {Ts : List Cond} {rm : Room} {pc : Nat} {lv : List (Nat × Value)} {st : List Value} {h : mg_H} {i : Nat} (C : mg_ok X cc Ts rm) (hin : ∀ w ∈ wsX120, w ∈ Ts) (hd : decode cc pc = .ok (.getfield i, 3)) (hlk2 : Cond.fieldLink RX12 i (TX12 15).1 (TX12 15).2.1 (TX12 15).2.2.1 ∈ Ts) (kk : mg_W X (pc + 3) lv (.long (mg_l h 0 15) :: st) h) : mg_W X pc lv (.ref (mg_ad X 0) :: st) h := by
  obtain ⟨p, l, e, R, s, m, args, below, meth, c, Q, D, cA, ad, A, nL⟩ := X
  obtain ⟨hx, hb, hml, hown, hts, hK, hA, hlk, hR⟩ := C
  intro H locs ls hP hD hS hl
  exact va_get (D := D) (ci := 12) (C := RX12) (T := TX12) (N := 61) hx hb hts hin hown hK hP 0 (mg_ws_get (c := 0) (k := 0) rfl) rfl 15 (by decide) (hts _ hlk2) (fun _ h9 => h9) ((mg_fs_get (j := 15) (by decide)).trans (congrArg some (show mg_fv ad h 15 = .long (mg_l h 0 15) from rfl))) hd (kk H locs ls hP hD hS hl)
theorem mg_put_ws {cA : Nat → ClassId} {ad : Nat → Nat} {h : mg_H} {j : Nat} {v : Int32} (h0 : mg_kd j = 0) (h15 : j ≠ 15) : (mg_ws cA ad h).set 0 (ad 0, .inr (12, (mg_fs ad h).set j (.int v))) = mg_ws cA ad (mg_ui h 0 j v) := by
  have e1 : (mg_fs ad h).set j (.int v) = mg_fs ad (mg_ui h 0 j v) := mg_fs_set (by rw [mg_fv_i h0 h15]; simp [mg_i, mg_ui, mg_u]) (fun k hk => by
    have e2 : (mg_ui h 0 j v).1 0 k = h.1 0 k := by simp [mg_ui, mg_u, hk]
    rw [mg_fv, mg_fv, e2]; rfl)
  rw [e1]
  exact mg_ws_set (c := 0) rfl rfl mg_ui_0
theorem mg_putl_ws {cA : Nat → ClassId} {ad : Nat → Nat} {h : mg_H} {v : Int64} : (mg_ws cA ad h).set 0 (ad 0, .inr (12, (mg_fs ad h).set 15 (.long v))) = mg_ws cA ad (mg_ul h 0 15 v) := by
  have e1 : (mg_fs ad h).set 15 (.long v) = mg_fs ad (mg_ul h 0 15 v) := mg_fs_set (by rw [mg_fv, if_pos (show mg_kd 15 = 0 from rfl), if_pos rfl]; simp [mg_ul, mg_u]) (fun k hk => by
    have e2 : (mg_ul h 0 15 v).2 0 k = h.2 0 k := by simp [mg_ul, mg_u, hk]
    rw [mg_fv, mg_fv, e2]; rfl)
  rw [e1]
  refine mg_ws_set (c := 0) rfl rfl ?_
  intro d hm hd
  have e3 : (mg_ul h 0 15 v).2 d = h.2 d := by funext k; simp [mg_ul, mg_u, hd]
  have hk : mg_kd d ≠ 0 := mg_cs_kd d hm hd
  rw [mg_E, mg_E, e3, if_neg hk, if_neg hk]; rfl
theorem mg_puti {X : mg_X} {cc : ByteArray} {Ts : List Cond} {rm : Room} {pc : Nat} {lv : List (Nat × Value)} {st : List Value} {h : mg_H} {i : Nat} {v : Int32} (C : mg_ok X cc Ts rm) (hin : ∀ w ∈ wsX120, w ∈ Ts) (j : Nat) (hj : j < 61) (h0 : mg_kd j = 0) (h15 : j ≠ 15) (hd : decode cc pc = .ok (.putfield i, 3)) (hlk2 : Cond.fieldLink RX12 i (TX12 j).1 (TX12 j).2.1 (TX12 j).2.2.1 ∈ Ts) (hf : (TX12 j).2.2.2 = false) (hty : parseFieldDescriptor (TX12 j).2.2.1 = some .int) (kk : ∀ h2, h2 = mg_ui h 0 j v → mg_W X (pc + 3) lv st h2) : mg_W X pc lv (.int v :: .ref (mg_ad X 0) :: st) h := by
  obtain ⟨p, l, e, R, s, m, args, below, meth, c, Q, D, cA, ad, A, nL⟩ := X
  obtain ⟨hx, hb, hml, hown, hts, hK, hA, hlk, hR⟩ := C
  intro H locs ls hP hD hS hl
  refine va_put (D := D) (ci := 12) (v := .int v) (C := RX12) (T := TX12) (N := 61) (ty := .int) hx hb hts hin tyX12 tyX12_ok nmX12 hown hK hP hD hS 0 (mg_ws_get (c := 0) (k := 0) rfl) rfl j hj (hts _ hlk2) (fun _ h9 => h9) hf hty rfl rfl (by rw [mg_fs_len]; exact hj) hd (fun H2 locs2 hP2 hD2 hS2 => ?_)
  have e1 : _ = mg_ws cA ad (mg_ui h 0 j v) := mg_put_ws h0 h15
  rw [e1] at hP2 hD2
  exact kk _ rfl H2 locs2 ls hP2 hD2 hS2 hl
theorem mg_nb {v : Int32} (hv : mg_b v) : narrow .boolean (.int v) = .int v ∧ fits .boolean (.int v) = true := by
  rcases hv with rfl | rfl <;> exact ⟨by decide, by decide⟩
theorem mg_putz {X : mg_X} {cc : ByteArray} {Ts : List Cond} {rm : Room} {pc : Nat} {lv : List (Nat × Value)} {st : List Value} {h : mg_H} {i : Nat} {v : Int32} (C : mg_ok X cc Ts rm) (hin : ∀ w ∈ wsX120, w ∈ Ts) (j : Nat) (hj : j < 61) (h0 : mg_kd j = 0) (h15 : j ≠ 15) (hv : mg_b v) (hd : decode cc pc = .ok (.putfield i, 3)) (hlk2 : Cond.fieldLink RX12 i (TX12 j).1 (TX12 j).2.1 (TX12 j).2.2.1 ∈ Ts) (hf : (TX12 j).2.2.2 = false) (hty : parseFieldDescriptor (TX12 j).2.2.1 = some .boolean) (kk : ∀ h2, h2 = mg_ui h 0 j v → mg_W X (pc + 3) lv st h2) : mg_W X pc lv (.int v :: .ref (mg_ad X 0) :: st) h := by
  obtain ⟨p, l, e, R, s, m, args, below, meth, c, Q, D, cA, ad, A, nL⟩ := X
  obtain ⟨hx, hb, hml, hown, hts, hK, hA, hlk, hR⟩ := C
  intro H locs ls hP hD hS hl
  refine va_put (D := D) (ci := 12) (v := .int v) (C := RX12) (T := TX12) (N := 61) (ty := .boolean) hx hb hts hin tyX12 tyX12_ok nmX12 hown hK hP hD hS 0 (mg_ws_get (c := 0) (k := 0) rfl) rfl j hj (hts _ hlk2) (fun _ h9 => h9) hf hty (mg_nb hv).1 (mg_nb hv).2 (by rw [mg_fs_len]; exact hj) hd (fun H2 locs2 hP2 hD2 hS2 => ?_)
  have e1 : _ = mg_ws cA ad (mg_ui h 0 j v) := mg_put_ws h0 h15
  rw [e1] at hP2 hD2
  exact kk _ rfl H2 locs2 ls hP2 hD2 hS2 hl
theorem mg_putl {X : mg_X} {cc : ByteArray} {Ts : List Cond} {rm : Room} {pc : Nat} {lv : List (Nat × Value)} {st : List Value} {h : mg_H} {i : Nat} {v : Int64} (C : mg_ok X cc Ts rm) (hin : ∀ w ∈ wsX120, w ∈ Ts) (hd : decode cc pc = .ok (.putfield i, 3)) (hlk2 : Cond.fieldLink RX12 i (TX12 15).1 (TX12 15).2.1 (TX12 15).2.2.1 ∈ Ts) (kk : ∀ h2, h2 = mg_ul h 0 15 v → mg_W X (pc + 3) lv st h2) : mg_W X pc lv (.long v :: .ref (mg_ad X 0) :: st) h := by
  obtain ⟨p, l, e, R, s, m, args, below, meth, c, Q, D, cA, ad, A, nL⟩ := X
  obtain ⟨hx, hb, hml, hown, hts, hK, hA, hlk, hR⟩ := C
  intro H locs ls hP hD hS hl
  refine va_put (D := D) (ci := 12) (v := .long v) (C := RX12) (T := TX12) (N := 61) (ty := .long) hx hb hts hin tyX12 tyX12_ok nmX12 hown hK hP hD hS 0 (mg_ws_get (c := 0) (k := 0) rfl) rfl 15 (by decide) (hts _ hlk2) (fun _ h9 => h9) rfl (by decide +kernel) rfl rfl (by rw [mg_fs_len]; exact (by decide)) hd (fun H2 locs2 hP2 hD2 hS2 => ?_)
  have e1 : _ = mg_ws cA ad (mg_ul h 0 15 v) := mg_putl_ws
  rw [e1] at hP2 hD2
  exact kk _ rfl H2 locs2 ls hP2 hD2 hS2 hl
theorem mg_iald {X : mg_X} {cc : ByteArray} {Ts : List Cond} {rm : Room} {pc : Nat} {lv : List (Nat × Value)} {st : List Value} {h : mg_H} {c0 : Nat} {i : Int32} (C : mg_ok X cc Ts rm) (hc : c0 ∈ mg_cs) (hk : mg_kd c0 = 2) (hi : vp_in i (mg_len c0)) (hd : decode cc pc = .ok (.iaload, 1)) (kk : mg_W X (pc + 1) lv (.int (mg_i h c0 i.toNatClampNeg) :: st) h) : mg_W X pc lv (.int i :: .ref (mg_ad X c0) :: st) h := by
  obtain ⟨p, l, e, R, s, m, args, below, meth, c, Q, D, cA, ad, A, nL⟩ := X
  obtain ⟨hx, hb, hml, hown, hts, hK, hA, hlk, hR⟩ := C
  intro H locs ls hP hD hS hl
  obtain ⟨k, hk2⟩ := mg_cs_get c0 hc
  obtain ⟨t0, ht0⟩ := mg_ty_get (cA := cA) hc hk (by decide)
  exact va_iald hx hb hK hP k t0 (mg_ws_int hk2 hk (by decide) (by decide)) ht0 hi hd (kk H locs ls hP hD hS hl)
theorem mg_bald {X : mg_X} {cc : ByteArray} {Ts : List Cond} {rm : Room} {pc : Nat} {lv : List (Nat × Value)} {st : List Value} {h : mg_H} {c0 : Nat} {i : Int32} (C : mg_ok X cc Ts rm) (hc : c0 ∈ mg_cs) (hk : mg_kd c0 = 1) (hi : vp_in i (mg_len c0)) (hd : decode cc pc = .ok (.baload, 1)) (kk : mg_W X (pc + 1) lv (.int (mg_i h c0 i.toNatClampNeg) :: st) h) : mg_W X pc lv (.int i :: .ref (mg_ad X c0) :: st) h := by
  obtain ⟨p, l, e, R, s, m, args, below, meth, c, Q, D, cA, ad, A, nL⟩ := X
  obtain ⟨hx, hb, hml, hown, hts, hK, hA, hlk, hR⟩ := C
  intro H locs ls hP hD hS hl
  obtain ⟨k, hk2⟩ := mg_cs_get c0 hc
  obtain ⟨t0, ht0⟩ := mg_ty_get (cA := cA) hc hk (by decide)
  exact va_bald hx hb hK hP k t0 (mg_ws_int hk2 hk (by decide) (by decide)) ht0 hi hd (kk H locs ls hP hD hS hl)
theorem mg_zald {X : mg_X} {cc : ByteArray} {Ts : List Cond} {rm : Room} {pc : Nat} {lv : List (Nat × Value)} {st : List Value} {h : mg_H} {c0 : Nat} {i : Int32} (C : mg_ok X cc Ts rm) (hc : c0 ∈ mg_cs) (hk : mg_kd c0 = 4) (hi : vp_in i (mg_len c0)) (hd : decode cc pc = .ok (.baload, 1)) (kk : mg_W X (pc + 1) lv (.int (mg_i h c0 i.toNatClampNeg) :: st) h) : mg_W X pc lv (.int i :: .ref (mg_ad X c0) :: st) h := by
  obtain ⟨p, l, e, R, s, m, args, below, meth, c, Q, D, cA, ad, A, nL⟩ := X
  obtain ⟨hx, hb, hml, hown, hts, hK, hA, hlk, hR⟩ := C
  intro H locs ls hP hD hS hl
  obtain ⟨k, hk2⟩ := mg_cs_get c0 hc
  obtain ⟨t0, ht0⟩ := mg_ty_get (cA := cA) hc hk (by decide)
  exact va_zald hx hb hK hP k t0 (mg_ws_int hk2 hk (by decide) (by decide)) ht0 hi hd (kk H locs ls hP hD hS hl)
theorem mg_lald {X : mg_X} {cc : ByteArray} {Ts : List Cond} {rm : Room} {pc : Nat} {lv : List (Nat × Value)} {st : List Value} {h : mg_H} {c0 : Nat} {i : Int32} (C : mg_ok X cc Ts rm) (hc : c0 ∈ mg_cs) (hk : mg_kd c0 = 3) (hi : vp_in i (mg_len c0)) (hd : decode cc pc = .ok (.laload, 1)) (kk : mg_W X (pc + 1) lv (.long (mg_l h c0 i.toNatClampNeg) :: st) h) : mg_W X pc lv (.int i :: .ref (mg_ad X c0) :: st) h := by
  obtain ⟨p, l, e, R, s, m, args, below, meth, c, Q, D, cA, ad, A, nL⟩ := X
  obtain ⟨hx, hb, hml, hown, hts, hK, hA, hlk, hR⟩ := C
  intro H locs ls hP hD hS hl
  obtain ⟨k, hk2⟩ := mg_cs_get c0 hc
  obtain ⟨t0, ht0⟩ := mg_ty_get (cA := cA) hc hk (by decide)
  exact va_lald hx hb hK hP k t0 (mg_ws_long hk2 hk) ht0 hi hd (kk H locs ls hP hD hS hl)
theorem mg_iast {X : mg_X} {cc : ByteArray} {Ts : List Cond} {rm : Room} {pc : Nat} {lv : List (Nat × Value)} {st : List Value} {h : mg_H} {c0 : Nat} {i v : Int32} (C : mg_ok X cc Ts rm) (hc : c0 ∈ mg_cs) (hk : mg_kd c0 = 2) (hi : vp_in i (mg_len c0)) (hd : decode cc pc = .ok (.iastore, 1)) (kk : ∀ h2, h2 = mg_ui h c0 i.toNatClampNeg v → mg_W X (pc + 1) lv st h2) : mg_W X pc lv (.int v :: .int i :: .ref (mg_ad X c0) :: st) h := by
  obtain ⟨p, l, e, R, s, m, args, below, meth, c, Q, D, cA, ad, A, nL⟩ := X
  obtain ⟨hx, hb, hml, hown, hts, hK, hA, hlk, hR⟩ := C
  intro H locs ls hP hD hS hl
  obtain ⟨k, hk2⟩ := mg_cs_get c0 hc
  obtain ⟨t0, ht0⟩ := mg_ty_get (cA := cA) hc hk (by decide)
  refine va_iast hx hb hK hP hD hS k t0 (mg_ws_int hk2 hk (by decide) (by decide)) ht0 hi hd (fun H2 locs2 hP2 hD2 hS2 => ?_)
  have e1 : (mg_ws cA ad h).set k (ad c0, .inl (cA c0, mg_len c0, .inl (upd (h.1 c0) i.toNatClampNeg v))) = mg_ws cA ad (mg_ui h c0 i.toNatClampNeg v) := mg_ws_set hk2 (by rw [mg_E_int hk (by decide) (by decide), mg_ui_row]) (fun d _ hd2 => mg_ui_E (by rw [hk]; decide) d hd2)
  have hP2 : va_P D vwCl ((mg_ws cA ad h).set k (ad c0, .inl (cA c0, mg_len c0, .inl (upd (h.1 c0) i.toNatClampNeg v)))) H2 := hP2
  have hD2 : va_D A ((mg_ws cA ad h).set k (ad c0, .inl (cA c0, mg_len c0, .inl (upd (h.1 c0) i.toNatClampNeg v)))) := hD2
  rw [e1] at hP2 hD2
  exact kk _ rfl H2 locs2 ls hP2 hD2 hS2 hl
theorem mg_bast {X : mg_X} {cc : ByteArray} {Ts : List Cond} {rm : Room} {pc : Nat} {lv : List (Nat × Value)} {st : List Value} {h : mg_H} {c0 : Nat} {i v : Int32} (C : mg_ok X cc Ts rm) (hc : c0 ∈ mg_cs) (hk : mg_kd c0 = 1) (hi : vp_in i (mg_len c0)) (hd : decode cc pc = .ok (.bastore, 1)) (kk : ∀ h2, h2 = mg_ui h c0 i.toNatClampNeg (vp_nar .byte v) → mg_W X (pc + 1) lv st h2) : mg_W X pc lv (.int v :: .int i :: .ref (mg_ad X c0) :: st) h := by
  obtain ⟨p, l, e, R, s, m, args, below, meth, c, Q, D, cA, ad, A, nL⟩ := X
  obtain ⟨hx, hb, hml, hown, hts, hK, hA, hlk, hR⟩ := C
  intro H locs ls hP hD hS hl
  obtain ⟨k, hk2⟩ := mg_cs_get c0 hc
  obtain ⟨t0, ht0⟩ := mg_ty_get (cA := cA) hc hk (by decide)
  refine va_bast hx hb hK hP hD hS k t0 (mg_ws_int hk2 hk (by decide) (by decide)) ht0 hi hd (fun H2 locs2 hP2 hD2 hS2 => ?_)
  have e1 : (mg_ws cA ad h).set k (ad c0, .inl (cA c0, mg_len c0, .inl (upd (h.1 c0) i.toNatClampNeg (vp_nar .byte v)))) = mg_ws cA ad (mg_ui h c0 i.toNatClampNeg (vp_nar .byte v)) := mg_ws_set hk2 (by rw [mg_E_int hk (by decide) (by decide), mg_ui_row]) (fun d _ hd2 => mg_ui_E (by rw [hk]; decide) d hd2)
  have hP2 : va_P D vwCl ((mg_ws cA ad h).set k (ad c0, .inl (cA c0, mg_len c0, .inl (upd (h.1 c0) i.toNatClampNeg (vp_nar .byte v))))) H2 := hP2
  have hD2 : va_D A ((mg_ws cA ad h).set k (ad c0, .inl (cA c0, mg_len c0, .inl (upd (h.1 c0) i.toNatClampNeg (vp_nar .byte v))))) := hD2
  rw [e1] at hP2 hD2
  exact kk _ rfl H2 locs2 ls hP2 hD2 hS2 hl
theorem mg_zast {X : mg_X} {cc : ByteArray} {Ts : List Cond} {rm : Room} {pc : Nat} {lv : List (Nat × Value)} {st : List Value} {h : mg_H} {c0 : Nat} {i v : Int32} (C : mg_ok X cc Ts rm) (hc : c0 ∈ mg_cs) (hk : mg_kd c0 = 4) (hi : vp_in i (mg_len c0)) (hd : decode cc pc = .ok (.bastore, 1)) (kk : ∀ h2, h2 = mg_ui h c0 i.toNatClampNeg (vp_nar .boolean v) → mg_W X (pc + 1) lv st h2) : mg_W X pc lv (.int v :: .int i :: .ref (mg_ad X c0) :: st) h := by
  obtain ⟨p, l, e, R, s, m, args, below, meth, c, Q, D, cA, ad, A, nL⟩ := X
  obtain ⟨hx, hb, hml, hown, hts, hK, hA, hlk, hR⟩ := C
  intro H locs ls hP hD hS hl
  obtain ⟨k, hk2⟩ := mg_cs_get c0 hc
  obtain ⟨t0, ht0⟩ := mg_ty_get (cA := cA) hc hk (by decide)
  refine va_zast hx hb hK hP hD hS k t0 (mg_ws_int hk2 hk (by decide) (by decide)) ht0 hi hd (fun H2 locs2 hP2 hD2 hS2 => ?_)
  have e1 : (mg_ws cA ad h).set k (ad c0, .inl (cA c0, mg_len c0, .inl (upd (h.1 c0) i.toNatClampNeg (vp_nar .boolean v)))) = mg_ws cA ad (mg_ui h c0 i.toNatClampNeg (vp_nar .boolean v)) := mg_ws_set hk2 (by rw [mg_E_int hk (by decide) (by decide), mg_ui_row]) (fun d _ hd2 => mg_ui_E (by rw [hk]; decide) d hd2)
  have hP2 : va_P D vwCl ((mg_ws cA ad h).set k (ad c0, .inl (cA c0, mg_len c0, .inl (upd (h.1 c0) i.toNatClampNeg (vp_nar .boolean v))))) H2 := hP2
  have hD2 : va_D A ((mg_ws cA ad h).set k (ad c0, .inl (cA c0, mg_len c0, .inl (upd (h.1 c0) i.toNatClampNeg (vp_nar .boolean v))))) := hD2
  rw [e1] at hP2 hD2
  exact kk _ rfl H2 locs2 ls hP2 hD2 hS2 hl
theorem mg_last {X : mg_X} {cc : ByteArray} {Ts : List Cond} {rm : Room} {pc : Nat} {lv : List (Nat × Value)} {st : List Value} {h : mg_H} {c0 : Nat} {i : Int32} {v : Int64} (C : mg_ok X cc Ts rm) (hc : c0 ∈ mg_cs) (hk : mg_kd c0 = 3) (hi : vp_in i (mg_len c0)) (hd : decode cc pc = .ok (.lastore, 1)) (kk : ∀ h2, h2 = mg_ul h c0 i.toNatClampNeg v → mg_W X (pc + 1) lv st h2) : mg_W X pc lv (.long v :: .int i :: .ref (mg_ad X c0) :: st) h := by
  obtain ⟨p, l, e, R, s, m, args, below, meth, c, Q, D, cA, ad, A, nL⟩ := X
  obtain ⟨hx, hb, hml, hown, hts, hK, hA, hlk, hR⟩ := C
  intro H locs ls hP hD hS hl
  obtain ⟨k, hk2⟩ := mg_cs_get c0 hc
  obtain ⟨t0, ht0⟩ := mg_ty_get (cA := cA) hc hk (by decide)
  refine va_last hx hb hK hP hD hS k t0 (mg_ws_long hk2 hk) ht0 hi hd (fun H2 locs2 hP2 hD2 hS2 => ?_)
  have e1 : (mg_ws cA ad h).set k (ad c0, .inl (cA c0, mg_len c0, .inr (.inl (vp_updL (h.2 c0) i.toNatClampNeg v)))) = mg_ws cA ad (mg_ul h c0 i.toNatClampNeg v) := mg_ws_set hk2 (by rw [mg_E_long hk, mg_ul_row]) (fun d _ hd2 => mg_ul_E (by rw [hk]; decide) d hd2)
  have hP2 : va_P D vwCl ((mg_ws cA ad h).set k (ad c0, .inl (cA c0, mg_len c0, .inr (.inl (vp_updL (h.2 c0) i.toNatClampNeg v))))) H2 := hP2
  have hD2 : va_D A ((mg_ws cA ad h).set k (ad c0, .inl (cA c0, mg_len c0, .inr (.inl (vp_updL (h.2 c0) i.toNatClampNeg v))))) := hD2
  rw [e1] at hP2 hD2
  exact kk _ rfl H2 locs2 ls hP2 hD2 hS2 hl
-- a contract: from every state of the reference at which wp holds, the method comes back with a state (and an answer) at which Q holds
def mg_Pre (D : va_G) (cA : Nat → ClassId) (ad : Nat → Nat) (h : mg_H) (sz : Nat) (U : State) : Prop := U.heap.size = sz ∧ va_P D vwCl (mg_ws cA ad h) U.heap ∧ va_K D vwCl (mg_ty cA) U ∧ va_D (fun _ => True) (mg_ws cA ad h)
def mg_B (D : va_G) (cA : Nat → ClassId) (ad : Nat → Nat) (A : Nat → Prop) (h : mg_H) (t : State) : Prop := va_P D vwCl (mg_ws cA ad h) t.heap ∧ va_K D vwCl (mg_ty cA) t ∧ va_D A (mg_ws cA ad h)
def mg_A (cA : Nat → ClassId) (ad : Nat → Nat) (h : mg_H) (sz : Nat) : Nat → Prop := va_A (mg_ws cA ad h) sz
def mg_MI (y : MethodName) (ws : List Cond) (rm : Room) (av : (Nat → Nat) → List Value) (wp : (Int32 → mg_H → Prop) → mg_H → Prop) : Prop := ∀ (l : Launch) (D : va_G) (cA : Nat → ClassId) (ad : Nat → Nat) (h : mg_H) (sz : Nat) (Q : Int32 → mg_H → Prop), wp Q h → Met l y ws rm (va_Pc (av ad) (mg_Pre D cA ad h sz)) (va_Qi Q (mg_B D cA ad (mg_A cA ad h sz)) (mg_A cA ad h sz)) 0 0 (mg_A cA ad h sz)
def mg_ML (y : MethodName) (ws : List Cond) (rm : Room) (av : (Nat → Nat) → List Value) (wp : (Int64 → mg_H → Prop) → mg_H → Prop) : Prop := ∀ (l : Launch) (D : va_G) (cA : Nat → ClassId) (ad : Nat → Nat) (h : mg_H) (sz : Nat) (Q : Int64 → mg_H → Prop), wp Q h → Met l y ws rm (va_Pc (av ad) (mg_Pre D cA ad h sz)) (va_Ql Q (mg_B D cA ad (mg_A cA ad h sz)) (mg_A cA ad h sz)) 0 0 (mg_A cA ad h sz)
def mg_MV (y : MethodName) (ws : List Cond) (rm : Room) (av : (Nat → Nat) → List Value) (wp : (mg_H → Prop) → mg_H → Prop) : Prop := ∀ (l : Launch) (D : va_G) (cA : Nat → ClassId) (ad : Nat → Nat) (h : mg_H) (sz : Nat) (Q : mg_H → Prop), wp Q h → Met l y ws rm (va_Pc (av ad) (mg_Pre D cA ad h sz)) (va_Qv Q (mg_B D cA ad (mg_A cA ad h sz)) (mg_A cA ad h sz)) 0 0 (mg_A cA ad h sz)
def mg_EI (X : mg_X) (ty : FieldType) (Qr : Int32 → mg_H → Prop) : Prop := match X with
  | (_, _, _, _, s, _, args, below, meth, _, Q, D, cA, ad, A, _) => Q = MQ below (va_Qi Qr (mg_B D cA ad A) A) args s 0 0 A ∧ meth.sig.returnType = some ty
def mg_EL (X : mg_X) (Qr : Int64 → mg_H → Prop) : Prop := match X with
  | (_, _, _, _, s, _, args, below, meth, _, Q, D, cA, ad, A, _) => Q = MQ below (va_Ql Qr (mg_B D cA ad A) A) args s 0 0 A ∧ meth.sig.returnType = some .long
def mg_EV (X : mg_X) (Qr : mg_H → Prop) : Prop := match X with
  | (_, _, _, _, s, _, args, below, meth, _, Q, D, cA, ad, A, _) => Q = MQ below (va_Qv Qr (mg_B D cA ad A) A) args s 0 0 A ∧ meth.sig.returnType = none
theorem mg_blind (av : List Value) (D : va_G) (cA : Nat → ClassId) (ad : Nat → Nat) (h : mg_H) (sz : Nat) : FrameBlind (va_Pc av (mg_Pre D cA ad h sz)) := fun a U g mk q => by
  obtain ⟨q0, q1, qP, qK, qD⟩ := q
  exact ⟨q0, q1, qP, va_K.moved (u := U) (U := U.calling g mk a) (Vm.Alike.refl U.vm) qK, qD⟩
theorem mg_startI {y : MethodName} {ws ws2 : List Cond} {rm : Room} {cc : ByteArray} {maxL : Nat} {ty : FieldType} {av : (Nat → Nat) → List Value} {wp : (Int32 → mg_H → Prop) → mg_H → Prop} (hy : plainName y.cls = true) (hcls : y.cls = RX12) (hw : ws = Cond.code y cc maxL (some ty) :: ws2) (hlen : ∀ ad, (lg_sl (av ad)).length ≤ maxL) (body : ∀ (X : mg_X) (Q : Int32 → mg_H → Prop) (h : mg_H), mg_ok X cc ws rm → mg_nL X maxL → mg_EI X ty Q → wp Q h → mg_W X 0 (lv_args 0 (av (mg_ad X))) [] h) : mg_MI y ws rm av wp := by
  intro l D cA ad h sz Q hwp
  refine Met.ofW (cc := cc) (maxL := maxL) (ret := (some ty)) hy hw ?_
  intro p e s m args below meth c s₁ B hml hv
  obtain ⟨rfl, hsz, hP, hK, hD0⟩ := hv
  have hown : s.vm.findClass RX12 = some m.cls := hcls ▸ findClass_of_methodNamed B.named
  have hts := atoms_spec (ws := ws) B.pre
  subst hsz
  have hD := hD0.self (sz := s.heap.size)
  have hA : ∀ q : Nat, s.heap.size ≤ q → mg_A cA ad h s.heap.size q := fun q h => Or.inr h
  have hS : va_S (mg_A cA ad h s.heap.size) s.heap s.heap [] := va_S.rf
  have hl := lv_entry (av ad) (n := maxL) (hlen ad)
  rw [lg_entry_eq]
  exact body (p, l, e, rm, s, m, (av ad).toArray, below, meth, c, _, D, cA, ad, mg_A cA ad h s.heap.size, maxL) Q h ⟨B.exec, B.bytes, hml, hown, hts, hK, hA, B.notSynchronized, rfl⟩ rfl ⟨rfl, B.returns⟩ hwp s.heap [] _ hP hD hS hl
theorem mg_startL {y : MethodName} {ws ws2 : List Cond} {rm : Room} {cc : ByteArray} {maxL : Nat} {av : (Nat → Nat) → List Value} {wp : (Int64 → mg_H → Prop) → mg_H → Prop} (hy : plainName y.cls = true) (hcls : y.cls = RX12) (hw : ws = Cond.code y cc maxL (some .long) :: ws2) (hlen : ∀ ad, (lg_sl (av ad)).length ≤ maxL) (body : ∀ (X : mg_X) (Q : Int64 → mg_H → Prop) (h : mg_H), mg_ok X cc ws rm → mg_nL X maxL → mg_EL X Q → wp Q h → mg_W X 0 (lv_args 0 (av (mg_ad X))) [] h) : mg_ML y ws rm av wp := by
  intro l D cA ad h sz Q hwp
  refine Met.ofW (cc := cc) (maxL := maxL) (ret := (some .long)) hy hw ?_
  intro p e s m args below meth c s₁ B hml hv
  obtain ⟨rfl, hsz, hP, hK, hD0⟩ := hv
  have hown : s.vm.findClass RX12 = some m.cls := hcls ▸ findClass_of_methodNamed B.named
  have hts := atoms_spec (ws := ws) B.pre
  subst hsz
  have hD := hD0.self (sz := s.heap.size)
  have hA : ∀ q : Nat, s.heap.size ≤ q → mg_A cA ad h s.heap.size q := fun q h => Or.inr h
  have hS : va_S (mg_A cA ad h s.heap.size) s.heap s.heap [] := va_S.rf
  have hl := lv_entry (av ad) (n := maxL) (hlen ad)
  rw [lg_entry_eq]
  exact body (p, l, e, rm, s, m, (av ad).toArray, below, meth, c, _, D, cA, ad, mg_A cA ad h s.heap.size, maxL) Q h ⟨B.exec, B.bytes, hml, hown, hts, hK, hA, B.notSynchronized, rfl⟩ rfl ⟨rfl, B.returns⟩ hwp s.heap [] _ hP hD hS hl
theorem mg_startV {y : MethodName} {ws ws2 : List Cond} {rm : Room} {cc : ByteArray} {maxL : Nat} {av : (Nat → Nat) → List Value} {wp : (mg_H → Prop) → mg_H → Prop} (hy : plainName y.cls = true) (hcls : y.cls = RX12) (hw : ws = Cond.code y cc maxL none :: ws2) (hlen : ∀ ad, (lg_sl (av ad)).length ≤ maxL) (body : ∀ (X : mg_X) (Q : mg_H → Prop) (h : mg_H), mg_ok X cc ws rm → mg_nL X maxL → mg_EV X Q → wp Q h → mg_W X 0 (lv_args 0 (av (mg_ad X))) [] h) : mg_MV y ws rm av wp := by
  intro l D cA ad h sz Q hwp
  refine Met.ofW (cc := cc) (maxL := maxL) (ret := none) hy hw ?_
  intro p e s m args below meth c s₁ B hml hv
  obtain ⟨rfl, hsz, hP, hK, hD0⟩ := hv
  have hown : s.vm.findClass RX12 = some m.cls := hcls ▸ findClass_of_methodNamed B.named
  have hts := atoms_spec (ws := ws) B.pre
  subst hsz
  have hD := hD0.self (sz := s.heap.size)
  have hA : ∀ q : Nat, s.heap.size ≤ q → mg_A cA ad h s.heap.size q := fun q h => Or.inr h
  have hS : va_S (mg_A cA ad h s.heap.size) s.heap s.heap [] := va_S.rf
  have hl := lv_entry (av ad) (n := maxL) (hlen ad)
  rw [lg_entry_eq]
  exact body (p, l, e, rm, s, m, (av ad).toArray, below, meth, c, _, D, cA, ad, mg_A cA ad h s.heap.size, maxL) Q h ⟨B.exec, B.bytes, hml, hown, hts, hK, hA, B.notSynchronized, rfl⟩ rfl ⟨rfl, B.returns⟩ hwp s.heap [] _ hP hD hS hl
theorem mg_retI {X : mg_X} {cc : ByteArray} {Ts : List Cond} {rm : Room} {pc : Nat} {lv : List (Nat × Value)} {h : mg_H} {v : Int32} {Qr : Int32 → mg_H → Prop} (C : mg_ok X cc Ts rm) (E : mg_EI X .int Qr) (hd : decode cc pc = .ok (.ireturn, 1)) (hq : Qr v h) : mg_W X pc lv [.int v] h := by
  obtain ⟨p, l, e, R, s, m, args, below, meth, c, Q, D, cA, ad, A, nL⟩ := X
  obtain ⟨hx, hb, hml, hown, hts, hK, hA, hlk, hR⟩ := C
  intro H locs ls hP hD hS hl
  obtain ⟨hQ, hr⟩ := E
  have hQ2 : Q = _ := hQ
  subst hQ2
  exact W.iret (hlocks := hlk) hx hb hr (fun t ht hW => ⟨⟨v, h, rfl, hq, by rw [ht]; exact hP, va_K.moved hW.alike hK, hD⟩, hS.F ht⟩) hS.2.2 hd
theorem mg_retZ {X : mg_X} {cc : ByteArray} {Ts : List Cond} {rm : Room} {pc : Nat} {lv : List (Nat × Value)} {h : mg_H} {v : Int32} {Qr : Int32 → mg_H → Prop} (C : mg_ok X cc Ts rm) (E : mg_EI X .boolean Qr) (hv : mg_b v) (hd : decode cc pc = .ok (.ireturn, 1)) (hq : Qr v h) : mg_W X pc lv [.int v] h := by
  obtain ⟨p, l, e, R, s, m, args, below, meth, c, Q, D, cA, ad, A, nL⟩ := X
  obtain ⟨hx, hb, hml, hown, hts, hK, hA, hlk, hR⟩ := C
  intro H locs ls hP hD hS hl
  obtain ⟨hQ, hr⟩ := E
  have hQ2 : Q = _ := hQ
  subst hQ2
  exact W.zret (hlocks := hlk) hx hb hr (mg_nb hv).1 (fun t ht hW => ⟨⟨v, h, rfl, hq, by rw [ht]; exact hP, va_K.moved hW.alike hK, hD⟩, hS.F ht⟩) hS.2.2 hd
theorem mg_retL {X : mg_X} {cc : ByteArray} {Ts : List Cond} {rm : Room} {pc : Nat} {lv : List (Nat × Value)} {h : mg_H} {v : Int64} {Qr : Int64 → mg_H → Prop} (C : mg_ok X cc Ts rm) (E : mg_EL X Qr) (hd : decode cc pc = .ok (.lreturn, 1)) (hq : Qr v h) : mg_W X pc lv [.long v] h := by
  obtain ⟨p, l, e, R, s, m, args, below, meth, c, Q, D, cA, ad, A, nL⟩ := X
  obtain ⟨hx, hb, hml, hown, hts, hK, hA, hlk, hR⟩ := C
  intro H locs ls hP hD hS hl
  obtain ⟨hQ, hr⟩ := E
  have hQ2 : Q = _ := hQ
  subst hQ2
  exact W.lret (hlocks := hlk) hx hb hr (fun t ht hW => ⟨⟨v, h, rfl, hq, by rw [ht]; exact hP, va_K.moved hW.alike hK, hD⟩, hS.F ht⟩) hS.2.2 hd
theorem mg_retV {X : mg_X} {cc : ByteArray} {Ts : List Cond} {rm : Room} {pc : Nat} {lv : List (Nat × Value)} {h : mg_H} {Qr : mg_H → Prop} (C : mg_ok X cc Ts rm) (E : mg_EV X Qr) (hd : decode cc pc = .ok (.return_, 1)) (hq : Qr h) : mg_W X pc lv [] h := by
  obtain ⟨p, l, e, R, s, m, args, below, meth, c, Q, D, cA, ad, A, nL⟩ := X
  obtain ⟨hx, hb, hml, hown, hts, hK, hA, hlk, hR⟩ := C
  intro H locs ls hP hD hS hl
  obtain ⟨hQ, hr⟩ := E
  have hQ2 : Q = _ := hQ
  subst hQ2
  exact W.vret (hlocks := hlk) hx hb hr (fun t ht hW => ⟨⟨h, rfl, hq, by rw [ht]; exact hP, va_K.moved hW.alike hK, hD⟩, hS.F ht⟩) hS.2.2 hd
theorem mg_cvI {X : mg_X} {cc : ByteArray} {Ts : List Cond} {rm : Room} {pc : Nat} {lv : List (Nat × Value)} {st : List Value} {h : mg_H} {y : MethodName} {ws ws2 : List Cond} {rmN : Room} {bytes : ByteArray} {maxL n idx : Nat} {ret : Option FieldType} {stk : List Value} {Qr : Int32 → mg_H → Prop} {wp : (Int32 → mg_H → Prop) → mg_H → Prop} (C : mg_ok X cc Ts rm) (As : (Nat → Nat) → List Value) (hM : mg_MI y ws rmN (fun ad => .ref (ad 0) :: As ad) wp) (hg : GoodIn Ts (wsV RX12 idx RX12 y ws)) (hw : ws = Cond.code y bytes maxL ret :: ws2) (hcs : rmN.cells = 0 ∧ rmN.slots = 0) (hd2 : y.cls = RX12 ∧ y.cls ≠ "java/lang/invoke/MethodHandle" ∧ y.cls ≠ "java/lang/invoke/VarHandle" ∧ (parseMethodDescriptor y.desc).map (fun d => d.parameters.length) = some n) (hRm : rmN.frames + 1 ≤ rm.frames ∧ 8 + (maxL + 11) + rmN.locals ≤ rm.locals) (hn : (As (mg_ad X)).length = n) (hst : stk = (As (mg_ad X)).reverse ++ .ref (mg_ad X 0) :: st) (hcat : (st.map fun v => v.category).sum ≤ 8) (hd : decode cc pc = .ok (.invokevirtual idx, 3)) (hF : wp Qr h) (kk : ∀ (r : Int32) (h2 : mg_H), Qr r h2 → mg_W X (pc + 3) lv (.int r :: st) h2) : mg_W X pc lv stk h := by
  obtain ⟨p, l, e, R, s, m, args, below, meth, c, Q, D, cA, ad, A, nL⟩ := X
  obtain ⟨hx, hb, hml, hown, hts, hK, hA, hlk, hR⟩ := C
  intro H locs ls hP hD hS hl
  have hFc : ∀ q, va_A (mg_ws cA ad h) H.size q → A q := fun q hq => hq.elim (fun ⟨k, e9, hk⟩ => hD.2 k _ hk) (fun hq => hA q (Nat.le_trans hS.1 hq))
  subst hR
  subst hst
  refine va_calli (va_runV (As := (As ad)) (rest := st) ⟨hx, hb, hml, hown, hts⟩ (hM l D cA ad h H.size Qr hF) (cwV n hts hg hw hcs.1 hcs.2 hd2 hRm) ⟨mg_blind _ _ _ _ _ _, va_recv hK hP (ci := 12) (q0 := 0) rfl (mg_ws_get (c := 0) (k := 0) rfl), fun U hU hW => ⟨rfl, by rw [hU], by rw [hU]; exact hP, va_K.moved hW.alike hK, hD.weaken (fun _ _ _ _ => trivial)⟩⟩ rfl hn hl.1 rfl (lv_room hcat) hd ⟨Nat.zero_le _, Nat.zero_le _⟩) hS (fun q _ h9 => hFc q h9) hFc (fun r u t H1 locs1 ht hvm hw9 hB hz1 hk1 hS1 => ?_)
  obtain ⟨hP1, hK1, hD1⟩ := hB
  rw [ht] at hP1
  exact kk r u hw9 H1 locs1 ls hP1 ⟨hD1.1, fun k q hq => hFc _ (hD1.2 k q hq)⟩ hS1 hl
theorem mg_cvL {X : mg_X} {cc : ByteArray} {Ts : List Cond} {rm : Room} {pc : Nat} {lv : List (Nat × Value)} {st : List Value} {h : mg_H} {y : MethodName} {ws ws2 : List Cond} {rmN : Room} {bytes : ByteArray} {maxL n idx : Nat} {ret : Option FieldType} {stk : List Value} {Qr : Int64 → mg_H → Prop} {wp : (Int64 → mg_H → Prop) → mg_H → Prop} (C : mg_ok X cc Ts rm) (As : (Nat → Nat) → List Value) (hM : mg_ML y ws rmN (fun ad => .ref (ad 0) :: As ad) wp) (hg : GoodIn Ts (wsV RX12 idx RX12 y ws)) (hw : ws = Cond.code y bytes maxL ret :: ws2) (hcs : rmN.cells = 0 ∧ rmN.slots = 0) (hd2 : y.cls = RX12 ∧ y.cls ≠ "java/lang/invoke/MethodHandle" ∧ y.cls ≠ "java/lang/invoke/VarHandle" ∧ (parseMethodDescriptor y.desc).map (fun d => d.parameters.length) = some n) (hRm : rmN.frames + 1 ≤ rm.frames ∧ 8 + (maxL + 11) + rmN.locals ≤ rm.locals) (hn : (As (mg_ad X)).length = n) (hst : stk = (As (mg_ad X)).reverse ++ .ref (mg_ad X 0) :: st) (hcat : (st.map fun v => v.category).sum ≤ 8) (hd : decode cc pc = .ok (.invokevirtual idx, 3)) (hF : wp Qr h) (kk : ∀ (r : Int64) (h2 : mg_H), Qr r h2 → mg_W X (pc + 3) lv (.long r :: st) h2) : mg_W X pc lv stk h := by
  obtain ⟨p, l, e, R, s, m, args, below, meth, c, Q, D, cA, ad, A, nL⟩ := X
  obtain ⟨hx, hb, hml, hown, hts, hK, hA, hlk, hR⟩ := C
  intro H locs ls hP hD hS hl
  have hFc : ∀ q, va_A (mg_ws cA ad h) H.size q → A q := fun q hq => hq.elim (fun ⟨k, e9, hk⟩ => hD.2 k _ hk) (fun hq => hA q (Nat.le_trans hS.1 hq))
  subst hR
  subst hst
  refine va_calll (va_runV (As := (As ad)) (rest := st) ⟨hx, hb, hml, hown, hts⟩ (hM l D cA ad h H.size Qr hF) (cwV n hts hg hw hcs.1 hcs.2 hd2 hRm) ⟨mg_blind _ _ _ _ _ _, va_recv hK hP (ci := 12) (q0 := 0) rfl (mg_ws_get (c := 0) (k := 0) rfl), fun U hU hW => ⟨rfl, by rw [hU], by rw [hU]; exact hP, va_K.moved hW.alike hK, hD.weaken (fun _ _ _ _ => trivial)⟩⟩ rfl hn hl.1 rfl (lv_room hcat) hd ⟨Nat.zero_le _, Nat.zero_le _⟩) hS (fun q _ h9 => hFc q h9) hFc (fun r u t H1 locs1 ht hvm hw9 hB hz1 hk1 hS1 => ?_)
  obtain ⟨hP1, hK1, hD1⟩ := hB
  rw [ht] at hP1
  exact kk r u hw9 H1 locs1 ls hP1 ⟨hD1.1, fun k q hq => hFc _ (hD1.2 k q hq)⟩ hS1 hl
theorem mg_cvV {X : mg_X} {cc : ByteArray} {Ts : List Cond} {rm : Room} {pc : Nat} {lv : List (Nat × Value)} {st : List Value} {h : mg_H} {y : MethodName} {ws ws2 : List Cond} {rmN : Room} {bytes : ByteArray} {maxL n idx : Nat} {ret : Option FieldType} {stk : List Value} {Qr : mg_H → Prop} {wp : (mg_H → Prop) → mg_H → Prop} (C : mg_ok X cc Ts rm) (As : (Nat → Nat) → List Value) (hM : mg_MV y ws rmN (fun ad => .ref (ad 0) :: As ad) wp) (hg : GoodIn Ts (wsV RX12 idx RX12 y ws)) (hw : ws = Cond.code y bytes maxL ret :: ws2) (hcs : rmN.cells = 0 ∧ rmN.slots = 0) (hd2 : y.cls = RX12 ∧ y.cls ≠ "java/lang/invoke/MethodHandle" ∧ y.cls ≠ "java/lang/invoke/VarHandle" ∧ (parseMethodDescriptor y.desc).map (fun d => d.parameters.length) = some n) (hRm : rmN.frames + 1 ≤ rm.frames ∧ 8 + (maxL + 11) + rmN.locals ≤ rm.locals) (hn : (As (mg_ad X)).length = n) (hst : stk = (As (mg_ad X)).reverse ++ .ref (mg_ad X 0) :: st) (hcat : (st.map fun v => v.category).sum ≤ 8) (hd : decode cc pc = .ok (.invokevirtual idx, 3)) (hF : wp Qr h) (kk : ∀ (h2 : mg_H), Qr h2 → mg_W X (pc + 3) lv st h2) : mg_W X pc lv stk h := by
  obtain ⟨p, l, e, R, s, m, args, below, meth, c, Q, D, cA, ad, A, nL⟩ := X
  obtain ⟨hx, hb, hml, hown, hts, hK, hA, hlk, hR⟩ := C
  intro H locs ls hP hD hS hl
  have hFc : ∀ q, va_A (mg_ws cA ad h) H.size q → A q := fun q hq => hq.elim (fun ⟨k, e9, hk⟩ => hD.2 k _ hk) (fun hq => hA q (Nat.le_trans hS.1 hq))
  subst hR
  subst hst
  refine va_callv (va_runV (As := (As ad)) (rest := st) ⟨hx, hb, hml, hown, hts⟩ (hM l D cA ad h H.size Qr hF) (cwV n hts hg hw hcs.1 hcs.2 hd2 hRm) ⟨mg_blind _ _ _ _ _ _, va_recv hK hP (ci := 12) (q0 := 0) rfl (mg_ws_get (c := 0) (k := 0) rfl), fun U hU hW => ⟨rfl, by rw [hU], by rw [hU]; exact hP, va_K.moved hW.alike hK, hD.weaken (fun _ _ _ _ => trivial)⟩⟩ rfl hn hl.1 rfl (lv_room hcat) hd ⟨Nat.zero_le _, Nat.zero_le _⟩) hS (fun q _ h9 => hFc q h9) hFc (fun u t H1 locs1 ht hvm hw9 hB hz1 hk1 hS1 => ?_)
  obtain ⟨hP1, hK1, hD1⟩ := hB
  rw [ht] at hP1
  exact kk u hw9 H1 locs1 ls hP1 ⟨hD1.1, fun k q hq => hFc _ (hD1.2 k q hq)⟩ hS1 hl
theorem mg_csI {X : mg_X} {cc : ByteArray} {Ts : List Cond} {rm : Room} {pc : Nat} {lv : List (Nat × Value)} {st : List Value} {h : mg_H} {y : MethodName} {ws ws2 : List Cond} {rmN : Room} {bytes : ByteArray} {maxL n idx : Nat} {ret : Option FieldType} {stk : List Value} {Qr : Int32 → mg_H → Prop} {wp : (Int32 → mg_H → Prop) → mg_H → Prop} (C : mg_ok X cc Ts rm) (av : (Nat → Nat) → List Value) (hM : mg_MI y ws rmN av wp) (hg : GoodIn Ts (va_wsS RX12 idx y ws)) (hw : ws = Cond.code y bytes maxL ret :: ws2) (hcs : rmN.cells = 0 ∧ rmN.slots = 0) (hd2 : y.cls ≠ "java/lang/invoke/MethodHandle" ∧ y.cls ≠ "java/lang/invoke/VarHandle" ∧ (parseMethodDescriptor y.desc).map (fun d => d.parameters.length) = some n) (hRm : rmN.frames + 1 ≤ rm.frames ∧ 8 + (maxL + 11) + rmN.locals ≤ rm.locals) (hn : (av (mg_ad X)).length = n) (hst : stk = (av (mg_ad X)).reverse ++ st) (hcat : (st.map fun v => v.category).sum ≤ 8) (hd : decode cc pc = .ok (.invokestatic idx, 3)) (hF : wp Qr h) (kk : ∀ (r : Int32) (h2 : mg_H), Qr r h2 → mg_W X (pc + 3) lv (.int r :: st) h2) : mg_W X pc lv stk h := by
  obtain ⟨p, l, e, R, s, m, args, below, meth, c, Q, D, cA, ad, A, nL⟩ := X
  obtain ⟨hx, hb, hml, hown, hts, hK, hA, hlk, hR⟩ := C
  intro H locs ls hP hD hS hl
  have hFc : ∀ q, va_A (mg_ws cA ad h) H.size q → A q := fun q hq => hq.elim (fun ⟨k, e9, hk⟩ => hD.2 k _ hk) (fun hq => hA q (Nat.le_trans hS.1 hq))
  subst hR
  subst hst
  refine va_calli (va_runS (As := (av ad)) (rest := st) ⟨hx, hb, hml, hown, hts⟩ (hM l D cA ad h H.size Qr hF) (va_cwS n hts hg hw hcs.1 hcs.2 hd2 hRm) ⟨mg_blind _ _ _ _ _ _, fun U hU hW => ⟨rfl, by rw [hU], by rw [hU]; exact hP, va_K.moved hW.alike hK, hD.weaken (fun _ _ _ _ => trivial)⟩⟩ rfl hn hl.1 rfl (lv_room hcat) hd ⟨Nat.zero_le _, Nat.zero_le _⟩) hS (fun q _ h9 => hFc q h9) hFc (fun r u t H1 locs1 ht hvm hw9 hB hz1 hk1 hS1 => ?_)
  obtain ⟨hP1, hK1, hD1⟩ := hB
  rw [ht] at hP1
  exact kk r u hw9 H1 locs1 ls hP1 ⟨hD1.1, fun k q hq => hFc _ (hD1.2 k q hq)⟩ hS1 hl
theorem mg_csL {X : mg_X} {cc : ByteArray} {Ts : List Cond} {rm : Room} {pc : Nat} {lv : List (Nat × Value)} {st : List Value} {h : mg_H} {y : MethodName} {ws ws2 : List Cond} {rmN : Room} {bytes : ByteArray} {maxL n idx : Nat} {ret : Option FieldType} {stk : List Value} {Qr : Int64 → mg_H → Prop} {wp : (Int64 → mg_H → Prop) → mg_H → Prop} (C : mg_ok X cc Ts rm) (av : (Nat → Nat) → List Value) (hM : mg_ML y ws rmN av wp) (hg : GoodIn Ts (va_wsS RX12 idx y ws)) (hw : ws = Cond.code y bytes maxL ret :: ws2) (hcs : rmN.cells = 0 ∧ rmN.slots = 0) (hd2 : y.cls ≠ "java/lang/invoke/MethodHandle" ∧ y.cls ≠ "java/lang/invoke/VarHandle" ∧ (parseMethodDescriptor y.desc).map (fun d => d.parameters.length) = some n) (hRm : rmN.frames + 1 ≤ rm.frames ∧ 8 + (maxL + 11) + rmN.locals ≤ rm.locals) (hn : (av (mg_ad X)).length = n) (hst : stk = (av (mg_ad X)).reverse ++ st) (hcat : (st.map fun v => v.category).sum ≤ 8) (hd : decode cc pc = .ok (.invokestatic idx, 3)) (hF : wp Qr h) (kk : ∀ (r : Int64) (h2 : mg_H), Qr r h2 → mg_W X (pc + 3) lv (.long r :: st) h2) : mg_W X pc lv stk h := by
  obtain ⟨p, l, e, R, s, m, args, below, meth, c, Q, D, cA, ad, A, nL⟩ := X
  obtain ⟨hx, hb, hml, hown, hts, hK, hA, hlk, hR⟩ := C
  intro H locs ls hP hD hS hl
  have hFc : ∀ q, va_A (mg_ws cA ad h) H.size q → A q := fun q hq => hq.elim (fun ⟨k, e9, hk⟩ => hD.2 k _ hk) (fun hq => hA q (Nat.le_trans hS.1 hq))
  subst hR
  subst hst
  refine va_calll (va_runS (As := (av ad)) (rest := st) ⟨hx, hb, hml, hown, hts⟩ (hM l D cA ad h H.size Qr hF) (va_cwS n hts hg hw hcs.1 hcs.2 hd2 hRm) ⟨mg_blind _ _ _ _ _ _, fun U hU hW => ⟨rfl, by rw [hU], by rw [hU]; exact hP, va_K.moved hW.alike hK, hD.weaken (fun _ _ _ _ => trivial)⟩⟩ rfl hn hl.1 rfl (lv_room hcat) hd ⟨Nat.zero_le _, Nat.zero_le _⟩) hS (fun q _ h9 => hFc q h9) hFc (fun r u t H1 locs1 ht hvm hw9 hB hz1 hk1 hS1 => ?_)
  obtain ⟨hP1, hK1, hD1⟩ := hB
  rw [ht] at hP1
  exact kk r u hw9 H1 locs1 ls hP1 ⟨hD1.1, fun k q hq => hFc _ (hD1.2 k q hq)⟩ hS1 hl
theorem mg_csV {X : mg_X} {cc : ByteArray} {Ts : List Cond} {rm : Room} {pc : Nat} {lv : List (Nat × Value)} {st : List Value} {h : mg_H} {y : MethodName} {ws ws2 : List Cond} {rmN : Room} {bytes : ByteArray} {maxL n idx : Nat} {ret : Option FieldType} {stk : List Value} {Qr : mg_H → Prop} {wp : (mg_H → Prop) → mg_H → Prop} (C : mg_ok X cc Ts rm) (av : (Nat → Nat) → List Value) (hM : mg_MV y ws rmN av wp) (hg : GoodIn Ts (va_wsS RX12 idx y ws)) (hw : ws = Cond.code y bytes maxL ret :: ws2) (hcs : rmN.cells = 0 ∧ rmN.slots = 0) (hd2 : y.cls ≠ "java/lang/invoke/MethodHandle" ∧ y.cls ≠ "java/lang/invoke/VarHandle" ∧ (parseMethodDescriptor y.desc).map (fun d => d.parameters.length) = some n) (hRm : rmN.frames + 1 ≤ rm.frames ∧ 8 + (maxL + 11) + rmN.locals ≤ rm.locals) (hn : (av (mg_ad X)).length = n) (hst : stk = (av (mg_ad X)).reverse ++ st) (hcat : (st.map fun v => v.category).sum ≤ 8) (hd : decode cc pc = .ok (.invokestatic idx, 3)) (hF : wp Qr h) (kk : ∀ (h2 : mg_H), Qr h2 → mg_W X (pc + 3) lv st h2) : mg_W X pc lv stk h := by
  obtain ⟨p, l, e, R, s, m, args, below, meth, c, Q, D, cA, ad, A, nL⟩ := X
  obtain ⟨hx, hb, hml, hown, hts, hK, hA, hlk, hR⟩ := C
  intro H locs ls hP hD hS hl
  have hFc : ∀ q, va_A (mg_ws cA ad h) H.size q → A q := fun q hq => hq.elim (fun ⟨k, e9, hk⟩ => hD.2 k _ hk) (fun hq => hA q (Nat.le_trans hS.1 hq))
  subst hR
  subst hst
  refine va_callv (va_runS (As := (av ad)) (rest := st) ⟨hx, hb, hml, hown, hts⟩ (hM l D cA ad h H.size Qr hF) (va_cwS n hts hg hw hcs.1 hcs.2 hd2 hRm) ⟨mg_blind _ _ _ _ _ _, fun U hU hW => ⟨rfl, by rw [hU], by rw [hU]; exact hP, va_K.moved hW.alike hK, hD.weaken (fun _ _ _ _ => trivial)⟩⟩ rfl hn hl.1 rfl (lv_room hcat) hd ⟨Nat.zero_le _, Nat.zero_le _⟩) hS (fun q _ h9 => hFc q h9) hFc (fun u t H1 locs1 ht hvm hw9 hB hz1 hk1 hS1 => ?_)
  obtain ⟨hP1, hK1, hD1⟩ := hB
  rw [ht] at hP1
  exact kk u hw9 H1 locs1 ls hP1 ⟨hD1.1, fun k q hq => hFc _ (hD1.2 k q hq)⟩ hS1 hl
