/-! the class: its state as a pool of cells by address: kind, length, what each place holds -/
/- kinds: 0 to 11 objects (vwCl), 22 int[], 23 long[], 25 Book[], 26 Glass[], 27 Text[], 28 Told[]
   X0 SandGlasses$Bench: 0=ran:I 1=firstRan:I 2=most:I 3=idle:I 4=turns:I 5=glasses:[LSandGlasses$Glass; 6=here:I 7=minute:I 8=seed:I
   X1 SandGlasses$Book: 0=walk:LSandGlasses$Walk; 1=part:LSandGlasses$Walk; 2=costs:LSandGlasses$Costs; 3=fewest:[I 4=cheapest:[I 5=spans:[I 6=parts:[I 7=luck:[J 8=rowSets:[I 9=rowMinutes:[I 10=rowLength:I 11=rowT:I 12=sizes:I 13=tops:I 14=glasses:I 15=prices:I 16=told:I 17=turnsKnown:Z 18=luckKnown:Z 19=costsAreTurns:Z
   X2 SandGlasses$Cloth: 0=fitting:I 1=wanted:I 2=glass:LSandGlasses$Glass; 3=tops:[I 4=stops:[I 5=ranAt:[J 6=seen:[I 7=hits:[I 8=mustRun:[J 9=mustRest:J 10=never:Z 11=anyRan:J 12=shelf:LSandGlasses$Text; 13=day:LSandGlasses$Text;
   X3 SandGlasses$Costs: 0=weights:[I 1=ends:[I 2=walk:LSandGlasses$Walk; 3=room:I 4=least:[I
   X4 SandGlasses$Game: 0=ahead:I 1=events:I 2=minutes:I 3=steps:LSandGlasses$Steps; 4=tops:I 5=sizes:I 6=sets:I 7=glasses:I
   X5 SandGlasses$Glass: 0=size:I 1=top:I 2=laid:Z 3=ran:I
   X6 SandGlasses$Reader: 0=fault:I 1=faultAt:I 2=drafts:[LSandGlasses$Text; 3=prices:[I 4=numbers:[I 5=tape:[I 6=length:I 7=at:I 8=sort:I 9=lines:I 10=priced:I
   X7 SandGlasses$Steps: 0=rowOf:[I 1=known:[I
   X8 SandGlasses$Text: 0=lines:I 1=first:[I 2=second:[I 3=price:[I
   X9 SandGlasses$Told: 0=tape:[I 1=length:I 2=fault:I 3=faultAt:I 4=counts:[I 5=texts:[LSandGlasses$Text;
   X10 SandGlasses$Walk: 0=codes:[I 1=minutes:[I 2=layers:[I 3=ways:[I 4=rows:I 5=sets:I 6=steps:LSandGlasses$Steps; 7=layer:[I 8=nextLayer:[I
   X11 SandGlasses: 0=told:LSandGlasses$Told; 1=images:[LSandGlasses$Told; 2=reader:LSandGlasses$Reader; 3=bench:LSandGlasses$Bench; 4=cloth:LSandGlasses$Cloth; 5=steps:LSandGlasses$Steps; 6=game:LSandGlasses$Game; 7=books:[LSandGlasses$Book;
-/
abbrev xg_Y : Type := List Nat × (Nat → Nat) × (Nat → Nat) × (Nat → ClassId)
abbrev xg_H : Type := (Nat → Nat → Int32) × (Nat → Nat → Int64) × (Nat → Nat → Option Nat)
def xg_i (h : xg_H) (c j : Nat) : Int32 := h.1 c j
def xg_l (h : xg_H) (c j : Nat) : Int64 := h.2.1 c j
def xg_o (h : xg_H) (c j : Nat) : Option Nat := h.2.2 c j
def xg_n (Y : xg_Y) (a : Nat) : Nat := Y.2.2.1 a
def xg_c (Y : xg_Y) (a : Nat) : ClassId := Y.2.2.2 a
def xg_ui (h : xg_H) (c j : Nat) (v : Int32) : xg_H := (mg_u h.1 c j v, h.2)
def xg_ul (h : xg_H) (c j : Nat) (v : Int64) : xg_H := (h.1, mg_u h.2.1 c j v, h.2.2)
def xg_uo (h : xg_H) (c j : Nat) (v : Option Nat) : xg_H := (h.1, h.2.1, mg_u h.2.2 c j v)
/-- the cell a is in the pool and of the kind c -/
def xg_is (Y : xg_Y) (a c : Nat) : Prop := a ∈ Y.1 ∧ Y.2.1 a = c
/-- what a slot of a class holds: 0 an int, 1 a long, 2 a reference -/
def xg_tm : Nat → Nat → Nat
  | 0, 5 => 2
  | 1, 0 => 2
  | 1, 1 => 2
  | 1, 2 => 2
  | 1, 3 => 2
  | 1, 4 => 2
  | 1, 5 => 2
  | 1, 6 => 2
  | 1, 7 => 2
  | 1, 8 => 2
  | 1, 9 => 2
  | 2, 2 => 2
  | 2, 3 => 2
  | 2, 4 => 2
  | 2, 5 => 2
  | 2, 6 => 2
  | 2, 7 => 2
  | 2, 8 => 2
  | 2, 9 => 1
  | 2, 11 => 1
  | 2, 12 => 2
  | 2, 13 => 2
  | 3, 0 => 2
  | 3, 1 => 2
  | 3, 2 => 2
  | 3, 4 => 2
  | 4, 3 => 2
  | 6, 2 => 2
  | 6, 3 => 2
  | 6, 4 => 2
  | 6, 5 => 2
  | 7, 0 => 2
  | 7, 1 => 2
  | 8, 1 => 2
  | 8, 2 => 2
  | 8, 3 => 2
  | 9, 0 => 2
  | 9, 4 => 2
  | 9, 5 => 2
  | 10, 0 => 2
  | 10, 1 => 2
  | 10, 2 => 2
  | 10, 3 => 2
  | 10, 6 => 2
  | 10, 7 => 2
  | 10, 8 => 2
  | 11, 0 => 2
  | 11, 1 => 2
  | 11, 2 => 2
  | 11, 3 => 2
  | 11, 4 => 2
  | 11, 5 => 2
  | 11, 6 => 2
  | 11, 7 => 2
  | _, _ => 0
def xg_N : Nat → Nat
  | 0 => 9
  | 1 => 20
  | 2 => 14
  | 3 => 5
  | 4 => 8
  | 5 => 4
  | 6 => 11
  | 7 => 2
  | 8 => 4
  | 9 => 6
  | 10 => 9
  | 11 => 8
  | _ => 0
def xg_fv (h : xg_H) (a c j : Nat) : Value := if xg_tm c j = 0 then .int (h.1 a j) else if xg_tm c j = 1 then .long (h.2.1 a j) else va_rf (h.2.2 a j)
def xg_fs (h : xg_H) (a c : Nat) : List Value := (List.range (xg_N c)).map (xg_fv h a c)
def xg_E (Y : xg_Y) (h : xg_H) (a : Nat) : va_E := if Y.2.1 a < 20 then .inr (Y.2.1 a, xg_fs h a (Y.2.1 a)) else .inl (xg_c Y a, xg_n Y a, if Y.2.1 a = 22 then .inl (h.1 a) else if Y.2.1 a = 23 then .inr (.inl (h.2.1 a)) else .inr (.inr (.inr (.inr (h.2.2 a)))))
def xg_ws (Y : xg_Y) (h : xg_H) : va_W := va_pl Y.1 (xg_E Y h)
def xg_ft : Nat → FieldType
  | 22 => .int
  | 23 => .long
  | 25 => .object "SandGlasses$Book"
  | 26 => .object "SandGlasses$Glass"
  | 27 => .object "SandGlasses$Text"
  | _ => .object "SandGlasses$Told"
/-- the array classes of the pool's arrays, in the order of the pool -/
def xg_ty (Y : xg_Y) : List (ClassId × FieldType) := (Y.1.filter (fun a => decide (20 ≤ Y.2.1 a))).map (fun a => (xg_c Y a, xg_ft (Y.2.1 a)))
theorem xg_ty_get {Y : xg_Y} {a c : Nat} (hk : xg_is Y a c) (hc : 20 ≤ c) : ∃ t : Nat, (xg_ty Y)[t]? = some (xg_c Y a, xg_ft c) := by
  have hm : (xg_c Y a, xg_ft c) ∈ xg_ty Y := by
    rw [xg_ty, List.mem_map]
    exact ⟨a, List.mem_filter.mpr ⟨hk.1, by rw [hk.2]; exact decide_eq_true hc⟩, by rw [hk.2]⟩
  exact List.mem_iff_getElem?.mp hm
-- the static rows of the class
def xg_sc : Nat → String × String
  | 0 => ("SandGlasses", "ROOM")
  | 1 => ("SandGlasses", "ROWS")
  | 2 => ("SandGlasses", "FIELDS")
  | 3 => ("SandGlasses$Reader", "SORT_OF")
  | 4 => ("SandGlasses$Reader", "NUMBERS_OF")
  | 5 => ("SandGlasses$Reader", "LEAST")
  | _ => ("SandGlasses$Reader", "GREATEST")
def xg_sn : Nat → Nat
  | 0 => 4
  | 1 => 5
  | 2 => 16
  | 3 => 10
  | 4 => 10
  | 5 => 20
  | _ => 20
def xg_st : Nat → List Int32
  | 0 => [4, 40, 8, 6]
  | 1 => [1, 2, 16, 170, 1696]
  | 2 => [0, 7, 56, 63, 448, 455, 504, 511, 3584, 3591, 3640, 3647, 4032, 4039, 4088, 4095]
  | 3 => [0, 0, 1, 1, 1, 1, 1, 2, 2, 3]
  | 4 => [2, 2, 1, 1, 1, 1, 1, 2, 1, 1]
  | 5 => [1, 0, 0, 0, 1, 0, 0, 0, 0, 0, 0, 0, 0, 0, 0, 1, 1, 0, 1, 0]
  | _ => [7, 7, 3, 9, 9, 0, 3, 0, 3, 0, 3, 0, 3, 0, 3, 40, 40, 0, 30, 0]
def xg_tl : List Nat := [5, 5, 4, 4, 3, 5, 4, 3, 5, 4]
def xg_tb : List (List Int32) := [[103, 108, 97, 115, 115], [112, 114, 105, 99, 101], [119, 97, 105, 116], [116, 117, 114, 110], [108, 97, 121], [115, 116, 97, 110, 100], [108, 101, 97, 107], [114, 97, 110], [113, 117, 105, 101, 116], [115, 112, 97, 110]]
def xg_tk : Nat → Nat
  | 0 => 135
  | 1 => 137
  | 2 => 138
  | 3 => 140
  | 4 => 142
  | 5 => 144
  | 6 => 146
  | 7 => 148
  | 8 => 150
  | _ => 152
def xg_tt : Nat → String
  | 0 => "glass"
  | 1 => "price"
  | 2 => "wait"
  | 3 => "turn"
  | 4 => "lay"
  | 5 => "stand"
  | 6 => "leak"
  | 7 => "ran"
  | 8 => "quiet"
  | _ => "span"
def xg_sv (k j : Nat) : Int32 := (xg_st k).getD j 0
/-- the class's words (String constants), and what of the JDK's statics they need -/
def xg_Ss (zs : Nat → Nat) (A : Nat → Prop) (U : State) (H : Heap) : Prop := vk_S 10 xg_tl xg_tb (fun i => zs (10 + i)) (fun i => zs (30 + i)) A U H ∧ va_Z "java/lang/String" "COMPACT_STRINGS" "Z" (.int 1) A U H ∧ va_Zq "jdk/internal/util/Preconditions" "SIOOBE_FORMATTER" "Ljava/util/function/BiFunction;" A U H
def xg_St (zs : Nat → Nat) (A : Nat → Prop) (U : State) (H : Heap) : Prop := (∀ k, k < 7 → va_Z (xg_sc k).1 (xg_sc k).2 "[I" (.ref (zs k)) A U H ∧ va_T .int (zs k) (xg_sn k) (fun j => .int (xg_sv k j)) A U H) ∧ xg_Ss zs A U H
theorem xg_St.moved {zs : Nat → Nat} {A : Nat → Prop} {u U : State} {H : Heap} (hvm : u.vm.Alike U.vm) (h : xg_St zs A u H) : xg_St zs A U H := ⟨fun k hk => ⟨va_Z.moved hvm (h.1 k hk).1, va_T.moved hvm (h.1 k hk).2⟩, vk_S.moved hvm h.2.1, va_Z.moved hvm h.2.2.1, va_Zq.moved hvm h.2.2.2⟩
theorem xg_St.kept {zs : Nat → Nat} {A : Nat → Prop} {U : State} {H H1 : Heap} (h : xg_St zs A U H) (hq : ∀ a : Nat, a < H.size → ¬ A a → H1[a]? = H[a]?) : xg_St zs A U H1 := ⟨fun k hk => ⟨va_Z.kept (h.1 k hk).1 hq, va_T.kept (h.1 k hk).2 hq⟩, vk_S.kept h.2.1 hq, va_Z.kept h.2.2.1 hq, va_Zq.kept h.2.2.2 hq⟩
theorem xg_St.narrow {zs : Nat → Nat} {A B : Nat → Prop} {U : State} {H : Heap} (h : xg_St zs A U H) (hAB : ∀ q, B q → A q) : xg_St zs B U H := ⟨fun k hk => ⟨va_Z.narrow (h.1 k hk).1 hAB, va_T.narrow (h.1 k hk).2 hAB⟩, vk_S.narrow h.2.1 hAB, va_Z.narrow h.2.2.1 hAB, va_Zq.narrow h.2.2.2 hAB⟩
def xg_nw : List Cond := [.methodLinkNest RX11 36 yX2_init "SandGlasses", .methodLinkNest RX11 43 yX7_init "SandGlasses", .methodLinkNest RX0 17 yX5_init "SandGlasses", .methodLinkNest RX1 143 yX11_has "SandGlasses", .methodLinkNest RX1 162 yX11_turned "SandGlasses", .methodLinkNest RX1 181 yX11_lowest "SandGlasses", .methodLinkNest RX1 82 yX11_codeOf "SandGlasses", .methodLinkNest RX2 11 yX5_init "SandGlasses", .methodLinkNest RX2 147 yX11_has "SandGlasses", .methodLinkNest RX2 157 yX11_lowest "SandGlasses", .methodLinkNest RX4 28 yX11_codeOf "SandGlasses", .methodLinkNest RX4 79 yX11_turned "SandGlasses", .methodLinkNest RX4 86 yX11_has "SandGlasses", .methodLinkNest RX10 57 yX11_turned "SandGlasses", .fieldLinkNest RX1 131 "SandGlasses" "FIELDS" "[I" "SandGlasses", .fieldLinkNest RX1 62 "SandGlasses" "ROWS" "[I" "SandGlasses", .fieldLinkNest RX6 80 "SandGlasses" "ROOM" "[I" "SandGlasses", .fieldLinkNest RX8 9 "SandGlasses" "ROOM" "[I" "SandGlasses", .fieldLinkNest RX10 19 "SandGlasses" "ROWS" "[I" "SandGlasses"]
def xg_ao : List String := ["SandGlasses$Book", "SandGlasses$Glass", "SandGlasses$Text", "SandGlasses$Told"]
def xg_Nw (zs : Nat → Nat) (U : State) : Prop := (∀ w ∈ xg_nw, va_Nw w U) ∧ (∀ C ∈ xg_ao, va_AO C U) ∧ ∀ i, i < 10 → vk_R RX6 (xg_tk i) (xg_tt i) (zs (10 + i)) U
theorem xg_nw_on : ∀ w ∈ xg_nw, w.onTables = true := by decide +kernel
theorem xg_Nw.warm {zs : Nat → Nat} {s U : State} (hW : s.WarmedH U.vm) (h : xg_Nw zs s) : xg_Nw zs U := by
  refine ⟨?_, fun C hC => va_AO.moved hW.alike (h.2.1 C hC), fun i hi => vk_R.warm hW (h.2.2 i hi)⟩
  intro w hw
  have h1 := h.1 w hw
  simp only [xg_nw, List.mem_cons, List.not_mem_nil, or_false] at hw
  rcases hw with rfl | rfl | rfl | rfl | rfl | rfl | rfl | rfl | rfl | rfl | rfl | rfl | rfl | rfl | rfl | rfl | rfl | rfl | rfl <;> first | exact va_Nw.warmM hW h1 | exact va_Nw.warmF hW h1
abbrev xg_X : Type := Program × Launch × Env × Room × State × MethodId × Array Value × List Frame × Method × Code × (State → Prop) × va_G × (Nat → ClassId) × (Nat → Nat) × (Nat → Prop) × Nat
def xg_zs (X : xg_X) : Nat → Nat := match X with
  | (_, _, _, _, _, _, _, _, _, _, _, _, _, zs, _, _) => zs
/-- the machine at pc of the method, its locals lv, its stack st, the pool Y with what it holds h, k0 cells of n0 slots made so far -/
def xg_W (X : xg_X) (k0 n0 : Nat) (Y : xg_Y) (pc : Nat) (lv : List (Nat × Value)) (st : List Value) (h : xg_H) : Prop := match X with
  | (p, l, e, R, s, m, args, below, meth, c, Q, D, cA, _, A, nL) => ∀ (H : Heap) (locs : List Loc) (ls : Array Slot), va_K D vwCl (xg_ty Y) s → va_P D vwCl (xg_ws Y h) H → va_D A (xg_ws Y h) → va_S A s.heap H locs → lv_has ls nL lv → W p l e R s m args below meth c H locs k0 n0 Q (F0 m pc ls st)
def xg_ok (X : xg_X) (cc : ByteArray) (own : String) (Ts : List Cond) (rm : Room) : Prop := match X with
  | (p, _, _, R, s, m, args, _, meth, c, _, D, cA, zs, A, nL) => p.tables.exec = Jvm.exec ∧ c.code = cc ∧ c.maxLocals = nL ∧ s.vm.findClass own = some m.cls ∧ (∀ w ∈ Ts, w.before args s = true) ∧ (∀ q, s.heap.size ≤ q → A q) ∧ meth.locks = false ∧ R = rm ∧ xg_St zs A s s.heap ∧ xg_Nw zs s
def xg_nL (X : xg_X) (n : Nat) : Prop := match X with
  | (_, _, _, _, _, _, _, _, _, _, _, _, _, _, _, nL) => nL = n
theorem xg_fs_get {h : xg_H} {a c j : Nat} (hj : j < xg_N c) : (xg_fs h a c)[j]? = some (xg_fv h a c j) := by
  rw [xg_fs, List.getElem?_map, List.getElem?_range hj]; rfl
theorem xg_fs_len {h : xg_H} {a c : Nat} : (xg_fs h a c).length = xg_N c := by rw [xg_fs, List.length_map, List.length_range]
theorem xg_fs_set {h h2 : xg_H} {a c j : Nat} {v : Value} (hv : xg_fv h2 a c j = v) (ho : ∀ k, k ≠ j → xg_fv h2 a c k = xg_fv h a c k) : (xg_fs h a c).set j v = xg_fs h2 a c := by
  apply List.ext_getElem?
  intro i
  rw [List.getElem?_set]
  by_cases hi : j = i
  · subst hi
    rw [if_pos rfl, xg_fs_len]
    by_cases h61 : j < xg_N c
    · rw [if_pos h61, xg_fs_get h61, hv]
    · rw [if_neg h61, xg_fs, List.getElem?_map, List.getElem?_eq_none (by rw [List.length_range]; omega)]; rfl
  · rw [if_neg hi, xg_fs, xg_fs, List.getElem?_map, List.getElem?_map]
    by_cases h61 : i < xg_N c
    · rw [List.getElem?_range h61]
      simp only [Option.map_some, ho i (fun e => hi e.symm)]
    · rw [List.getElem?_eq_none (by rw [List.length_range]; omega)]; rfl
theorem xg_E_obj {Y : xg_Y} {h : xg_H} {a c : Nat} (hk : xg_is Y a c) (hc : c < 20) : xg_E Y h a = .inr (c, xg_fs h a c) := by
  rw [xg_E, hk.2, if_pos hc]
theorem xg_E_int {Y : xg_Y} {h : xg_H} {a : Nat} (hk : xg_is Y a 22) : xg_E Y h a = .inl (xg_c Y a, xg_n Y a, .inl (h.1 a)) := by
  rw [xg_E, hk.2]; rfl
theorem xg_E_long {Y : xg_Y} {h : xg_H} {a : Nat} (hk : xg_is Y a 23) : xg_E Y h a = .inl (xg_c Y a, xg_n Y a, .inr (.inl (h.2.1 a))) := by
  rw [xg_E, hk.2]; rfl
theorem xg_E_ref {Y : xg_Y} {h : xg_H} {a c : Nat} (hk : xg_is Y a c) (hc : 25 ≤ c) : xg_E Y h a = .inl (xg_c Y a, xg_n Y a, .inr (.inr (.inr (.inr (h.2.2 a))))) := by
  rw [xg_E, hk.2, if_neg (by omega), if_neg (by omega), if_neg (by omega)]
theorem xg_get {Y : xg_Y} {h : xg_H} {a c : Nat} {e : va_E} (hk : xg_is Y a c) (he : xg_E Y h a = e) : ∃ k : Nat, (xg_ws Y h)[k]? = some (a, e) := by
  obtain ⟨k, hk2⟩ := va_pl_get (X := []) (L := Y.1) (f := xg_E Y h) hk.1
  exact ⟨k, by rw [← he]; exact hk2⟩
theorem xg_set {Y : xg_Y} {h h2 : xg_H} {A : Nat → Prop} {a c k : Nat} {e e2 : va_E} (hD : va_D A (xg_ws Y h)) (hk : xg_is Y a c) (he : xg_E Y h a = e) (hk2 : (xg_ws Y h)[k]? = some (a, e)) (h2a : xg_E Y h2 a = e2) (ho : ∀ d, d ≠ a → xg_E Y h2 d = xg_E Y h d) : (xg_ws Y h).set k (a, e2) = xg_ws Y h2 := by
  have h1 := va_pl_set (X := []) (L := Y.1) (f := xg_E Y h) (e := e2) (k := k) hD hk.1 (by rw [he]; exact hk2)
  have h3 : va_up (xg_E Y h) a e2 = xg_E Y h2 := by
    funext d
    by_cases hd : d = a
    · subst hd; simp [va_up, h2a]
    · simp [va_up, hd, ho d hd]
  rw [h3] at h1
  exact h1
theorem xg_ui_E {Y : xg_Y} {h : xg_H} {a j : Nat} {v : Int32} : ∀ d, d ≠ a → xg_E Y (xg_ui h a j v) d = xg_E Y h d := by
  intro d hd
  have e1 : (xg_ui h a j v).1 d = h.1 d := by funext k; simp [xg_ui, mg_u, hd]
  have e3 : ∀ c, xg_fs (xg_ui h a j v) d c = xg_fs h d c := fun c => by
    rw [xg_fs, xg_fs]; congr 1; funext k; rw [xg_fv, xg_fv, e1]; rfl
  rw [xg_E, xg_E, e1, e3]; rfl
theorem xg_ul_E {Y : xg_Y} {h : xg_H} {a j : Nat} {v : Int64} : ∀ d, d ≠ a → xg_E Y (xg_ul h a j v) d = xg_E Y h d := by
  intro d hd
  have e1 : (xg_ul h a j v).2.1 d = h.2.1 d := by funext k; simp [xg_ul, mg_u, hd]
  have e3 : ∀ c, xg_fs (xg_ul h a j v) d c = xg_fs h d c := fun c => by
    rw [xg_fs, xg_fs]; congr 1; funext k; rw [xg_fv, xg_fv, e1]; rfl
  rw [xg_E, xg_E, e1, e3]; rfl
theorem xg_uo_E {Y : xg_Y} {h : xg_H} {a j : Nat} {v : Option Nat} : ∀ d, d ≠ a → xg_E Y (xg_uo h a j v) d = xg_E Y h d := by
  intro d hd
  have e1 : (xg_uo h a j v).2.2 d = h.2.2 d := by funext k; simp [xg_uo, mg_u, hd]
  have e3 : ∀ c, xg_fs (xg_uo h a j v) d c = xg_fs h d c := fun c => by
    rw [xg_fs, xg_fs]; congr 1; funext k; rw [xg_fv, xg_fv, e1]; rfl
  rw [xg_E, xg_E, e1, e3]; rfl
theorem xg_fv_i {h : xg_H} {a c j : Nat} (h0 : xg_tm c j = 0) : xg_fv h a c j = .int (xg_i h a j) := by rw [xg_fv, if_pos h0]; rfl
theorem xg_fv_l {h : xg_H} {a c j : Nat} (h0 : xg_tm c j = 1) : xg_fv h a c j = .long (xg_l h a j) := by rw [xg_fv, h0]; rfl
theorem xg_fv_o {h : xg_H} {a c j : Nat} (h0 : xg_tm c j = 2) : xg_fv h a c j = va_rf (xg_o h a j) := by rw [xg_fv, h0]; rfl
theorem xg_put_i {h : xg_H} {a c j : Nat} {v : Int32} (h0 : xg_tm c j = 0) : (xg_fs h a c).set j (.int v) = xg_fs (xg_ui h a j v) a c := xg_fs_set (by rw [xg_fv_i h0]; simp [xg_i, xg_ui, mg_u]) (fun k hk => by
  have e2 : (xg_ui h a j v).1 a k = h.1 a k := by simp [xg_ui, mg_u, hk]
  rw [xg_fv, xg_fv, e2]; rfl)
theorem xg_put_l {h : xg_H} {a c j : Nat} {v : Int64} (h0 : xg_tm c j = 1) : (xg_fs h a c).set j (.long v) = xg_fs (xg_ul h a j v) a c := xg_fs_set (by rw [xg_fv_l h0]; simp [xg_l, xg_ul, mg_u]) (fun k hk => by
  have e2 : (xg_ul h a j v).2.1 a k = h.2.1 a k := by simp [xg_ul, mg_u, hk]
  rw [xg_fv, xg_fv, e2]; rfl)
theorem xg_put_o {h : xg_H} {a c j : Nat} {v : Option Nat} (h0 : xg_tm c j = 2) : (xg_fs h a c).set j (va_rf v) = xg_fs (xg_uo h a j v) a c := xg_fs_set (by rw [xg_fv_o h0]; simp [xg_o, xg_uo, mg_u]) (fun k hk => by
  have e2 : (xg_uo h a j v).2.2 a k = h.2.2 a k := by simp [xg_uo, mg_u, hk]
  rw [xg_fv, xg_fv, e2]; rfl)
theorem xg_ui_row {h : xg_H} {c j : Nat} {v : Int32} : (xg_ui h c j v).1 c = upd (h.1 c) j v := by
  funext k; simp [xg_ui, mg_u, upd]
theorem xg_ul_row {h : xg_H} {c j : Nat} {v : Int64} : (xg_ul h c j v).2.1 c = vp_updL (h.2.1 c) j v := by
  funext k; simp [xg_ul, mg_u, vp_updL]
theorem xg_uo_row {h : xg_H} {c j : Nat} {v : Option Nat} : (xg_uo h c j v).2.2 c = va_up (h.2.2 c) j v := by
  funext k; simp [xg_uo, mg_u, va_up]
theorem xg_rf_cat (r : Option Nat) : (va_rf r).category = 1 := by cases r <;> rfl
theorem xg_iload_n {X : xg_X} {k0 n0 : Nat} {Y : xg_Y} {own : String} {cc : ByteArray} {Ts : List Cond} {rm : Room} {pc : Nat} {lv : List (Nat × Value)} {st : List Value} {h : xg_H} {k : Fin 4} {x : Int32} (C : xg_ok X cc own Ts rm) (hd : decode cc pc = .ok (.iload_n k, 1)) (j : Nat) (hj : lv[j]? = some ((k : Nat), .int x)) (kk : xg_W X k0 n0 Y (pc + 1) lv (.int x :: st) h) : xg_W X k0 n0 Y pc lv (st) h := by
  obtain ⟨p, l, e, R, s, m, args, below, meth, c, Q, D, cA, zs, A, nL⟩ := X
  obtain ⟨hx, hb, hml, hown, hts, hA, hlk, hR, hSt, hNw⟩ := C
  intro H locs ls hK hP hD hS hl
  exact lv_iload_n hx hb hd rfl (lv_at hl j hj) (kk H locs ls hK hP hD hS hl)
theorem xg_iload {X : xg_X} {k0 n0 : Nat} {Y : xg_Y} {own : String} {cc : ByteArray} {Ts : List Cond} {rm : Room} {pc : Nat} {lv : List (Nat × Value)} {st : List Value} {h : xg_H} {k : Nat} {x : Int32} (C : xg_ok X cc own Ts rm) (hd : decode cc pc = .ok (.iload k, 2)) (j : Nat) (hj : lv[j]? = some (k, .int x)) (kk : xg_W X k0 n0 Y (pc + 2) lv (.int x :: st) h) : xg_W X k0 n0 Y pc lv (st) h := by
  obtain ⟨p, l, e, R, s, m, args, below, meth, c, Q, D, cA, zs, A, nL⟩ := X
  obtain ⟨hx, hb, hml, hown, hts, hA, hlk, hR, hSt, hNw⟩ := C
  intro H locs ls hK hP hD hS hl
  exact lv_iload hx hb hd (lv_at hl j hj) (kk H locs ls hK hP hD hS hl)
theorem xg_lload_n {X : xg_X} {k0 n0 : Nat} {Y : xg_Y} {own : String} {cc : ByteArray} {Ts : List Cond} {rm : Room} {pc : Nat} {lv : List (Nat × Value)} {st : List Value} {h : xg_H} {k : Fin 4} {x : Int64} (C : xg_ok X cc own Ts rm) (hd : decode cc pc = .ok (.lload_n k, 1)) (j : Nat) (hj : lv[j]? = some ((k : Nat), .long x)) (kk : xg_W X k0 n0 Y (pc + 1) lv (.long x :: st) h) : xg_W X k0 n0 Y pc lv (st) h := by
  obtain ⟨p, l, e, R, s, m, args, below, meth, c, Q, D, cA, zs, A, nL⟩ := X
  obtain ⟨hx, hb, hml, hown, hts, hA, hlk, hR, hSt, hNw⟩ := C
  intro H locs ls hK hP hD hS hl
  exact lv_lload_n hx hb hd rfl (lv_at hl j hj) (kk H locs ls hK hP hD hS hl)
theorem xg_lload {X : xg_X} {k0 n0 : Nat} {Y : xg_Y} {own : String} {cc : ByteArray} {Ts : List Cond} {rm : Room} {pc : Nat} {lv : List (Nat × Value)} {st : List Value} {h : xg_H} {k : Nat} {x : Int64} (C : xg_ok X cc own Ts rm) (hd : decode cc pc = .ok (.lload k, 2)) (j : Nat) (hj : lv[j]? = some (k, .long x)) (kk : xg_W X k0 n0 Y (pc + 2) lv (.long x :: st) h) : xg_W X k0 n0 Y pc lv (st) h := by
  obtain ⟨p, l, e, R, s, m, args, below, meth, c, Q, D, cA, zs, A, nL⟩ := X
  obtain ⟨hx, hb, hml, hown, hts, hA, hlk, hR, hSt, hNw⟩ := C
  intro H locs ls hK hP hD hS hl
  exact lv_lload hx hb hd (lv_at hl j hj) (kk H locs ls hK hP hD hS hl)
theorem xg_istore_n {X : xg_X} {k0 n0 : Nat} {Y : xg_Y} {own : String} {cc : ByteArray} {Ts : List Cond} {rm : Room} {pc : Nat} {lv : List (Nat × Value)} {st : List Value} {h : xg_H} {k : Fin 4} {x : Int32} {lv2 : List (Nat × Value)} (C : xg_ok X cc own Ts rm) (hd : decode cc pc = .ok (.istore_n k, 1)) (n : Nat) (hnL : xg_nL X n) (hn : (k : Nat) < n) (hl2 : ((k : Nat), Value.int x) :: lv.filter (fun q => !(q.1 == (k : Nat)) && !(q.1 + 1 == (k : Nat) && q.2.category == 2)) = lv2) (kk : xg_W X k0 n0 Y (pc + 1) lv2 st h) : xg_W X k0 n0 Y pc lv (.int x :: st) h := by
  obtain ⟨p, l, e, R, s, m, args, below, meth, c, Q, D, cA, zs, A, nL⟩ := X
  obtain ⟨hx, hb, hml, hown, hts, hA, hlk, hR, hSt, hNw⟩ := C
  intro H locs ls hK hP hD hS hl
  exact lv_istore_n hx hb hd rfl hl (by have h9 : nL = n := hnL; rw [h9]; exact hn) hl2 (fun ls2 hl3 => kk H locs ls2 hK hP hD hS hl3)
theorem xg_istore {X : xg_X} {k0 n0 : Nat} {Y : xg_Y} {own : String} {cc : ByteArray} {Ts : List Cond} {rm : Room} {pc : Nat} {lv : List (Nat × Value)} {st : List Value} {h : xg_H} {k : Nat} {x : Int32} {lv2 : List (Nat × Value)} (C : xg_ok X cc own Ts rm) (hd : decode cc pc = .ok (.istore k, 2)) (n : Nat) (hnL : xg_nL X n) (hn : k < n) (hl2 : (k, Value.int x) :: lv.filter (fun q => !(q.1 == k) && !(q.1 + 1 == k && q.2.category == 2)) = lv2) (kk : xg_W X k0 n0 Y (pc + 2) lv2 st h) : xg_W X k0 n0 Y pc lv (.int x :: st) h := by
  obtain ⟨p, l, e, R, s, m, args, below, meth, c, Q, D, cA, zs, A, nL⟩ := X
  obtain ⟨hx, hb, hml, hown, hts, hA, hlk, hR, hSt, hNw⟩ := C
  intro H locs ls hK hP hD hS hl
  exact lv_istore hx hb hd hl (by have h9 : nL = n := hnL; rw [h9]; exact hn) hl2 (fun ls2 hl3 => kk H locs ls2 hK hP hD hS hl3)
theorem xg_lstore_n {X : xg_X} {k0 n0 : Nat} {Y : xg_Y} {own : String} {cc : ByteArray} {Ts : List Cond} {rm : Room} {pc : Nat} {lv : List (Nat × Value)} {st : List Value} {h : xg_H} {k : Fin 4} {x : Int64} {lv2 : List (Nat × Value)} (C : xg_ok X cc own Ts rm) (hd : decode cc pc = .ok (.lstore_n k, 1)) (n : Nat) (hnL : xg_nL X n) (hn : (k : Nat) + 1 < n) (hl2 : ((k : Nat), Value.long x) :: lv.filter (fun q => !(q.1 == (k : Nat)) && (!(q.1 == (k : Nat) + 1) && !(q.1 + 1 == (k : Nat) && q.2.category == 2))) = lv2) (kk : xg_W X k0 n0 Y (pc + 1) lv2 st h) : xg_W X k0 n0 Y pc lv (.long x :: st) h := by
  obtain ⟨p, l, e, R, s, m, args, below, meth, c, Q, D, cA, zs, A, nL⟩ := X
  obtain ⟨hx, hb, hml, hown, hts, hA, hlk, hR, hSt, hNw⟩ := C
  intro H locs ls hK hP hD hS hl
  exact lv_lstore_n hx hb hd rfl hl (by have h9 : nL = n := hnL; rw [h9]; exact hn) hl2 (fun ls2 hl3 => kk H locs ls2 hK hP hD hS hl3)
theorem xg_lstore {X : xg_X} {k0 n0 : Nat} {Y : xg_Y} {own : String} {cc : ByteArray} {Ts : List Cond} {rm : Room} {pc : Nat} {lv : List (Nat × Value)} {st : List Value} {h : xg_H} {k : Nat} {x : Int64} {lv2 : List (Nat × Value)} (C : xg_ok X cc own Ts rm) (hd : decode cc pc = .ok (.lstore k, 2)) (n : Nat) (hnL : xg_nL X n) (hn : k + 1 < n) (hl2 : (k, Value.long x) :: lv.filter (fun q => !(q.1 == k) && (!(q.1 == k + 1) && !(q.1 + 1 == k && q.2.category == 2))) = lv2) (kk : xg_W X k0 n0 Y (pc + 2) lv2 st h) : xg_W X k0 n0 Y pc lv (.long x :: st) h := by
  obtain ⟨p, l, e, R, s, m, args, below, meth, c, Q, D, cA, zs, A, nL⟩ := X
  obtain ⟨hx, hb, hml, hown, hts, hA, hlk, hR, hSt, hNw⟩ := C
  intro H locs ls hK hP hD hS hl
  exact lv_lstore hx hb hd hl (by have h9 : nL = n := hnL; rw [h9]; exact hn) hl2 (fun ls2 hl3 => kk H locs ls2 hK hP hD hS hl3)
theorem xg_iinc {X : xg_X} {k0 n0 : Nat} {Y : xg_Y} {own : String} {cc : ByteArray} {Ts : List Cond} {rm : Room} {pc : Nat} {lv : List (Nat × Value)} {st : List Value} {h : xg_H} {i : Nat} {d : Int} {x v : Int32} {lv2 : List (Nat × Value)} (C : xg_ok X cc own Ts rm) (hd : decode cc pc = .ok (.iinc i d, 3)) (k : Nat) (hk : lv[k]? = some (i, .int x)) (hv : x + Int32.ofInt d = v) (n : Nat) (hnL : xg_nL X n) (hn : i < n) (hl2 : (i, Value.int v) :: lv.filter (fun q => !(q.1 == i) && !(q.1 + 1 == i && q.2.category == 2)) = lv2) (kk : xg_W X k0 n0 Y (pc + 3) lv2 st h) : xg_W X k0 n0 Y pc lv st h := by
  obtain ⟨p, l, e, R, s, m, args, below, meth, c, Q, D, cA, zs, A, nL⟩ := X
  obtain ⟨hx, hb, hml, hown, hts, hA, hlk, hR, hSt, hNw⟩ := C
  intro H locs ls hK hP hD hS hl
  exact lv_iinc hx hb hd hl hk hv (by have h9 : nL = n := hnL; rw [h9]; exact hn) hl2 (fun ls2 hl3 => kk H locs ls2 hK hP hD hS hl3)
theorem xg_iconst {X : xg_X} {k0 n0 : Nat} {Y : xg_Y} {own : String} {cc : ByteArray} {Ts : List Cond} {rm : Room} {pc : Nat} {lv : List (Nat × Value)} {st : List Value} {h : xg_H} {n : Int} {v : Int32} (C : xg_ok X cc own Ts rm) (hd : decode cc pc = .ok (.iconst n, 1)) (hv : Int32.ofInt n = v) (kk : xg_W X k0 n0 Y (pc + 1) lv (.int v :: st) h) : xg_W X k0 n0 Y pc lv (st) h := by
  obtain ⟨p, l, e, R, s, m, args, below, meth, c, Q, D, cA, zs, A, nL⟩ := X
  obtain ⟨hx, hb, hml, hown, hts, hA, hlk, hR, hSt, hNw⟩ := C
  intro H locs ls hK hP hD hS hl
  exact lv_iconst hx hb hd hv (kk H locs ls hK hP hD hS hl)
theorem xg_lconst {X : xg_X} {k0 n0 : Nat} {Y : xg_Y} {own : String} {cc : ByteArray} {Ts : List Cond} {rm : Room} {pc : Nat} {lv : List (Nat × Value)} {st : List Value} {h : xg_H} {n : Fin 2} {v : Int64} (C : xg_ok X cc own Ts rm) (hd : decode cc pc = .ok (.lconst n, 1)) (hv : Int64.ofNat (n : Nat) = v) (kk : xg_W X k0 n0 Y (pc + 1) lv (.long v :: st) h) : xg_W X k0 n0 Y pc lv (st) h := by
  obtain ⟨p, l, e, R, s, m, args, below, meth, c, Q, D, cA, zs, A, nL⟩ := X
  obtain ⟨hx, hb, hml, hown, hts, hA, hlk, hR, hSt, hNw⟩ := C
  intro H locs ls hK hP hD hS hl
  exact lv_lconst hx hb hd hv (kk H locs ls hK hP hD hS hl)
theorem xg_bipush {X : xg_X} {k0 n0 : Nat} {Y : xg_Y} {own : String} {cc : ByteArray} {Ts : List Cond} {rm : Room} {pc : Nat} {lv : List (Nat × Value)} {st : List Value} {h : xg_H} {n : Int} {v : Int32} (C : xg_ok X cc own Ts rm) (hd : decode cc pc = .ok (.bipush n, 2)) (hv : (Int8.ofInt n).toInt32 = v) (kk : xg_W X k0 n0 Y (pc + 2) lv (.int v :: st) h) : xg_W X k0 n0 Y pc lv (st) h := by
  obtain ⟨p, l, e, R, s, m, args, below, meth, c, Q, D, cA, zs, A, nL⟩ := X
  obtain ⟨hx, hb, hml, hown, hts, hA, hlk, hR, hSt, hNw⟩ := C
  intro H locs ls hK hP hD hS hl
  exact lv_bipush hx hb hd hv (kk H locs ls hK hP hD hS hl)
theorem xg_sipush {X : xg_X} {k0 n0 : Nat} {Y : xg_Y} {own : String} {cc : ByteArray} {Ts : List Cond} {rm : Room} {pc : Nat} {lv : List (Nat × Value)} {st : List Value} {h : xg_H} {n : Int} {v : Int32} (C : xg_ok X cc own Ts rm) (hd : decode cc pc = .ok (.sipush n, 3)) (hv : (Int16.ofInt n).toInt32 = v) (kk : xg_W X k0 n0 Y (pc + 3) lv (.int v :: st) h) : xg_W X k0 n0 Y pc lv (st) h := by
  obtain ⟨p, l, e, R, s, m, args, below, meth, c, Q, D, cA, zs, A, nL⟩ := X
  obtain ⟨hx, hb, hml, hown, hts, hA, hlk, hR, hSt, hNw⟩ := C
  intro H locs ls hK hP hD hS hl
  exact lv_sipush hx hb hd hv (kk H locs ls hK hP hD hS hl)
theorem xg_ldc {X : xg_X} {k0 n0 : Nat} {Y : xg_Y} {own : String} {cc : ByteArray} {Ts : List Cond} {rm : Room} {pc : Nat} {lv : List (Nat × Value)} {st : List Value} {h : xg_H} {i : Nat} {v : Int32} (C : xg_ok X cc own Ts rm) (hd : decode cc pc = .ok (.ldc i, 2)) (hc : Cond.constant own i v ∈ Ts) (kk : xg_W X k0 n0 Y (pc + 2) lv (.int v :: st) h) : xg_W X k0 n0 Y pc lv (st) h := by
  obtain ⟨p, l, e, R, s, m, args, below, meth, c, Q, D, cA, zs, A, nL⟩ := X
  obtain ⟨hx, hb, hml, hown, hts, hA, hlk, hR, hSt, hNw⟩ := C
  intro H locs ls hK hP hD hS hl
  exact lv_ldc hx hb hown (hts _ hc) hd (kk H locs ls hK hP hD hS hl)
theorem xg_ldcw {X : xg_X} {k0 n0 : Nat} {Y : xg_Y} {own : String} {cc : ByteArray} {Ts : List Cond} {rm : Room} {pc : Nat} {lv : List (Nat × Value)} {st : List Value} {h : xg_H} {i : Nat} {v : Int32} (C : xg_ok X cc own Ts rm) (hd : decode cc pc = .ok (.ldc_w i, 3)) (hc : Cond.constant own i v ∈ Ts) (kk : xg_W X k0 n0 Y (pc + 3) lv (.int v :: st) h) : xg_W X k0 n0 Y pc lv (st) h := by
  obtain ⟨p, l, e, R, s, m, args, below, meth, c, Q, D, cA, zs, A, nL⟩ := X
  obtain ⟨hx, hb, hml, hown, hts, hA, hlk, hR, hSt, hNw⟩ := C
  intro H locs ls hK hP hD hS hl
  exact lv_ldcw hx hb hown (hts _ hc) hd (kk H locs ls hK hP hD hS hl)
theorem xg_ldc2 {X : xg_X} {k0 n0 : Nat} {Y : xg_Y} {own : String} {cc : ByteArray} {Ts : List Cond} {rm : Room} {pc : Nat} {lv : List (Nat × Value)} {st : List Value} {h : xg_H} {i : Nat} {v : Int64} (C : xg_ok X cc own Ts rm) (hd : decode cc pc = .ok (.ldc2_w i, 3)) (hc : Cond.constantLong own i v ∈ Ts) (kk : xg_W X k0 n0 Y (pc + 3) lv (.long v :: st) h) : xg_W X k0 n0 Y pc lv (st) h := by
  obtain ⟨p, l, e, R, s, m, args, below, meth, c, Q, D, cA, zs, A, nL⟩ := X
  obtain ⟨hx, hb, hml, hown, hts, hA, hlk, hR, hSt, hNw⟩ := C
  intro H locs ls hK hP hD hS hl
  exact lv_ldc2 hx hb hown (hts _ hc) hd (kk H locs ls hK hP hD hS hl)
theorem xg_iadd {X : xg_X} {k0 n0 : Nat} {Y : xg_Y} {own : String} {cc : ByteArray} {Ts : List Cond} {rm : Room} {pc : Nat} {lv : List (Nat × Value)} {st : List Value} {h : xg_H} {x y : Int32} (C : xg_ok X cc own Ts rm) (hd : decode cc pc = .ok (.iadd, 1)) (kk : xg_W X k0 n0 Y (pc + 1) lv (.int (x + y) :: st) h) : xg_W X k0 n0 Y pc lv (.int y :: .int x :: st) h := by
  obtain ⟨p, l, e, R, s, m, args, below, meth, c, Q, D, cA, zs, A, nL⟩ := X
  obtain ⟨hx, hb, hml, hown, hts, hA, hlk, hR, hSt, hNw⟩ := C
  intro H locs ls hK hP hD hS hl
  exact lv_iadd hx hb hd (kk H locs ls hK hP hD hS hl)
theorem xg_isub {X : xg_X} {k0 n0 : Nat} {Y : xg_Y} {own : String} {cc : ByteArray} {Ts : List Cond} {rm : Room} {pc : Nat} {lv : List (Nat × Value)} {st : List Value} {h : xg_H} {x y : Int32} (C : xg_ok X cc own Ts rm) (hd : decode cc pc = .ok (.isub, 1)) (kk : xg_W X k0 n0 Y (pc + 1) lv (.int (x - y) :: st) h) : xg_W X k0 n0 Y pc lv (.int y :: .int x :: st) h := by
  obtain ⟨p, l, e, R, s, m, args, below, meth, c, Q, D, cA, zs, A, nL⟩ := X
  obtain ⟨hx, hb, hml, hown, hts, hA, hlk, hR, hSt, hNw⟩ := C
  intro H locs ls hK hP hD hS hl
  exact lv_isub hx hb hd (kk H locs ls hK hP hD hS hl)
theorem xg_imul {X : xg_X} {k0 n0 : Nat} {Y : xg_Y} {own : String} {cc : ByteArray} {Ts : List Cond} {rm : Room} {pc : Nat} {lv : List (Nat × Value)} {st : List Value} {h : xg_H} {x y : Int32} (C : xg_ok X cc own Ts rm) (hd : decode cc pc = .ok (.imul, 1)) (kk : xg_W X k0 n0 Y (pc + 1) lv (.int (x * y) :: st) h) : xg_W X k0 n0 Y pc lv (.int y :: .int x :: st) h := by
  obtain ⟨p, l, e, R, s, m, args, below, meth, c, Q, D, cA, zs, A, nL⟩ := X
  obtain ⟨hx, hb, hml, hown, hts, hA, hlk, hR, hSt, hNw⟩ := C
  intro H locs ls hK hP hD hS hl
  exact lv_imul hx hb hd (kk H locs ls hK hP hD hS hl)
theorem xg_iand {X : xg_X} {k0 n0 : Nat} {Y : xg_Y} {own : String} {cc : ByteArray} {Ts : List Cond} {rm : Room} {pc : Nat} {lv : List (Nat × Value)} {st : List Value} {h : xg_H} {x y : Int32} (C : xg_ok X cc own Ts rm) (hd : decode cc pc = .ok (.iand, 1)) (kk : xg_W X k0 n0 Y (pc + 1) lv (.int (x &&& y) :: st) h) : xg_W X k0 n0 Y pc lv (.int y :: .int x :: st) h := by
  obtain ⟨p, l, e, R, s, m, args, below, meth, c, Q, D, cA, zs, A, nL⟩ := X
  obtain ⟨hx, hb, hml, hown, hts, hA, hlk, hR, hSt, hNw⟩ := C
  intro H locs ls hK hP hD hS hl
  exact lv_iand hx hb hd (kk H locs ls hK hP hD hS hl)
theorem xg_ior {X : xg_X} {k0 n0 : Nat} {Y : xg_Y} {own : String} {cc : ByteArray} {Ts : List Cond} {rm : Room} {pc : Nat} {lv : List (Nat × Value)} {st : List Value} {h : xg_H} {x y : Int32} (C : xg_ok X cc own Ts rm) (hd : decode cc pc = .ok (.ior, 1)) (kk : xg_W X k0 n0 Y (pc + 1) lv (.int (x ||| y) :: st) h) : xg_W X k0 n0 Y pc lv (.int y :: .int x :: st) h := by
  obtain ⟨p, l, e, R, s, m, args, below, meth, c, Q, D, cA, zs, A, nL⟩ := X
  obtain ⟨hx, hb, hml, hown, hts, hA, hlk, hR, hSt, hNw⟩ := C
  intro H locs ls hK hP hD hS hl
  exact lv_ior hx hb hd (kk H locs ls hK hP hD hS hl)
theorem xg_ixor {X : xg_X} {k0 n0 : Nat} {Y : xg_Y} {own : String} {cc : ByteArray} {Ts : List Cond} {rm : Room} {pc : Nat} {lv : List (Nat × Value)} {st : List Value} {h : xg_H} {x y : Int32} (C : xg_ok X cc own Ts rm) (hd : decode cc pc = .ok (.ixor, 1)) (kk : xg_W X k0 n0 Y (pc + 1) lv (.int (x ^^^ y) :: st) h) : xg_W X k0 n0 Y pc lv (.int y :: .int x :: st) h := by
  obtain ⟨p, l, e, R, s, m, args, below, meth, c, Q, D, cA, zs, A, nL⟩ := X
  obtain ⟨hx, hb, hml, hown, hts, hA, hlk, hR, hSt, hNw⟩ := C
  intro H locs ls hK hP hD hS hl
  exact lv_ixor hx hb hd (kk H locs ls hK hP hD hS hl)
theorem xg_ishl {X : xg_X} {k0 n0 : Nat} {Y : xg_Y} {own : String} {cc : ByteArray} {Ts : List Cond} {rm : Room} {pc : Nat} {lv : List (Nat × Value)} {st : List Value} {h : xg_H} {x y : Int32} (C : xg_ok X cc own Ts rm) (hd : decode cc pc = .ok (.ishl, 1)) (kk : xg_W X k0 n0 Y (pc + 1) lv (.int (x <<< (y &&& 31)) :: st) h) : xg_W X k0 n0 Y pc lv (.int y :: .int x :: st) h := by
  obtain ⟨p, l, e, R, s, m, args, below, meth, c, Q, D, cA, zs, A, nL⟩ := X
  obtain ⟨hx, hb, hml, hown, hts, hA, hlk, hR, hSt, hNw⟩ := C
  intro H locs ls hK hP hD hS hl
  exact lv_ishl hx hb hd (kk H locs ls hK hP hD hS hl)
theorem xg_ishr {X : xg_X} {k0 n0 : Nat} {Y : xg_Y} {own : String} {cc : ByteArray} {Ts : List Cond} {rm : Room} {pc : Nat} {lv : List (Nat × Value)} {st : List Value} {h : xg_H} {x y : Int32} (C : xg_ok X cc own Ts rm) (hd : decode cc pc = .ok (.ishr, 1)) (kk : xg_W X k0 n0 Y (pc + 1) lv (.int (x >>> (y &&& 31)) :: st) h) : xg_W X k0 n0 Y pc lv (.int y :: .int x :: st) h := by
  obtain ⟨p, l, e, R, s, m, args, below, meth, c, Q, D, cA, zs, A, nL⟩ := X
  obtain ⟨hx, hb, hml, hown, hts, hA, hlk, hR, hSt, hNw⟩ := C
  intro H locs ls hK hP hD hS hl
  exact lv_ishr hx hb hd (kk H locs ls hK hP hD hS hl)
theorem xg_iushr {X : xg_X} {k0 n0 : Nat} {Y : xg_Y} {own : String} {cc : ByteArray} {Ts : List Cond} {rm : Room} {pc : Nat} {lv : List (Nat × Value)} {st : List Value} {h : xg_H} {x y : Int32} (C : xg_ok X cc own Ts rm) (hd : decode cc pc = .ok (.iushr, 1)) (kk : xg_W X k0 n0 Y (pc + 1) lv (.int ((x.toUInt32 >>> (y.toUInt32 &&& Int32.toUInt32 31)).toInt32) :: st) h) : xg_W X k0 n0 Y pc lv (.int y :: .int x :: st) h := by
  obtain ⟨p, l, e, R, s, m, args, below, meth, c, Q, D, cA, zs, A, nL⟩ := X
  obtain ⟨hx, hb, hml, hown, hts, hA, hlk, hR, hSt, hNw⟩ := C
  intro H locs ls hK hP hD hS hl
  exact lv_iushr hx hb hd rfl (kk H locs ls hK hP hD hS hl)
theorem xg_idiv {X : xg_X} {k0 n0 : Nat} {Y : xg_Y} {own : String} {cc : ByteArray} {Ts : List Cond} {rm : Room} {pc : Nat} {lv : List (Nat × Value)} {st : List Value} {h : xg_H} {x y : Int32} (C : xg_ok X cc own Ts rm) (hd : decode cc pc = .ok (.idiv, 1)) (hne : ¬ y = 0) (kk : xg_W X k0 n0 Y (pc + 1) lv (.int (x / y) :: st) h) : xg_W X k0 n0 Y pc lv (.int y :: .int x :: st) h := by
  obtain ⟨p, l, e, R, s, m, args, below, meth, c, Q, D, cA, zs, A, nL⟩ := X
  obtain ⟨hx, hb, hml, hown, hts, hA, hlk, hR, hSt, hNw⟩ := C
  intro H locs ls hK hP hD hS hl
  exact lv_idiv hx hb hd hne (kk H locs ls hK hP hD hS hl)
theorem xg_irem {X : xg_X} {k0 n0 : Nat} {Y : xg_Y} {own : String} {cc : ByteArray} {Ts : List Cond} {rm : Room} {pc : Nat} {lv : List (Nat × Value)} {st : List Value} {h : xg_H} {x y : Int32} (C : xg_ok X cc own Ts rm) (hd : decode cc pc = .ok (.irem, 1)) (hne : ¬ y = 0) (kk : xg_W X k0 n0 Y (pc + 1) lv (.int (x - x / y * y) :: st) h) : xg_W X k0 n0 Y pc lv (.int y :: .int x :: st) h := by
  obtain ⟨p, l, e, R, s, m, args, below, meth, c, Q, D, cA, zs, A, nL⟩ := X
  obtain ⟨hx, hb, hml, hown, hts, hA, hlk, hR, hSt, hNw⟩ := C
  intro H locs ls hK hP hD hS hl
  exact lv_irem hx hb hd hne (kk H locs ls hK hP hD hS hl)
theorem xg_ladd {X : xg_X} {k0 n0 : Nat} {Y : xg_Y} {own : String} {cc : ByteArray} {Ts : List Cond} {rm : Room} {pc : Nat} {lv : List (Nat × Value)} {st : List Value} {h : xg_H} {x y : Int64} (C : xg_ok X cc own Ts rm) (hd : decode cc pc = .ok (.ladd, 1)) (kk : xg_W X k0 n0 Y (pc + 1) lv (.long (x + y) :: st) h) : xg_W X k0 n0 Y pc lv (.long y :: .long x :: st) h := by
  obtain ⟨p, l, e, R, s, m, args, below, meth, c, Q, D, cA, zs, A, nL⟩ := X
  obtain ⟨hx, hb, hml, hown, hts, hA, hlk, hR, hSt, hNw⟩ := C
  intro H locs ls hK hP hD hS hl
  exact lv_ladd hx hb hd (kk H locs ls hK hP hD hS hl)
theorem xg_land {X : xg_X} {k0 n0 : Nat} {Y : xg_Y} {own : String} {cc : ByteArray} {Ts : List Cond} {rm : Room} {pc : Nat} {lv : List (Nat × Value)} {st : List Value} {h : xg_H} {x y : Int64} (C : xg_ok X cc own Ts rm) (hd : decode cc pc = .ok (.land, 1)) (kk : xg_W X k0 n0 Y (pc + 1) lv (.long (x &&& y) :: st) h) : xg_W X k0 n0 Y pc lv (.long y :: .long x :: st) h := by
  obtain ⟨p, l, e, R, s, m, args, below, meth, c, Q, D, cA, zs, A, nL⟩ := X
  obtain ⟨hx, hb, hml, hown, hts, hA, hlk, hR, hSt, hNw⟩ := C
  intro H locs ls hK hP hD hS hl
  exact lv_land hx hb hd (kk H locs ls hK hP hD hS hl)
theorem xg_lor {X : xg_X} {k0 n0 : Nat} {Y : xg_Y} {own : String} {cc : ByteArray} {Ts : List Cond} {rm : Room} {pc : Nat} {lv : List (Nat × Value)} {st : List Value} {h : xg_H} {x y : Int64} (C : xg_ok X cc own Ts rm) (hd : decode cc pc = .ok (.lor, 1)) (kk : xg_W X k0 n0 Y (pc + 1) lv (.long (x ||| y) :: st) h) : xg_W X k0 n0 Y pc lv (.long y :: .long x :: st) h := by
  obtain ⟨p, l, e, R, s, m, args, below, meth, c, Q, D, cA, zs, A, nL⟩ := X
  obtain ⟨hx, hb, hml, hown, hts, hA, hlk, hR, hSt, hNw⟩ := C
  intro H locs ls hK hP hD hS hl
  exact lv_lor hx hb hd (kk H locs ls hK hP hD hS hl)
theorem xg_ldiv {X : xg_X} {k0 n0 : Nat} {Y : xg_Y} {own : String} {cc : ByteArray} {Ts : List Cond} {rm : Room} {pc : Nat} {lv : List (Nat × Value)} {st : List Value} {h : xg_H} {x y : Int64} (C : xg_ok X cc own Ts rm) (hd : decode cc pc = .ok (.ldiv, 1)) (hne : ¬ y = 0) (kk : xg_W X k0 n0 Y (pc + 1) lv (.long (x / y) :: st) h) : xg_W X k0 n0 Y pc lv (.long y :: .long x :: st) h := by
  obtain ⟨p, l, e, R, s, m, args, below, meth, c, Q, D, cA, zs, A, nL⟩ := X
  obtain ⟨hx, hb, hml, hown, hts, hA, hlk, hR, hSt, hNw⟩ := C
  intro H locs ls hK hP hD hS hl
  exact lv_ldiv hx hb hd hne (kk H locs ls hK hP hD hS hl)
theorem xg_lrem {X : xg_X} {k0 n0 : Nat} {Y : xg_Y} {own : String} {cc : ByteArray} {Ts : List Cond} {rm : Room} {pc : Nat} {lv : List (Nat × Value)} {st : List Value} {h : xg_H} {x y : Int64} (C : xg_ok X cc own Ts rm) (hd : decode cc pc = .ok (.lrem, 1)) (hne : ¬ y = 0) (kk : xg_W X k0 n0 Y (pc + 1) lv (.long (x - x / y * y) :: st) h) : xg_W X k0 n0 Y pc lv (.long y :: .long x :: st) h := by
  obtain ⟨p, l, e, R, s, m, args, below, meth, c, Q, D, cA, zs, A, nL⟩ := X
  obtain ⟨hx, hb, hml, hown, hts, hA, hlk, hR, hSt, hNw⟩ := C
  intro H locs ls hK hP hD hS hl
  exact lv_lrem hx hb hd hne (kk H locs ls hK hP hD hS hl)
theorem xg_lshl {X : xg_X} {k0 n0 : Nat} {Y : xg_Y} {own : String} {cc : ByteArray} {Ts : List Cond} {rm : Room} {pc : Nat} {lv : List (Nat × Value)} {st : List Value} {h : xg_H} {x : Int64} {y : Int32} (C : xg_ok X cc own Ts rm) (hd : decode cc pc = .ok (.lshl, 1)) (kk : xg_W X k0 n0 Y (pc + 1) lv (.long (x <<< (y.toInt64 &&& 63)) :: st) h) : xg_W X k0 n0 Y pc lv (.int y :: .long x :: st) h := by
  obtain ⟨p, l, e, R, s, m, args, below, meth, c, Q, D, cA, zs, A, nL⟩ := X
  obtain ⟨hx, hb, hml, hown, hts, hA, hlk, hR, hSt, hNw⟩ := C
  intro H locs ls hK hP hD hS hl
  exact lv_lshl hx hb hd rfl (kk H locs ls hK hP hD hS hl)
theorem xg_lshr {X : xg_X} {k0 n0 : Nat} {Y : xg_Y} {own : String} {cc : ByteArray} {Ts : List Cond} {rm : Room} {pc : Nat} {lv : List (Nat × Value)} {st : List Value} {h : xg_H} {x : Int64} {y : Int32} (C : xg_ok X cc own Ts rm) (hd : decode cc pc = .ok (.lshr, 1)) (kk : xg_W X k0 n0 Y (pc + 1) lv (.long (x >>> (y.toInt64 &&& 63)) :: st) h) : xg_W X k0 n0 Y pc lv (.int y :: .long x :: st) h := by
  obtain ⟨p, l, e, R, s, m, args, below, meth, c, Q, D, cA, zs, A, nL⟩ := X
  obtain ⟨hx, hb, hml, hown, hts, hA, hlk, hR, hSt, hNw⟩ := C
  intro H locs ls hK hP hD hS hl
  exact lv_lshr hx hb hd rfl (kk H locs ls hK hP hD hS hl)
theorem xg_lcmp {X : xg_X} {k0 n0 : Nat} {Y : xg_Y} {own : String} {cc : ByteArray} {Ts : List Cond} {rm : Room} {pc : Nat} {lv : List (Nat × Value)} {st : List Value} {h : xg_H} {x y : Int64} (C : xg_ok X cc own Ts rm) (hd : decode cc pc = .ok (.lcmp, 1)) (kk : xg_W X k0 n0 Y (pc + 1) lv (.int (lg_cmp x y) :: st) h) : xg_W X k0 n0 Y pc lv (.long y :: .long x :: st) h := by
  obtain ⟨p, l, e, R, s, m, args, below, meth, c, Q, D, cA, zs, A, nL⟩ := X
  obtain ⟨hx, hb, hml, hown, hts, hA, hlk, hR, hSt, hNw⟩ := C
  intro H locs ls hK hP hD hS hl
  exact W.lcmp hx hb hd (kk H locs ls hK hP hD hS hl)
theorem xg_i2l {X : xg_X} {k0 n0 : Nat} {Y : xg_Y} {own : String} {cc : ByteArray} {Ts : List Cond} {rm : Room} {pc : Nat} {lv : List (Nat × Value)} {st : List Value} {h : xg_H} {x : Int32} (C : xg_ok X cc own Ts rm) (hd : decode cc pc = .ok (.i2l, 1)) (kk : xg_W X k0 n0 Y (pc + 1) lv (.long x.toInt64 :: st) h) : xg_W X k0 n0 Y pc lv (.int x :: st) h := by
  obtain ⟨p, l, e, R, s, m, args, below, meth, c, Q, D, cA, zs, A, nL⟩ := X
  obtain ⟨hx, hb, hml, hown, hts, hA, hlk, hR, hSt, hNw⟩ := C
  intro H locs ls hK hP hD hS hl
  exact lv_i2l hx hb hd rfl (kk H locs ls hK hP hD hS hl)
theorem xg_l2i {X : xg_X} {k0 n0 : Nat} {Y : xg_Y} {own : String} {cc : ByteArray} {Ts : List Cond} {rm : Room} {pc : Nat} {lv : List (Nat × Value)} {st : List Value} {h : xg_H} {x : Int64} (C : xg_ok X cc own Ts rm) (hd : decode cc pc = .ok (.l2i, 1)) (kk : xg_W X k0 n0 Y (pc + 1) lv (.int x.toInt32 :: st) h) : xg_W X k0 n0 Y pc lv (.long x :: st) h := by
  obtain ⟨p, l, e, R, s, m, args, below, meth, c, Q, D, cA, zs, A, nL⟩ := X
  obtain ⟨hx, hb, hml, hown, hts, hA, hlk, hR, hSt, hNw⟩ := C
  intro H locs ls hK hP hD hS hl
  exact lv_l2i hx hb hd rfl (kk H locs ls hK hP hD hS hl)
theorem xg_i2b {X : xg_X} {k0 n0 : Nat} {Y : xg_Y} {own : String} {cc : ByteArray} {Ts : List Cond} {rm : Room} {pc : Nat} {lv : List (Nat × Value)} {st : List Value} {h : xg_H} {x : Int32} (C : xg_ok X cc own Ts rm) (hd : decode cc pc = .ok (.i2b, 1)) (kk : xg_W X k0 n0 Y (pc + 1) lv (.int x.toInt8.toInt32 :: st) h) : xg_W X k0 n0 Y pc lv (.int x :: st) h := by
  obtain ⟨p, l, e, R, s, m, args, below, meth, c, Q, D, cA, zs, A, nL⟩ := X
  obtain ⟨hx, hb, hml, hown, hts, hA, hlk, hR, hSt, hNw⟩ := C
  intro H locs ls hK hP hD hS hl
  exact lv_i2b hx hb hd rfl (kk H locs ls hK hP hD hS hl)
theorem xg_dup {X : xg_X} {k0 n0 : Nat} {Y : xg_Y} {own : String} {cc : ByteArray} {Ts : List Cond} {rm : Room} {pc : Nat} {lv : List (Nat × Value)} {st : List Value} {h : xg_H} {a : Value} (C : xg_ok X cc own Ts rm) (hd : decode cc pc = .ok (.dup, 1)) (ha : a.category = 1) (kk : xg_W X k0 n0 Y (pc + 1) lv (a :: a :: st) h) : xg_W X k0 n0 Y pc lv (a :: st) h := by
  obtain ⟨p, l, e, R, s, m, args, below, meth, c, Q, D, cA, zs, A, nL⟩ := X
  obtain ⟨hx, hb, hml, hown, hts, hA, hlk, hR, hSt, hNw⟩ := C
  intro H locs ls hK hP hD hS hl
  exact lv_dup hx hb hd ha (kk H locs ls hK hP hD hS hl)
theorem xg_dup2 {X : xg_X} {k0 n0 : Nat} {Y : xg_Y} {own : String} {cc : ByteArray} {Ts : List Cond} {rm : Room} {pc : Nat} {lv : List (Nat × Value)} {st : List Value} {h : xg_H} {a b : Value} (C : xg_ok X cc own Ts rm) (hd : decode cc pc = .ok (.dup2, 1)) (ha : a.category = 1) (hb1 : b.category = 1) (kk : xg_W X k0 n0 Y (pc + 1) lv (a :: b :: a :: b :: st) h) : xg_W X k0 n0 Y pc lv (a :: b :: st) h := by
  obtain ⟨p, l, e, R, s, m, args, below, meth, c, Q, D, cA, zs, A, nL⟩ := X
  obtain ⟨hx, hb, hml, hown, hts, hA, hlk, hR, hSt, hNw⟩ := C
  intro H locs ls hK hP hD hS hl
  exact lv_dup2_11 hx hb hd ha hb1 (kk H locs ls hK hP hD hS hl)
theorem xg_pop {X : xg_X} {k0 n0 : Nat} {Y : xg_Y} {own : String} {cc : ByteArray} {Ts : List Cond} {rm : Room} {pc : Nat} {lv : List (Nat × Value)} {st : List Value} {h : xg_H} {a : Value} (C : xg_ok X cc own Ts rm) (hd : decode cc pc = .ok (.pop, 1)) (ha : a.category = 1) (kk : xg_W X k0 n0 Y (pc + 1) lv (st) h) : xg_W X k0 n0 Y pc lv (a :: st) h := by
  obtain ⟨p, l, e, R, s, m, args, below, meth, c, Q, D, cA, zs, A, nL⟩ := X
  obtain ⟨hx, hb, hml, hown, hts, hA, hlk, hR, hSt, hNw⟩ := C
  intro H locs ls hK hP hD hS hl
  exact lv_pop hx hb hd ha (kk H locs ls hK hP hD hS hl)
theorem xg_topi {X : xg_X} {k0 n0 : Nat} {Y : xg_Y} {pc : Nat} {lv : List (Nat × Value)} {st : List Value} {h : xg_H} {x : Int32} (kk : ∀ y : Int32, y = x → xg_W X k0 n0 Y pc lv (.int y :: st) h) : xg_W X k0 n0 Y pc lv (.int x :: st) h := kk x rfl
theorem xg_topl {X : xg_X} {k0 n0 : Nat} {Y : xg_Y} {pc : Nat} {lv : List (Nat × Value)} {st : List Value} {h : xg_H} {x : Int64} (kk : ∀ y : Int64, y = x → xg_W X k0 n0 Y pc lv (.long y :: st) h) : xg_W X k0 n0 Y pc lv (.long x :: st) h := kk x rfl
theorem xg_sub {X : xg_X} {k0 n0 : Nat} {Y : xg_Y} {pc : Nat} {lv : List (Nat × Value)} {st : List Value} {h : xg_H} {lv2 : List (Nat × Value)} (ks : List Nat) (hl2 : lv_pick lv ks = lv2) (kk : xg_W X k0 n0 Y pc lv2 st h) : xg_W X k0 n0 Y pc lv st h := by
  obtain ⟨p, l, e, R, s, m, args, below, meth, c, Q, D, cA, zs, A, nL⟩ := X
  intro H locs ls hK hP hD hS hl
  exact kk H locs ls hK hP hD hS (lv_sub hl ks hl2)
theorem xg_icmp_eq {X : xg_X} {k0 n0 : Nat} {Y : xg_Y} {own : String} {cc : ByteArray} {Ts : List Cond} {rm : Room} {pc : Nat} {lv : List (Nat × Value)} {st : List Value} {h : xg_H} {x y : Int32} {off : Int} (tgt : Nat) (C : xg_ok X cc own Ts rm) (hd : decode cc pc = .ok (.if_icmp .eq off, 3)) (ht : (pc : Int) + off = (tgt : Int)) (kt : x = y → xg_W X k0 n0 Y tgt lv st h) (kf : ¬ x = y → xg_W X k0 n0 Y (pc + 3) lv st h) : xg_W X k0 n0 Y pc lv (.int y :: .int x :: st) h := by
  obtain ⟨p, l, e, R, s, m, args, below, meth, c, Q, D, cA, zs, A, nL⟩ := X
  obtain ⟨hx, hb, hml, hown, hts, hA, hlk, hR, hSt, hNw⟩ := C
  intro H locs ls hK hP hD hS hl
  exact lv_icmp_eq hx hb hd ht (fun q => kt q H locs ls hK hP hD hS hl) (fun q => kf q H locs ls hK hP hD hS hl)
theorem xg_icmp_ne {X : xg_X} {k0 n0 : Nat} {Y : xg_Y} {own : String} {cc : ByteArray} {Ts : List Cond} {rm : Room} {pc : Nat} {lv : List (Nat × Value)} {st : List Value} {h : xg_H} {x y : Int32} {off : Int} (tgt : Nat) (C : xg_ok X cc own Ts rm) (hd : decode cc pc = .ok (.if_icmp .ne off, 3)) (ht : (pc : Int) + off = (tgt : Int)) (kt : ¬ x = y → xg_W X k0 n0 Y tgt lv st h) (kf : x = y → xg_W X k0 n0 Y (pc + 3) lv st h) : xg_W X k0 n0 Y pc lv (.int y :: .int x :: st) h := by
  obtain ⟨p, l, e, R, s, m, args, below, meth, c, Q, D, cA, zs, A, nL⟩ := X
  obtain ⟨hx, hb, hml, hown, hts, hA, hlk, hR, hSt, hNw⟩ := C
  intro H locs ls hK hP hD hS hl
  exact lv_icmp_ne hx hb hd ht (fun q => kt q H locs ls hK hP hD hS hl) (fun q => kf q H locs ls hK hP hD hS hl)
theorem xg_icmp_lt {X : xg_X} {k0 n0 : Nat} {Y : xg_Y} {own : String} {cc : ByteArray} {Ts : List Cond} {rm : Room} {pc : Nat} {lv : List (Nat × Value)} {st : List Value} {h : xg_H} {x y : Int32} {off : Int} (tgt : Nat) (C : xg_ok X cc own Ts rm) (hd : decode cc pc = .ok (.if_icmp .lt off, 3)) (ht : (pc : Int) + off = (tgt : Int)) (kt : x < y → xg_W X k0 n0 Y tgt lv st h) (kf : ¬ x < y → xg_W X k0 n0 Y (pc + 3) lv st h) : xg_W X k0 n0 Y pc lv (.int y :: .int x :: st) h := by
  obtain ⟨p, l, e, R, s, m, args, below, meth, c, Q, D, cA, zs, A, nL⟩ := X
  obtain ⟨hx, hb, hml, hown, hts, hA, hlk, hR, hSt, hNw⟩ := C
  intro H locs ls hK hP hD hS hl
  exact lv_icmp_lt hx hb hd ht (fun q => kt q H locs ls hK hP hD hS hl) (fun q => kf q H locs ls hK hP hD hS hl)
theorem xg_icmp_ge {X : xg_X} {k0 n0 : Nat} {Y : xg_Y} {own : String} {cc : ByteArray} {Ts : List Cond} {rm : Room} {pc : Nat} {lv : List (Nat × Value)} {st : List Value} {h : xg_H} {x y : Int32} {off : Int} (tgt : Nat) (C : xg_ok X cc own Ts rm) (hd : decode cc pc = .ok (.if_icmp .ge off, 3)) (ht : (pc : Int) + off = (tgt : Int)) (kt : y ≤ x → xg_W X k0 n0 Y tgt lv st h) (kf : ¬ y ≤ x → xg_W X k0 n0 Y (pc + 3) lv st h) : xg_W X k0 n0 Y pc lv (.int y :: .int x :: st) h := by
  obtain ⟨p, l, e, R, s, m, args, below, meth, c, Q, D, cA, zs, A, nL⟩ := X
  obtain ⟨hx, hb, hml, hown, hts, hA, hlk, hR, hSt, hNw⟩ := C
  intro H locs ls hK hP hD hS hl
  exact lv_icmp_ge hx hb hd ht (fun q => kt q H locs ls hK hP hD hS hl) (fun q => kf q H locs ls hK hP hD hS hl)
theorem xg_icmp_gt {X : xg_X} {k0 n0 : Nat} {Y : xg_Y} {own : String} {cc : ByteArray} {Ts : List Cond} {rm : Room} {pc : Nat} {lv : List (Nat × Value)} {st : List Value} {h : xg_H} {x y : Int32} {off : Int} (tgt : Nat) (C : xg_ok X cc own Ts rm) (hd : decode cc pc = .ok (.if_icmp .gt off, 3)) (ht : (pc : Int) + off = (tgt : Int)) (kt : y < x → xg_W X k0 n0 Y tgt lv st h) (kf : ¬ y < x → xg_W X k0 n0 Y (pc + 3) lv st h) : xg_W X k0 n0 Y pc lv (.int y :: .int x :: st) h := by
  obtain ⟨p, l, e, R, s, m, args, below, meth, c, Q, D, cA, zs, A, nL⟩ := X
  obtain ⟨hx, hb, hml, hown, hts, hA, hlk, hR, hSt, hNw⟩ := C
  intro H locs ls hK hP hD hS hl
  exact lv_icmp_gt hx hb hd ht (fun q => kt q H locs ls hK hP hD hS hl) (fun q => kf q H locs ls hK hP hD hS hl)
theorem xg_icmp_le {X : xg_X} {k0 n0 : Nat} {Y : xg_Y} {own : String} {cc : ByteArray} {Ts : List Cond} {rm : Room} {pc : Nat} {lv : List (Nat × Value)} {st : List Value} {h : xg_H} {x y : Int32} {off : Int} (tgt : Nat) (C : xg_ok X cc own Ts rm) (hd : decode cc pc = .ok (.if_icmp .le off, 3)) (ht : (pc : Int) + off = (tgt : Int)) (kt : x ≤ y → xg_W X k0 n0 Y tgt lv st h) (kf : ¬ x ≤ y → xg_W X k0 n0 Y (pc + 3) lv st h) : xg_W X k0 n0 Y pc lv (.int y :: .int x :: st) h := by
  obtain ⟨p, l, e, R, s, m, args, below, meth, c, Q, D, cA, zs, A, nL⟩ := X
  obtain ⟨hx, hb, hml, hown, hts, hA, hlk, hR, hSt, hNw⟩ := C
  intro H locs ls hK hP hD hS hl
  exact lv_icmp_le hx hb hd ht (fun q => kt q H locs ls hK hP hD hS hl) (fun q => kf q H locs ls hK hP hD hS hl)
theorem xg_if_eq {X : xg_X} {k0 n0 : Nat} {Y : xg_Y} {own : String} {cc : ByteArray} {Ts : List Cond} {rm : Room} {pc : Nat} {lv : List (Nat × Value)} {st : List Value} {h : xg_H} {x : Int32} {off : Int} (tgt : Nat) (C : xg_ok X cc own Ts rm) (hd : decode cc pc = .ok (.ifCond .eq off, 3)) (ht : (pc : Int) + off = (tgt : Int)) (kt : x = 0 → xg_W X k0 n0 Y tgt lv st h) (kf : ¬ x = 0 → xg_W X k0 n0 Y (pc + 3) lv st h) : xg_W X k0 n0 Y pc lv (.int x :: st) h := by
  obtain ⟨p, l, e, R, s, m, args, below, meth, c, Q, D, cA, zs, A, nL⟩ := X
  obtain ⟨hx, hb, hml, hown, hts, hA, hlk, hR, hSt, hNw⟩ := C
  intro H locs ls hK hP hD hS hl
  exact lv_if_eq hx hb hd ht (fun q => kt q H locs ls hK hP hD hS hl) (fun q => kf q H locs ls hK hP hD hS hl)
theorem xg_if_ne {X : xg_X} {k0 n0 : Nat} {Y : xg_Y} {own : String} {cc : ByteArray} {Ts : List Cond} {rm : Room} {pc : Nat} {lv : List (Nat × Value)} {st : List Value} {h : xg_H} {x : Int32} {off : Int} (tgt : Nat) (C : xg_ok X cc own Ts rm) (hd : decode cc pc = .ok (.ifCond .ne off, 3)) (ht : (pc : Int) + off = (tgt : Int)) (kt : ¬ x = 0 → xg_W X k0 n0 Y tgt lv st h) (kf : x = 0 → xg_W X k0 n0 Y (pc + 3) lv st h) : xg_W X k0 n0 Y pc lv (.int x :: st) h := by
  obtain ⟨p, l, e, R, s, m, args, below, meth, c, Q, D, cA, zs, A, nL⟩ := X
  obtain ⟨hx, hb, hml, hown, hts, hA, hlk, hR, hSt, hNw⟩ := C
  intro H locs ls hK hP hD hS hl
  exact lv_if_ne hx hb hd ht (fun q => kt q H locs ls hK hP hD hS hl) (fun q => kf q H locs ls hK hP hD hS hl)
theorem xg_if_lt {X : xg_X} {k0 n0 : Nat} {Y : xg_Y} {own : String} {cc : ByteArray} {Ts : List Cond} {rm : Room} {pc : Nat} {lv : List (Nat × Value)} {st : List Value} {h : xg_H} {x : Int32} {off : Int} (tgt : Nat) (C : xg_ok X cc own Ts rm) (hd : decode cc pc = .ok (.ifCond .lt off, 3)) (ht : (pc : Int) + off = (tgt : Int)) (kt : x < 0 → xg_W X k0 n0 Y tgt lv st h) (kf : ¬ x < 0 → xg_W X k0 n0 Y (pc + 3) lv st h) : xg_W X k0 n0 Y pc lv (.int x :: st) h := by
  obtain ⟨p, l, e, R, s, m, args, below, meth, c, Q, D, cA, zs, A, nL⟩ := X
  obtain ⟨hx, hb, hml, hown, hts, hA, hlk, hR, hSt, hNw⟩ := C
  intro H locs ls hK hP hD hS hl
  exact lv_if_lt hx hb hd ht (fun q => kt q H locs ls hK hP hD hS hl) (fun q => kf q H locs ls hK hP hD hS hl)
theorem xg_if_ge {X : xg_X} {k0 n0 : Nat} {Y : xg_Y} {own : String} {cc : ByteArray} {Ts : List Cond} {rm : Room} {pc : Nat} {lv : List (Nat × Value)} {st : List Value} {h : xg_H} {x : Int32} {off : Int} (tgt : Nat) (C : xg_ok X cc own Ts rm) (hd : decode cc pc = .ok (.ifCond .ge off, 3)) (ht : (pc : Int) + off = (tgt : Int)) (kt : 0 ≤ x → xg_W X k0 n0 Y tgt lv st h) (kf : ¬ 0 ≤ x → xg_W X k0 n0 Y (pc + 3) lv st h) : xg_W X k0 n0 Y pc lv (.int x :: st) h := by
  obtain ⟨p, l, e, R, s, m, args, below, meth, c, Q, D, cA, zs, A, nL⟩ := X
  obtain ⟨hx, hb, hml, hown, hts, hA, hlk, hR, hSt, hNw⟩ := C
  intro H locs ls hK hP hD hS hl
  exact lv_if_ge hx hb hd ht (fun q => kt q H locs ls hK hP hD hS hl) (fun q => kf q H locs ls hK hP hD hS hl)
theorem xg_if_gt {X : xg_X} {k0 n0 : Nat} {Y : xg_Y} {own : String} {cc : ByteArray} {Ts : List Cond} {rm : Room} {pc : Nat} {lv : List (Nat × Value)} {st : List Value} {h : xg_H} {x : Int32} {off : Int} (tgt : Nat) (C : xg_ok X cc own Ts rm) (hd : decode cc pc = .ok (.ifCond .gt off, 3)) (ht : (pc : Int) + off = (tgt : Int)) (kt : 0 < x → xg_W X k0 n0 Y tgt lv st h) (kf : ¬ 0 < x → xg_W X k0 n0 Y (pc + 3) lv st h) : xg_W X k0 n0 Y pc lv (.int x :: st) h := by
  obtain ⟨p, l, e, R, s, m, args, below, meth, c, Q, D, cA, zs, A, nL⟩ := X
  obtain ⟨hx, hb, hml, hown, hts, hA, hlk, hR, hSt, hNw⟩ := C
  intro H locs ls hK hP hD hS hl
  exact lv_if_gt hx hb hd ht (fun q => kt q H locs ls hK hP hD hS hl) (fun q => kf q H locs ls hK hP hD hS hl)
theorem xg_if_le {X : xg_X} {k0 n0 : Nat} {Y : xg_Y} {own : String} {cc : ByteArray} {Ts : List Cond} {rm : Room} {pc : Nat} {lv : List (Nat × Value)} {st : List Value} {h : xg_H} {x : Int32} {off : Int} (tgt : Nat) (C : xg_ok X cc own Ts rm) (hd : decode cc pc = .ok (.ifCond .le off, 3)) (ht : (pc : Int) + off = (tgt : Int)) (kt : x ≤ 0 → xg_W X k0 n0 Y tgt lv st h) (kf : ¬ x ≤ 0 → xg_W X k0 n0 Y (pc + 3) lv st h) : xg_W X k0 n0 Y pc lv (.int x :: st) h := by
  obtain ⟨p, l, e, R, s, m, args, below, meth, c, Q, D, cA, zs, A, nL⟩ := X
  obtain ⟨hx, hb, hml, hown, hts, hA, hlk, hR, hSt, hNw⟩ := C
  intro H locs ls hK hP hD hS hl
  exact lv_if_le hx hb hd ht (fun q => kt q H locs ls hK hP hD hS hl) (fun q => kf q H locs ls hK hP hD hS hl)
theorem xg_goto {X : xg_X} {k0 n0 : Nat} {Y : xg_Y} {own : String} {cc : ByteArray} {Ts : List Cond} {rm : Room} {pc : Nat} {lv : List (Nat × Value)} {st : List Value} {h : xg_H} {off : Int} (tgt : Nat) (C : xg_ok X cc own Ts rm) (hd : decode cc pc = .ok (.goto off, 3)) (ht : (pc : Int) + off = (tgt : Int)) (kk : xg_W X k0 n0 Y tgt lv st h) : xg_W X k0 n0 Y pc lv st h := by
  obtain ⟨p, l, e, R, s, m, args, below, meth, c, Q, D, cA, zs, A, nL⟩ := X
  obtain ⟨hx, hb, hml, hown, hts, hA, hlk, hR, hSt, hNw⟩ := C
  intro H locs ls hK hP hD hS hl
  exact lv_goto hx hb hd ht (kk H locs ls hK hP hD hS hl)
theorem xg_tabIn {X : xg_X} {k0 n0 : Nat} {Y : xg_Y} {own : String} {cc : ByteArray} {Ts : List Cond} {rm : Room} {pc : Nat} {lv : List (Nat × Value)} {st : List Value} {h : xg_H} {dflt lo hi : Int} {offs : Array Int} {len : Nat} {x : Int32} {off : Int} (tgt : Nat) (C : xg_ok X cc own Ts rm) (hd : decode cc pc = .ok (.tableswitch dflt lo hi offs, len)) (h1 : ¬ x.toInt < lo) (h2 : ¬ hi < x.toInt) (ho : offs[(x.toInt - lo).toNat]? = some off) (ht : (pc : Int) + off = (tgt : Int)) (kk : xg_W X k0 n0 Y tgt lv st h) : xg_W X k0 n0 Y pc lv (.int x :: st) h := by
  obtain ⟨p, l, e, R, s, m, args, below, meth, c, Q, D, cA, zs, A, nL⟩ := X
  obtain ⟨hx, hb, hml, hown, hts, hA, hlk, hR, hSt, hNw⟩ := C
  intro H locs ls hK hP hD hS hl
  exact lv_tableIn hx hb hd h1 h2 ho ht (kk H locs ls hK hP hD hS hl)
theorem xg_tabOut {X : xg_X} {k0 n0 : Nat} {Y : xg_Y} {own : String} {cc : ByteArray} {Ts : List Cond} {rm : Room} {pc : Nat} {lv : List (Nat × Value)} {st : List Value} {h : xg_H} {dflt lo hi : Int} {offs : Array Int} {len : Nat} {x : Int32} (tgt : Nat) (C : xg_ok X cc own Ts rm) (hd : decode cc pc = .ok (.tableswitch dflt lo hi offs, len)) (h1 : x.toInt < lo ∨ hi < x.toInt) (ht : (pc : Int) + dflt = (tgt : Int)) (kk : xg_W X k0 n0 Y tgt lv st h) : xg_W X k0 n0 Y pc lv (.int x :: st) h := by
  obtain ⟨p, l, e, R, s, m, args, below, meth, c, Q, D, cA, zs, A, nL⟩ := X
  obtain ⟨hx, hb, hml, hown, hts, hA, hlk, hR, hSt, hNw⟩ := C
  intro H locs ls hK hP hD hS hl
  exact lv_tableOut hx hb hd h1 ht (kk H locs ls hK hP hD hS hl)
theorem xg_aload_n {X : xg_X} {k0 n0 : Nat} {Y : xg_Y} {own : String} {cc : ByteArray} {Ts : List Cond} {rm : Room} {pc : Nat} {lv : List (Nat × Value)} {st : List Value} {h : xg_H} {k : Fin 4} {r : Option Nat} (C : xg_ok X cc own Ts rm) (hd : decode cc pc = .ok (.aload_n k, 1)) (j : Nat) (hj : lv[j]? = some ((k : Nat), va_rf r)) (kk : xg_W X k0 n0 Y (pc + 1) lv (va_rf r :: st) h) : xg_W X k0 n0 Y pc lv st h := by
  obtain ⟨p, l, e, R, s, m, args, below, meth, c, Q, D, cA, zs, A, nL⟩ := X
  obtain ⟨hx, hb, hml, hown, hts, hA, hlk, hR, hSt, hNw⟩ := C
  intro H locs ls hK hP hD hS hl
  cases r with
  | none => exact lv_aload_nN hx hb hd rfl (lv_at hl j hj) (kk H locs ls hK hP hD hS hl)
  | some x => exact lv_aload_n hx hb hd rfl (lv_at hl j hj) (kk H locs ls hK hP hD hS hl)
theorem xg_astore_n {X : xg_X} {k0 n0 : Nat} {Y : xg_Y} {own : String} {cc : ByteArray} {Ts : List Cond} {rm : Room} {pc : Nat} {lv : List (Nat × Value)} {st : List Value} {h : xg_H} {k : Fin 4} {r : Option Nat} {lv2 : List (Nat × Value)} (C : xg_ok X cc own Ts rm) (hd : decode cc pc = .ok (.astore_n k, 1)) (n : Nat) (hnL : xg_nL X n) (hn : (k : Nat) < n) (hl2 : ((k : Nat), va_rf r) :: lv.filter (fun q => !(q.1 == (k : Nat)) && !(q.1 + 1 == (k : Nat) && q.2.category == 2)) = lv2) (kk : xg_W X k0 n0 Y (pc + 1) lv2 st h) : xg_W X k0 n0 Y pc lv (va_rf r :: st) h := by
  obtain ⟨p, l, e, R, s, m, args, below, meth, c, Q, D, cA, zs, A, nL⟩ := X
  obtain ⟨hx, hb, hml, hown, hts, hA, hlk, hR, hSt, hNw⟩ := C
  intro H locs ls hK hP hD hS hl
  have h9 : nL = n := hnL
  cases r with
  | none => exact lv_astore_nN hx hb hd rfl hl (by rw [h9]; exact hn) hl2 (fun ls2 hl3 => kk H locs ls2 hK hP hD hS hl3)
  | some x => exact lv_astore_n hx hb hd rfl hl (by rw [h9]; exact hn) hl2 (fun ls2 hl3 => kk H locs ls2 hK hP hD hS hl3)
theorem xg_aload {X : xg_X} {k0 n0 : Nat} {Y : xg_Y} {own : String} {cc : ByteArray} {Ts : List Cond} {rm : Room} {pc : Nat} {lv : List (Nat × Value)} {st : List Value} {h : xg_H} {k : Nat} {r : Option Nat} (C : xg_ok X cc own Ts rm) (hd : decode cc pc = .ok (.aload k, 2)) (j : Nat) (hj : lv[j]? = some (k, va_rf r)) (kk : xg_W X k0 n0 Y (pc + 2) lv (va_rf r :: st) h) : xg_W X k0 n0 Y pc lv st h := by
  obtain ⟨p, l, e, R, s, m, args, below, meth, c, Q, D, cA, zs, A, nL⟩ := X
  obtain ⟨hx, hb, hml, hown, hts, hA, hlk, hR, hSt, hNw⟩ := C
  intro H locs ls hK hP hD hS hl
  cases r with
  | none => exact lv_aloadN hx hb hd (lv_at hl j hj) (kk H locs ls hK hP hD hS hl)
  | some x => exact lv_aload hx hb hd (lv_at hl j hj) (kk H locs ls hK hP hD hS hl)
theorem xg_astore {X : xg_X} {k0 n0 : Nat} {Y : xg_Y} {own : String} {cc : ByteArray} {Ts : List Cond} {rm : Room} {pc : Nat} {lv : List (Nat × Value)} {st : List Value} {h : xg_H} {k : Nat} {r : Option Nat} {lv2 : List (Nat × Value)} (C : xg_ok X cc own Ts rm) (hd : decode cc pc = .ok (.astore k, 2)) (n : Nat) (hnL : xg_nL X n) (hn : k < n) (hl2 : (k, va_rf r) :: lv.filter (fun q => !(q.1 == k) && !(q.1 + 1 == k && q.2.category == 2)) = lv2) (kk : xg_W X k0 n0 Y (pc + 2) lv2 st h) : xg_W X k0 n0 Y pc lv (va_rf r :: st) h := by
  obtain ⟨p, l, e, R, s, m, args, below, meth, c, Q, D, cA, zs, A, nL⟩ := X
  obtain ⟨hx, hb, hml, hown, hts, hA, hlk, hR, hSt, hNw⟩ := C
  intro H locs ls hK hP hD hS hl
  have h9 : nL = n := hnL
  cases r with
  | none => exact lv_astoreN hx hb hd hl (by rw [h9]; exact hn) hl2 (fun ls2 hl3 => kk H locs ls2 hK hP hD hS hl3)
  | some x => exact lv_astore hx hb hd hl (by rw [h9]; exact hn) hl2 (fun ls2 hl3 => kk H locs ls2 hK hP hD hS hl3)
theorem xg_null {X : xg_X} {k0 n0 : Nat} {Y : xg_Y} {own : String} {cc : ByteArray} {Ts : List Cond} {rm : Room} {pc : Nat} {lv : List (Nat × Value)} {st : List Value} {h : xg_H} (C : xg_ok X cc own Ts rm) (hd : decode cc pc = .ok (.aconst_null, 1)) (kk : xg_W X k0 n0 Y (pc + 1) lv (va_rf none :: st) h) : xg_W X k0 n0 Y pc lv st h := by
  obtain ⟨p, l, e, R, s, m, args, below, meth, c, Q, D, cA, zs, A, nL⟩ := X
  obtain ⟨hx, hb, hml, hown, hts, hA, hlk, hR, hSt, hNw⟩ := C
  intro H locs ls hK hP hD hS hl
  exact lv_null hx hb hd (kk H locs ls hK hP hD hS hl)
theorem xg_ifnull {X : xg_X} {k0 n0 : Nat} {Y : xg_Y} {own : String} {cc : ByteArray} {Ts : List Cond} {rm : Room} {pc : Nat} {lv : List (Nat × Value)} {st : List Value} {h : xg_H} {r : Option Nat} {off : Int} (tgt : Nat) (C : xg_ok X cc own Ts rm) (hd : decode cc pc = .ok (.ifnull off, 3)) (ht : (pc : Int) + off = (tgt : Int)) (kt : r = none → xg_W X k0 n0 Y tgt lv st h) (kf : ∀ a : Nat, r = some a → xg_W X k0 n0 Y (pc + 3) lv st h) : xg_W X k0 n0 Y pc lv (va_rf r :: st) h := by
  obtain ⟨p, l, e, R, s, m, args, below, meth, c, Q, D, cA, zs, A, nL⟩ := X
  obtain ⟨hx, hb, hml, hown, hts, hA, hlk, hR, hSt, hNw⟩ := C
  intro H locs ls hK hP hD hS hl
  cases r with
  | none => exact lv_ifnullN hx hb hd ht (kt rfl H locs ls hK hP hD hS hl)
  | some a => exact lv_ifnull hx hb hd (kf a rfl H locs ls hK hP hD hS hl)
theorem xg_ifnonnull {X : xg_X} {k0 n0 : Nat} {Y : xg_Y} {own : String} {cc : ByteArray} {Ts : List Cond} {rm : Room} {pc : Nat} {lv : List (Nat × Value)} {st : List Value} {h : xg_H} {r : Option Nat} {off : Int} (tgt : Nat) (C : xg_ok X cc own Ts rm) (hd : decode cc pc = .ok (.ifnonnull off, 3)) (ht : (pc : Int) + off = (tgt : Int)) (kt : ∀ a : Nat, r = some a → xg_W X k0 n0 Y tgt lv st h) (kf : r = none → xg_W X k0 n0 Y (pc + 3) lv st h) : xg_W X k0 n0 Y pc lv (va_rf r :: st) h := by
  obtain ⟨p, l, e, R, s, m, args, below, meth, c, Q, D, cA, zs, A, nL⟩ := X
  obtain ⟨hx, hb, hml, hown, hts, hA, hlk, hR, hSt, hNw⟩ := C
  intro H locs ls hK hP hD hS hl
  cases r with
  | none => exact lv_ifnonnullN hx hb hd (kf rfl H locs ls hK hP hD hS hl)
  | some a => exact lv_ifnonnull hx hb hd ht (kt a rfl H locs ls hK hP hD hS hl)
theorem xg_widen {X : xg_X} {k0 n0 : Nat} {Y : xg_Y} {pc : Nat} {lv : List (Nat × Value)} {st : List Value} {h : xg_H} {k1 n1 : Nat} (h1 : k0 ≤ k1) (h2 : n0 ≤ n1) (kk : xg_W X k1 n1 Y pc lv st h) : xg_W X k0 n0 Y pc lv st h := by
  obtain ⟨p, l, e, R, s, m, args, below, meth, c, Q, D, cA, zs, A, nL⟩ := X
  intro H locs ls hK hP hD hS hl
  exact W.widen h1 h2 (kk H locs ls hK hP hD hS hl)
theorem xg_geti {X : xg_X} {k0 n0 : Nat} {Y : xg_Y} {own : String} {cc : ByteArray} {Ts : List Cond} {rm : Room} {pc : Nat} {lv : List (Nat × Value)} {st : List Value} {h : xg_H} {i a : Nat} {r : Option Nat} (C : xg_ok X cc own Ts rm) {C1 : String} {T1 : u_T} {ci : Nat} {ref : String} (hin : ∀ w ∈ u_ws C1 T1 (xg_N ci), w ∈ Ts) (hcl : vwCl[ci]? = some (C1, T1, xg_N ci)) (hci : ci < 20) (j : Nat) (hj : j < xg_N ci) (h0 : xg_tm ci j = 0) (hd : decode cc pc = .ok (.getfield i, 3)) (hlk2 : Cond.fieldLink own i ref (T1 j).2.1 (T1 j).2.2.1 ∈ Ts) (href : (T1 j).1 = ref) (hr : r = some a) (hk : xg_is Y a ci) (kk : xg_W X k0 n0 Y (pc + 3) lv (.int (xg_i h a j) :: st) h) : xg_W X k0 n0 Y pc lv (va_rf r :: st) h := by
  obtain ⟨p, l, e, R, s, m, args, below, meth, c, Q, D, cA, zs, A, nL⟩ := X
  obtain ⟨hx, hb, hml, hown, hts, hA, hlk, hR, hSt, hNw⟩ := C
  intro H locs ls hK hP hD hS hl
  subst hr
  obtain ⟨k, hk2⟩ := xg_get (h := h) hk (xg_E_obj hk hci)
  exact va_get (D := D) hx hb hts hin hown hK hP k hk2 hcl j hj (hts _ hlk2) (fun _ h9 => href ▸ h9) ((xg_fs_get hj).trans (congrArg some (xg_fv_i h0))) hd (kk H locs ls hK hP hD hS hl)
theorem xg_getl {X : xg_X} {k0 n0 : Nat} {Y : xg_Y} {own : String} {cc : ByteArray} {Ts : List Cond} {rm : Room} {pc : Nat} {lv : List (Nat × Value)} {st : List Value} {h : xg_H} {i a : Nat} {r : Option Nat} (C : xg_ok X cc own Ts rm) {C1 : String} {T1 : u_T} {ci : Nat} {ref : String} (hin : ∀ w ∈ u_ws C1 T1 (xg_N ci), w ∈ Ts) (hcl : vwCl[ci]? = some (C1, T1, xg_N ci)) (hci : ci < 20) (j : Nat) (hj : j < xg_N ci) (h0 : xg_tm ci j = 1) (hd : decode cc pc = .ok (.getfield i, 3)) (hlk2 : Cond.fieldLink own i ref (T1 j).2.1 (T1 j).2.2.1 ∈ Ts) (href : (T1 j).1 = ref) (hr : r = some a) (hk : xg_is Y a ci) (kk : xg_W X k0 n0 Y (pc + 3) lv (.long (xg_l h a j) :: st) h) : xg_W X k0 n0 Y pc lv (va_rf r :: st) h := by
  obtain ⟨p, l, e, R, s, m, args, below, meth, c, Q, D, cA, zs, A, nL⟩ := X
  obtain ⟨hx, hb, hml, hown, hts, hA, hlk, hR, hSt, hNw⟩ := C
  intro H locs ls hK hP hD hS hl
  subst hr
  obtain ⟨k, hk2⟩ := xg_get (h := h) hk (xg_E_obj hk hci)
  exact va_get (D := D) hx hb hts hin hown hK hP k hk2 hcl j hj (hts _ hlk2) (fun _ h9 => href ▸ h9) ((xg_fs_get hj).trans (congrArg some (xg_fv_l h0))) hd (kk H locs ls hK hP hD hS hl)
theorem xg_getr {X : xg_X} {k0 n0 : Nat} {Y : xg_Y} {own : String} {cc : ByteArray} {Ts : List Cond} {rm : Room} {pc : Nat} {lv : List (Nat × Value)} {st : List Value} {h : xg_H} {i a : Nat} {r : Option Nat} (C : xg_ok X cc own Ts rm) {C1 : String} {T1 : u_T} {ci : Nat} {ref : String} (hin : ∀ w ∈ u_ws C1 T1 (xg_N ci), w ∈ Ts) (hcl : vwCl[ci]? = some (C1, T1, xg_N ci)) (hci : ci < 20) (j : Nat) (hj : j < xg_N ci) (h0 : xg_tm ci j = 2) (hd : decode cc pc = .ok (.getfield i, 3)) (hlk2 : Cond.fieldLink own i ref (T1 j).2.1 (T1 j).2.2.1 ∈ Ts) (href : (T1 j).1 = ref) (hr : r = some a) (hk : xg_is Y a ci) (kk : xg_W X k0 n0 Y (pc + 3) lv (va_rf (xg_o h a j) :: st) h) : xg_W X k0 n0 Y pc lv (va_rf r :: st) h := by
  obtain ⟨p, l, e, R, s, m, args, below, meth, c, Q, D, cA, zs, A, nL⟩ := X
  obtain ⟨hx, hb, hml, hown, hts, hA, hlk, hR, hSt, hNw⟩ := C
  intro H locs ls hK hP hD hS hl
  subst hr
  obtain ⟨k, hk2⟩ := xg_get (h := h) hk (xg_E_obj hk hci)
  exact va_get (D := D) hx hb hts hin hown hK hP k hk2 hcl j hj (hts _ hlk2) (fun _ h9 => href ▸ h9) ((xg_fs_get hj).trans (congrArg some (xg_fv_o h0))) hd (kk H locs ls hK hP hD hS hl)
def xg_init (X : xg_X) : Prop := match X with
  | (_, _, _, _, _, _, _, _, meth, _, _, _, _, _, _, _) => meth.name = "<init>"
theorem xg_rt (C1 : String) : ∀ v : Option Nat, narrow (.object C1) (va_rf v) = va_rf v ∧ fits (.object C1) (va_rf v) = true := fun v => by cases v <;> exact ⟨rfl, rfl⟩
theorem xg_rta (t : FieldType) : ∀ v : Option Nat, narrow (.array t) (va_rf v) = va_rf v ∧ fits (.array t) (va_rf v) = true := fun v => by cases v <;> exact ⟨rfl, rfl⟩
theorem xg_puti {X : xg_X} {k0 n0 : Nat} {Y : xg_Y} {own : String} {cc : ByteArray} {Ts : List Cond} {rm : Room} {pc : Nat} {lv : List (Nat × Value)} {st : List Value} {h : xg_H} {i a : Nat} {r : Option Nat} {v : Int32} (C : xg_ok X cc own Ts rm) {C1 : String} {T1 : u_T} {ci : Nat} {ref : String} (hin : ∀ w ∈ u_ws C1 T1 (xg_N ci), w ∈ Ts) (hcl : vwCl[ci]? = some (C1, T1, xg_N ci)) (hci : ci < 20) (ty0 : Nat → FieldType) (hty0 : ∀ k, k < xg_N ci → parseFieldDescriptor (T1 k).2.2.1 = some (ty0 k)) (hnm : ∀ a, a < xg_N ci → ∀ b, b < xg_N ci → a ≠ b → (T1 a).2.1 ≠ (T1 b).2.1) (j : Nat) (hj : j < xg_N ci) (h0 : xg_tm ci j = 0) (hd : decode cc pc = .ok (.putfield i, 3)) (hlk2 : Cond.fieldLink own i ref (T1 j).2.1 (T1 j).2.2.1 ∈ Ts) (href : (T1 j).1 = ref) (hf : (T1 j).2.2.2 = false) (hty : parseFieldDescriptor (T1 j).2.2.1 = some .int) (hr : r = some a) (hk : xg_is Y a ci) (kk : ∀ h2, h2 = xg_ui h a j v → xg_W X k0 n0 Y (pc + 3) lv st h2) : xg_W X k0 n0 Y pc lv (.int v :: va_rf r :: st) h := by
  obtain ⟨p, l, e, R, s, m, args, below, meth, c, Q, D, cA, zs, A, nL⟩ := X
  obtain ⟨hx, hb, hml, hown, hts, hA, hlk, hR, hSt, hNw⟩ := C
  intro H locs ls hK hP hD hS hl
  subst hr
  have he := xg_E_obj (h := h) hk hci
  obtain ⟨k, hk2⟩ := xg_get (h := h) hk he
  refine va_put (D := D) (v := .int v) hx hb hts hin ty0 hty0 hnm hown hK hP hD hS k hk2 hcl j hj (hts _ hlk2) (fun _ h9 => href ▸ h9) hf hty rfl rfl (by rw [xg_fs_len]; exact hj) hd (fun H2 locs2 hP2 hD2 hS2 => ?_)
  have e1 : (xg_ws Y h).set k (a, .inr (ci, (xg_fs h a ci).set j (.int v))) = xg_ws Y (xg_ui h a j v) := xg_set hD hk he hk2 (by rw [xg_E_obj hk hci, xg_put_i h0]) (fun d hd2 => xg_ui_E d hd2)
  rw [e1] at hP2 hD2
  exact kk _ rfl H2 locs2 ls hK hP2 hD2 hS2 hl
theorem xg_putiF {X : xg_X} {k0 n0 : Nat} {Y : xg_Y} {own : String} {cc : ByteArray} {Ts : List Cond} {rm : Room} {pc : Nat} {lv : List (Nat × Value)} {st : List Value} {h : xg_H} {i a : Nat} {r : Option Nat} {v : Int32} (C : xg_ok X cc own Ts rm) {C1 : String} {T1 : u_T} {ci : Nat} {ref : String} (hin : ∀ w ∈ u_ws C1 T1 (xg_N ci), w ∈ Ts) (hcl : vwCl[ci]? = some (C1, T1, xg_N ci)) (hci : ci < 20) (ty0 : Nat → FieldType) (hty0 : ∀ k, k < xg_N ci → parseFieldDescriptor (T1 k).2.2.1 = some (ty0 k)) (hnm : ∀ a, a < xg_N ci → ∀ b, b < xg_N ci → a ≠ b → (T1 a).2.1 ≠ (T1 b).2.1) (j : Nat) (hj : j < xg_N ci) (h0 : xg_tm ci j = 0) (hd : decode cc pc = .ok (.putfield i, 3)) (hlk2 : Cond.fieldLink own i ref (T1 j).2.1 (T1 j).2.2.1 ∈ Ts) (href : (T1 j).1 = ref) (hf : (T1 j).2.2.2 = true) (hin2 : xg_init X) (hdecl : (T1 j).1 = own) (hty : parseFieldDescriptor (T1 j).2.2.1 = some .int) (hr : r = some a) (hk : xg_is Y a ci) (kk : ∀ h2, h2 = xg_ui h a j v → xg_W X k0 n0 Y (pc + 3) lv st h2) : xg_W X k0 n0 Y pc lv (.int v :: va_rf r :: st) h := by
  obtain ⟨p, l, e, R, s, m, args, below, meth, c, Q, D, cA, zs, A, nL⟩ := X
  obtain ⟨hx, hb, hml, hown, hts, hA, hlk, hR, hSt, hNw⟩ := C
  intro H locs ls hK hP hD hS hl
  subst hr
  have he := xg_E_obj (h := h) hk hci
  obtain ⟨k, hk2⟩ := xg_get (h := h) hk he
  refine va_putF (D := D) (v := .int v) hx hb hts hin ty0 hty0 hnm hown hK hP hD hS k hk2 hcl j hj (hts _ hlk2) (fun _ h9 => href ▸ h9) hf hin2 hdecl hty rfl rfl (by rw [xg_fs_len]; exact hj) hd (fun H2 locs2 hP2 hD2 hS2 => ?_)
  have e1 : (xg_ws Y h).set k (a, .inr (ci, (xg_fs h a ci).set j (.int v))) = xg_ws Y (xg_ui h a j v) := xg_set hD hk he hk2 (by rw [xg_E_obj hk hci, xg_put_i h0]) (fun d hd2 => xg_ui_E d hd2)
  rw [e1] at hP2 hD2
  exact kk _ rfl H2 locs2 ls hK hP2 hD2 hS2 hl
theorem xg_putz {X : xg_X} {k0 n0 : Nat} {Y : xg_Y} {own : String} {cc : ByteArray} {Ts : List Cond} {rm : Room} {pc : Nat} {lv : List (Nat × Value)} {st : List Value} {h : xg_H} {i a : Nat} {r : Option Nat} {v : Int32} (C : xg_ok X cc own Ts rm) {C1 : String} {T1 : u_T} {ci : Nat} {ref : String} (hin : ∀ w ∈ u_ws C1 T1 (xg_N ci), w ∈ Ts) (hcl : vwCl[ci]? = some (C1, T1, xg_N ci)) (hci : ci < 20) (ty0 : Nat → FieldType) (hty0 : ∀ k, k < xg_N ci → parseFieldDescriptor (T1 k).2.2.1 = some (ty0 k)) (hnm : ∀ a, a < xg_N ci → ∀ b, b < xg_N ci → a ≠ b → (T1 a).2.1 ≠ (T1 b).2.1) (j : Nat) (hj : j < xg_N ci) (h0 : xg_tm ci j = 0) (hv : mg_b v) (hd : decode cc pc = .ok (.putfield i, 3)) (hlk2 : Cond.fieldLink own i ref (T1 j).2.1 (T1 j).2.2.1 ∈ Ts) (href : (T1 j).1 = ref) (hf : (T1 j).2.2.2 = false) (hty : parseFieldDescriptor (T1 j).2.2.1 = some .boolean) (hr : r = some a) (hk : xg_is Y a ci) (kk : ∀ h2, h2 = xg_ui h a j v → xg_W X k0 n0 Y (pc + 3) lv st h2) : xg_W X k0 n0 Y pc lv (.int v :: va_rf r :: st) h := by
  obtain ⟨p, l, e, R, s, m, args, below, meth, c, Q, D, cA, zs, A, nL⟩ := X
  obtain ⟨hx, hb, hml, hown, hts, hA, hlk, hR, hSt, hNw⟩ := C
  intro H locs ls hK hP hD hS hl
  subst hr
  have he := xg_E_obj (h := h) hk hci
  obtain ⟨k, hk2⟩ := xg_get (h := h) hk he
  refine va_put (D := D) (v := .int v) hx hb hts hin ty0 hty0 hnm hown hK hP hD hS k hk2 hcl j hj (hts _ hlk2) (fun _ h9 => href ▸ h9) hf hty (mg_nb hv).1 (mg_nb hv).2 (by rw [xg_fs_len]; exact hj) hd (fun H2 locs2 hP2 hD2 hS2 => ?_)
  have e1 : (xg_ws Y h).set k (a, .inr (ci, (xg_fs h a ci).set j (.int v))) = xg_ws Y (xg_ui h a j v) := xg_set hD hk he hk2 (by rw [xg_E_obj hk hci, xg_put_i h0]) (fun d hd2 => xg_ui_E d hd2)
  rw [e1] at hP2 hD2
  exact kk _ rfl H2 locs2 ls hK hP2 hD2 hS2 hl
theorem xg_putzF {X : xg_X} {k0 n0 : Nat} {Y : xg_Y} {own : String} {cc : ByteArray} {Ts : List Cond} {rm : Room} {pc : Nat} {lv : List (Nat × Value)} {st : List Value} {h : xg_H} {i a : Nat} {r : Option Nat} {v : Int32} (C : xg_ok X cc own Ts rm) {C1 : String} {T1 : u_T} {ci : Nat} {ref : String} (hin : ∀ w ∈ u_ws C1 T1 (xg_N ci), w ∈ Ts) (hcl : vwCl[ci]? = some (C1, T1, xg_N ci)) (hci : ci < 20) (ty0 : Nat → FieldType) (hty0 : ∀ k, k < xg_N ci → parseFieldDescriptor (T1 k).2.2.1 = some (ty0 k)) (hnm : ∀ a, a < xg_N ci → ∀ b, b < xg_N ci → a ≠ b → (T1 a).2.1 ≠ (T1 b).2.1) (j : Nat) (hj : j < xg_N ci) (h0 : xg_tm ci j = 0) (hv : mg_b v) (hd : decode cc pc = .ok (.putfield i, 3)) (hlk2 : Cond.fieldLink own i ref (T1 j).2.1 (T1 j).2.2.1 ∈ Ts) (href : (T1 j).1 = ref) (hf : (T1 j).2.2.2 = true) (hin2 : xg_init X) (hdecl : (T1 j).1 = own) (hty : parseFieldDescriptor (T1 j).2.2.1 = some .boolean) (hr : r = some a) (hk : xg_is Y a ci) (kk : ∀ h2, h2 = xg_ui h a j v → xg_W X k0 n0 Y (pc + 3) lv st h2) : xg_W X k0 n0 Y pc lv (.int v :: va_rf r :: st) h := by
  obtain ⟨p, l, e, R, s, m, args, below, meth, c, Q, D, cA, zs, A, nL⟩ := X
  obtain ⟨hx, hb, hml, hown, hts, hA, hlk, hR, hSt, hNw⟩ := C
  intro H locs ls hK hP hD hS hl
  subst hr
  have he := xg_E_obj (h := h) hk hci
  obtain ⟨k, hk2⟩ := xg_get (h := h) hk he
  refine va_putF (D := D) (v := .int v) hx hb hts hin ty0 hty0 hnm hown hK hP hD hS k hk2 hcl j hj (hts _ hlk2) (fun _ h9 => href ▸ h9) hf hin2 hdecl hty (mg_nb hv).1 (mg_nb hv).2 (by rw [xg_fs_len]; exact hj) hd (fun H2 locs2 hP2 hD2 hS2 => ?_)
  have e1 : (xg_ws Y h).set k (a, .inr (ci, (xg_fs h a ci).set j (.int v))) = xg_ws Y (xg_ui h a j v) := xg_set hD hk he hk2 (by rw [xg_E_obj hk hci, xg_put_i h0]) (fun d hd2 => xg_ui_E d hd2)
  rw [e1] at hP2 hD2
  exact kk _ rfl H2 locs2 ls hK hP2 hD2 hS2 hl
theorem xg_putl {X : xg_X} {k0 n0 : Nat} {Y : xg_Y} {own : String} {cc : ByteArray} {Ts : List Cond} {rm : Room} {pc : Nat} {lv : List (Nat × Value)} {st : List Value} {h : xg_H} {i a : Nat} {r : Option Nat} {v : Int64} (C : xg_ok X cc own Ts rm) {C1 : String} {T1 : u_T} {ci : Nat} {ref : String} (hin : ∀ w ∈ u_ws C1 T1 (xg_N ci), w ∈ Ts) (hcl : vwCl[ci]? = some (C1, T1, xg_N ci)) (hci : ci < 20) (ty0 : Nat → FieldType) (hty0 : ∀ k, k < xg_N ci → parseFieldDescriptor (T1 k).2.2.1 = some (ty0 k)) (hnm : ∀ a, a < xg_N ci → ∀ b, b < xg_N ci → a ≠ b → (T1 a).2.1 ≠ (T1 b).2.1) (j : Nat) (hj : j < xg_N ci) (h0 : xg_tm ci j = 1) (hd : decode cc pc = .ok (.putfield i, 3)) (hlk2 : Cond.fieldLink own i ref (T1 j).2.1 (T1 j).2.2.1 ∈ Ts) (href : (T1 j).1 = ref) (hf : (T1 j).2.2.2 = false) (hty : parseFieldDescriptor (T1 j).2.2.1 = some .long) (hr : r = some a) (hk : xg_is Y a ci) (kk : ∀ h2, h2 = xg_ul h a j v → xg_W X k0 n0 Y (pc + 3) lv st h2) : xg_W X k0 n0 Y pc lv (.long v :: va_rf r :: st) h := by
  obtain ⟨p, l, e, R, s, m, args, below, meth, c, Q, D, cA, zs, A, nL⟩ := X
  obtain ⟨hx, hb, hml, hown, hts, hA, hlk, hR, hSt, hNw⟩ := C
  intro H locs ls hK hP hD hS hl
  subst hr
  have he := xg_E_obj (h := h) hk hci
  obtain ⟨k, hk2⟩ := xg_get (h := h) hk he
  refine va_put (D := D) (v := .long v) hx hb hts hin ty0 hty0 hnm hown hK hP hD hS k hk2 hcl j hj (hts _ hlk2) (fun _ h9 => href ▸ h9) hf hty rfl rfl (by rw [xg_fs_len]; exact hj) hd (fun H2 locs2 hP2 hD2 hS2 => ?_)
  have e1 : (xg_ws Y h).set k (a, .inr (ci, (xg_fs h a ci).set j (.long v))) = xg_ws Y (xg_ul h a j v) := xg_set hD hk he hk2 (by rw [xg_E_obj hk hci, xg_put_l h0]) (fun d hd2 => xg_ul_E d hd2)
  rw [e1] at hP2 hD2
  exact kk _ rfl H2 locs2 ls hK hP2 hD2 hS2 hl
theorem xg_putlF {X : xg_X} {k0 n0 : Nat} {Y : xg_Y} {own : String} {cc : ByteArray} {Ts : List Cond} {rm : Room} {pc : Nat} {lv : List (Nat × Value)} {st : List Value} {h : xg_H} {i a : Nat} {r : Option Nat} {v : Int64} (C : xg_ok X cc own Ts rm) {C1 : String} {T1 : u_T} {ci : Nat} {ref : String} (hin : ∀ w ∈ u_ws C1 T1 (xg_N ci), w ∈ Ts) (hcl : vwCl[ci]? = some (C1, T1, xg_N ci)) (hci : ci < 20) (ty0 : Nat → FieldType) (hty0 : ∀ k, k < xg_N ci → parseFieldDescriptor (T1 k).2.2.1 = some (ty0 k)) (hnm : ∀ a, a < xg_N ci → ∀ b, b < xg_N ci → a ≠ b → (T1 a).2.1 ≠ (T1 b).2.1) (j : Nat) (hj : j < xg_N ci) (h0 : xg_tm ci j = 1) (hd : decode cc pc = .ok (.putfield i, 3)) (hlk2 : Cond.fieldLink own i ref (T1 j).2.1 (T1 j).2.2.1 ∈ Ts) (href : (T1 j).1 = ref) (hf : (T1 j).2.2.2 = true) (hin2 : xg_init X) (hdecl : (T1 j).1 = own) (hty : parseFieldDescriptor (T1 j).2.2.1 = some .long) (hr : r = some a) (hk : xg_is Y a ci) (kk : ∀ h2, h2 = xg_ul h a j v → xg_W X k0 n0 Y (pc + 3) lv st h2) : xg_W X k0 n0 Y pc lv (.long v :: va_rf r :: st) h := by
  obtain ⟨p, l, e, R, s, m, args, below, meth, c, Q, D, cA, zs, A, nL⟩ := X
  obtain ⟨hx, hb, hml, hown, hts, hA, hlk, hR, hSt, hNw⟩ := C
  intro H locs ls hK hP hD hS hl
  subst hr
  have he := xg_E_obj (h := h) hk hci
  obtain ⟨k, hk2⟩ := xg_get (h := h) hk he
  refine va_putF (D := D) (v := .long v) hx hb hts hin ty0 hty0 hnm hown hK hP hD hS k hk2 hcl j hj (hts _ hlk2) (fun _ h9 => href ▸ h9) hf hin2 hdecl hty rfl rfl (by rw [xg_fs_len]; exact hj) hd (fun H2 locs2 hP2 hD2 hS2 => ?_)
  have e1 : (xg_ws Y h).set k (a, .inr (ci, (xg_fs h a ci).set j (.long v))) = xg_ws Y (xg_ul h a j v) := xg_set hD hk he hk2 (by rw [xg_E_obj hk hci, xg_put_l h0]) (fun d hd2 => xg_ul_E d hd2)
  rw [e1] at hP2 hD2
  exact kk _ rfl H2 locs2 ls hK hP2 hD2 hS2 hl
theorem xg_putr {X : xg_X} {k0 n0 : Nat} {Y : xg_Y} {own : String} {cc : ByteArray} {Ts : List Cond} {rm : Room} {pc : Nat} {lv : List (Nat × Value)} {st : List Value} {h : xg_H} {i a : Nat} {r : Option Nat} {v : Option Nat} (C : xg_ok X cc own Ts rm) {C1 : String} {T1 : u_T} {ci : Nat} {ref : String} (hin : ∀ w ∈ u_ws C1 T1 (xg_N ci), w ∈ Ts) (hcl : vwCl[ci]? = some (C1, T1, xg_N ci)) (hci : ci < 20) (ty0 : Nat → FieldType) (hty0 : ∀ k, k < xg_N ci → parseFieldDescriptor (T1 k).2.2.1 = some (ty0 k)) (hnm : ∀ a, a < xg_N ci → ∀ b, b < xg_N ci → a ≠ b → (T1 a).2.1 ≠ (T1 b).2.1) (j : Nat) (hj : j < xg_N ci) (h0 : xg_tm ci j = 2) {ty1 : FieldType} (hrt : ∀ v : Option Nat, narrow ty1 (va_rf v) = va_rf v ∧ fits ty1 (va_rf v) = true) (hd : decode cc pc = .ok (.putfield i, 3)) (hlk2 : Cond.fieldLink own i ref (T1 j).2.1 (T1 j).2.2.1 ∈ Ts) (href : (T1 j).1 = ref) (hf : (T1 j).2.2.2 = false) (hty : parseFieldDescriptor (T1 j).2.2.1 = some ty1) (hr : r = some a) (hk : xg_is Y a ci) (kk : ∀ h2, h2 = xg_uo h a j v → xg_W X k0 n0 Y (pc + 3) lv st h2) : xg_W X k0 n0 Y pc lv (va_rf v :: va_rf r :: st) h := by
  obtain ⟨p, l, e, R, s, m, args, below, meth, c, Q, D, cA, zs, A, nL⟩ := X
  obtain ⟨hx, hb, hml, hown, hts, hA, hlk, hR, hSt, hNw⟩ := C
  intro H locs ls hK hP hD hS hl
  subst hr
  have he := xg_E_obj (h := h) hk hci
  obtain ⟨k, hk2⟩ := xg_get (h := h) hk he
  refine va_put (D := D) (v := va_rf v) hx hb hts hin ty0 hty0 hnm hown hK hP hD hS k hk2 hcl j hj (hts _ hlk2) (fun _ h9 => href ▸ h9) hf hty (hrt v).1 (hrt v).2 (by rw [xg_fs_len]; exact hj) hd (fun H2 locs2 hP2 hD2 hS2 => ?_)
  have e1 : (xg_ws Y h).set k (a, .inr (ci, (xg_fs h a ci).set j (va_rf v))) = xg_ws Y (xg_uo h a j v) := xg_set hD hk he hk2 (by rw [xg_E_obj hk hci, xg_put_o h0]) (fun d hd2 => xg_uo_E d hd2)
  rw [e1] at hP2 hD2
  exact kk _ rfl H2 locs2 ls hK hP2 hD2 hS2 hl
theorem xg_putrF {X : xg_X} {k0 n0 : Nat} {Y : xg_Y} {own : String} {cc : ByteArray} {Ts : List Cond} {rm : Room} {pc : Nat} {lv : List (Nat × Value)} {st : List Value} {h : xg_H} {i a : Nat} {r : Option Nat} {v : Option Nat} (C : xg_ok X cc own Ts rm) {C1 : String} {T1 : u_T} {ci : Nat} {ref : String} (hin : ∀ w ∈ u_ws C1 T1 (xg_N ci), w ∈ Ts) (hcl : vwCl[ci]? = some (C1, T1, xg_N ci)) (hci : ci < 20) (ty0 : Nat → FieldType) (hty0 : ∀ k, k < xg_N ci → parseFieldDescriptor (T1 k).2.2.1 = some (ty0 k)) (hnm : ∀ a, a < xg_N ci → ∀ b, b < xg_N ci → a ≠ b → (T1 a).2.1 ≠ (T1 b).2.1) (j : Nat) (hj : j < xg_N ci) (h0 : xg_tm ci j = 2) {ty1 : FieldType} (hrt : ∀ v : Option Nat, narrow ty1 (va_rf v) = va_rf v ∧ fits ty1 (va_rf v) = true) (hd : decode cc pc = .ok (.putfield i, 3)) (hlk2 : Cond.fieldLink own i ref (T1 j).2.1 (T1 j).2.2.1 ∈ Ts) (href : (T1 j).1 = ref) (hf : (T1 j).2.2.2 = true) (hin2 : xg_init X) (hdecl : (T1 j).1 = own) (hty : parseFieldDescriptor (T1 j).2.2.1 = some ty1) (hr : r = some a) (hk : xg_is Y a ci) (kk : ∀ h2, h2 = xg_uo h a j v → xg_W X k0 n0 Y (pc + 3) lv st h2) : xg_W X k0 n0 Y pc lv (va_rf v :: va_rf r :: st) h := by
  obtain ⟨p, l, e, R, s, m, args, below, meth, c, Q, D, cA, zs, A, nL⟩ := X
  obtain ⟨hx, hb, hml, hown, hts, hA, hlk, hR, hSt, hNw⟩ := C
  intro H locs ls hK hP hD hS hl
  subst hr
  have he := xg_E_obj (h := h) hk hci
  obtain ⟨k, hk2⟩ := xg_get (h := h) hk he
  refine va_putF (D := D) (v := va_rf v) hx hb hts hin ty0 hty0 hnm hown hK hP hD hS k hk2 hcl j hj (hts _ hlk2) (fun _ h9 => href ▸ h9) hf hin2 hdecl hty (hrt v).1 (hrt v).2 (by rw [xg_fs_len]; exact hj) hd (fun H2 locs2 hP2 hD2 hS2 => ?_)
  have e1 : (xg_ws Y h).set k (a, .inr (ci, (xg_fs h a ci).set j (va_rf v))) = xg_ws Y (xg_uo h a j v) := xg_set hD hk he hk2 (by rw [xg_E_obj hk hci, xg_put_o h0]) (fun d hd2 => xg_uo_E d hd2)
  rw [e1] at hP2 hD2
  exact kk _ rfl H2 locs2 ls hK hP2 hD2 hS2 hl
theorem xg_gets {X : xg_X} {k0 n0 : Nat} {Y : xg_Y} {own : String} {cc : ByteArray} {Ts : List Cond} {rm : Room} {pc : Nat} {lv : List (Nat × Value)} {st : List Value} {h : xg_H} {i : Nat} {ref : String} (C : xg_ok X cc own Ts rm) (k : Nat) (hk : k < 7) (hd : decode cc pc = .ok (.getstatic i, 3)) (hlk2 : Cond.fieldLink own i ref (xg_sc k).2 "[I" ∈ Ts) (href : (xg_sc k).1 = ref) (kk : xg_W X k0 n0 Y (pc + 3) lv (.ref (xg_zs X k) :: st) h) : xg_W X k0 n0 Y pc lv st h := by
  obtain ⟨p, l, e, R, s, m, args, below, meth, c, Q, D, cA, zs, A, nL⟩ := X
  obtain ⟨hx, hb, hml, hown, hts, hA, hlk, hR, hSt, hNw⟩ := C
  intro H locs ls hK hP hD hS hl
  exact va_gets hx hb (hSt.1 k hk).1 hS hown (hts _ hlk2) (fun _ h9 => href ▸ h9) hd (kk H locs ls hK hP hD hS hl)
theorem xg_getsN {X : xg_X} {k0 n0 : Nat} {Y : xg_Y} {own : String} {cc : ByteArray} {Ts : List Cond} {rm : Room} {pc : Nat} {lv : List (Nat × Value)} {st : List Value} {h : xg_H} {i : Nat} {ref host : String} (C : xg_ok X cc own Ts rm) (k : Nat) (hk : k < 7) (hd : decode cc pc = .ok (.getstatic i, 3)) (hnw : Cond.fieldLinkNest own i ref (xg_sc k).2 "[I" host ∈ xg_nw) (href : (xg_sc k).1 = ref) (kk : xg_W X k0 n0 Y (pc + 3) lv (.ref (xg_zs X k) :: st) h) : xg_W X k0 n0 Y pc lv st h := by
  obtain ⟨p, l, e, R, s, m, args, below, meth, c, Q, D, cA, zs, A, nL⟩ := X
  obtain ⟨hx, hb, hml, hown, hts, hA, hlk, hR, hSt, hNw⟩ := C
  intro H locs ls hK hP hD hS hl
  exact va_getsN hx hb (hSt.1 k hk).1 hS hown (va_Nw.use (xg_nw_on _ hnw) (hNw.1 _ hnw)) (fun _ h9 => href ▸ h9) hd (kk H locs ls hK hP hD hS hl)
theorem xg_sld {X : xg_X} {k0 n0 : Nat} {Y : xg_Y} {own : String} {cc : ByteArray} {Ts : List Cond} {rm : Room} {pc : Nat} {lv : List (Nat × Value)} {st : List Value} {h : xg_H} {i : Int32} (C : xg_ok X cc own Ts rm) (k : Nat) (hk : k < 7) (hi : vp_in i (xg_sn k)) (hd : decode cc pc = .ok (.iaload, 1)) (kk : xg_W X k0 n0 Y (pc + 1) lv (.int (xg_sv k i.toNatClampNeg) :: st) h) : xg_W X k0 n0 Y pc lv (.int i :: .ref (xg_zs X k) :: st) h := by
  obtain ⟨p, l, e, R, s, m, args, below, meth, c, Q, D, cA, zs, A, nL⟩ := X
  obtain ⟨hx, hb, hml, hown, hts, hA, hlk, hR, hSt, hNw⟩ := C
  intro H locs ls hK hP hD hS hl
  exact va_ti hx hb (hSt.1 k hk).2 hS hi rfl hd (kk H locs ls hK hP hD hS hl)
theorem xg_slen {X : xg_X} {k0 n0 : Nat} {Y : xg_Y} {own : String} {cc : ByteArray} {Ts : List Cond} {rm : Room} {pc : Nat} {lv : List (Nat × Value)} {st : List Value} {h : xg_H} (C : xg_ok X cc own Ts rm) (k : Nat) (hk : k < 7) (hd : decode cc pc = .ok (.arraylength, 1)) (kk : xg_W X k0 n0 Y (pc + 1) lv (.int (Int32.ofNat (xg_sn k)) :: st) h) : xg_W X k0 n0 Y pc lv (.ref (xg_zs X k) :: st) h := by
  obtain ⟨p, l, e, R, s, m, args, below, meth, c, Q, D, cA, zs, A, nL⟩ := X
  obtain ⟨hx, hb, hml, hown, hts, hA, hlk, hR, hSt, hNw⟩ := C
  intro H locs ls hK hP hD hS hl
  exact va_tlen hx hb (hSt.1 k hk).2 hS rfl hd (kk H locs ls hK hP hD hS hl)
theorem xg_iald {X : xg_X} {k0 n0 : Nat} {Y : xg_Y} {own : String} {cc : ByteArray} {Ts : List Cond} {rm : Room} {pc : Nat} {lv : List (Nat × Value)} {st : List Value} {h : xg_H} {a : Nat} {r : Option Nat} {i : Int32} (C : xg_ok X cc own Ts rm) (hr : r = some a) (hk : xg_is Y a 22) (hi : vp_in i (xg_n Y a)) (hd : decode cc pc = .ok (.iaload, 1)) (kk : xg_W X k0 n0 Y (pc + 1) lv (.int (xg_i h a i.toNatClampNeg) :: st) h) : xg_W X k0 n0 Y pc lv (.int i :: va_rf r :: st) h := by
  obtain ⟨p, l, e, R, s, m, args, below, meth, c, Q, D, cA, zs, A, nL⟩ := X
  obtain ⟨hx, hb, hml, hown, hts, hA, hlk, hR, hSt, hNw⟩ := C
  intro H locs ls hK hP hD hS hl
  subst hr
  obtain ⟨k, hk2⟩ := xg_get (h := h) hk (xg_E_int hk)
  obtain ⟨t0, ht0⟩ := xg_ty_get hk (by decide)
  exact va_iald hx hb hK hP k t0 hk2 ht0 hi hd (kk H locs ls hK hP hD hS hl)
theorem xg_lald {X : xg_X} {k0 n0 : Nat} {Y : xg_Y} {own : String} {cc : ByteArray} {Ts : List Cond} {rm : Room} {pc : Nat} {lv : List (Nat × Value)} {st : List Value} {h : xg_H} {a : Nat} {r : Option Nat} {i : Int32} (C : xg_ok X cc own Ts rm) (hr : r = some a) (hk : xg_is Y a 23) (hi : vp_in i (xg_n Y a)) (hd : decode cc pc = .ok (.laload, 1)) (kk : xg_W X k0 n0 Y (pc + 1) lv (.long (xg_l h a i.toNatClampNeg) :: st) h) : xg_W X k0 n0 Y pc lv (.int i :: va_rf r :: st) h := by
  obtain ⟨p, l, e, R, s, m, args, below, meth, c, Q, D, cA, zs, A, nL⟩ := X
  obtain ⟨hx, hb, hml, hown, hts, hA, hlk, hR, hSt, hNw⟩ := C
  intro H locs ls hK hP hD hS hl
  subst hr
  obtain ⟨k, hk2⟩ := xg_get (h := h) hk (xg_E_long hk)
  obtain ⟨t0, ht0⟩ := xg_ty_get hk (by decide)
  exact va_lald hx hb hK hP k t0 hk2 ht0 hi hd (kk H locs ls hK hP hD hS hl)
theorem xg_aald {X : xg_X} {k0 n0 : Nat} {Y : xg_Y} {own : String} {cc : ByteArray} {Ts : List Cond} {rm : Room} {pc : Nat} {lv : List (Nat × Value)} {st : List Value} {h : xg_H} {a c9 : Nat} {C9 : String} {r : Option Nat} {i : Int32} (C : xg_ok X cc own Ts rm) (hr : r = some a) (hk : xg_is Y a c9) (h25 : 25 ≤ c9) (ht : xg_ft c9 = .object C9) (hi : vp_in i (xg_n Y a)) (hd : decode cc pc = .ok (.aaload, 1)) (kk : xg_W X k0 n0 Y (pc + 1) lv (va_rf (xg_o h a i.toNatClampNeg) :: st) h) : xg_W X k0 n0 Y pc lv (.int i :: va_rf r :: st) h := by
  obtain ⟨p, l, e, R, s, m, args, below, meth, c, Q, D, cA, zs, A, nL⟩ := X
  obtain ⟨hx, hb, hml, hown, hts, hA, hlk, hR, hSt, hNw⟩ := C
  intro H locs ls hK hP hD hS hl
  subst hr
  obtain ⟨k, hk2⟩ := xg_get (h := h) hk (xg_E_ref hk h25)
  obtain ⟨t0, ht0⟩ := xg_ty_get hk (by omega)
  exact va_aldq hx hb hK hP k t0 hk2 (ht ▸ ht0) hi hd (kk H locs ls hK hP hD hS hl)
theorem xg_alen {X : xg_X} {k0 n0 : Nat} {Y : xg_Y} {own : String} {cc : ByteArray} {Ts : List Cond} {rm : Room} {pc : Nat} {lv : List (Nat × Value)} {st : List Value} {h : xg_H} {a c9 : Nat} {r : Option Nat} (C : xg_ok X cc own Ts rm) (hr : r = some a) (hk : xg_is Y a c9) (h22 : 20 ≤ c9) (hd : decode cc pc = .ok (.arraylength, 1)) (kk : xg_W X k0 n0 Y (pc + 1) lv (.int (Int32.ofNat (xg_n Y a)) :: st) h) : xg_W X k0 n0 Y pc lv (va_rf r :: st) h := by
  obtain ⟨p, l, e, R, s, m, args, below, meth, c, Q, D, cA, zs, A, nL⟩ := X
  obtain ⟨hx, hb, hml, hown, hts, hA, hlk, hR, hSt, hNw⟩ := C
  intro H locs ls hK hP hD hS hl
  subst hr
  obtain ⟨k, hk2⟩ := xg_get (h := h) hk rfl
  have he : ∃ x : vp_A, xg_E Y h a = .inl (xg_c Y a, x) ∧ x.1 = xg_n Y a := ⟨_, by rw [xg_E, hk.2, if_neg (by omega)], rfl⟩
  obtain ⟨x, hx9, hx1⟩ := he
  rw [hx9] at hk2
  obtain ⟨t0, ht0⟩ := xg_ty_get hk h22
  exact va_alen hx hb hK hP k t0 hk2 ht0 (by rw [hx1]) hd (kk H locs ls hK hP hD hS hl)
theorem xg_iast {X : xg_X} {k0 n0 : Nat} {Y : xg_Y} {own : String} {cc : ByteArray} {Ts : List Cond} {rm : Room} {pc : Nat} {lv : List (Nat × Value)} {st : List Value} {h : xg_H} {a : Nat} {r : Option Nat} {i : Int32} {v : Int32} (C : xg_ok X cc own Ts rm) (hr : r = some a) (hk : xg_is Y a 22) (hi : vp_in i (xg_n Y a)) (hd : decode cc pc = .ok (.iastore, 1)) (kk : ∀ h2, h2 = xg_ui h a i.toNatClampNeg v → xg_W X k0 n0 Y (pc + 1) lv st h2) : xg_W X k0 n0 Y pc lv (.int v :: .int i :: va_rf r :: st) h := by
  obtain ⟨p, l, e, R, s, m, args, below, meth, c, Q, D, cA, zs, A, nL⟩ := X
  obtain ⟨hx, hb, hml, hown, hts, hA, hlk, hR, hSt, hNw⟩ := C
  intro H locs ls hK hP hD hS hl
  subst hr
  have he := xg_E_int (h := h) hk
  obtain ⟨k, hk2⟩ := xg_get (h := h) hk he
  obtain ⟨t0, ht0⟩ := xg_ty_get hk (by decide)
  refine va_iast hx hb hK hP hD hS k t0 hk2 ht0 hi hd (fun H2 locs2 hP2 hD2 hS2 => ?_)
  have e1 : (xg_ws Y h).set k (a, .inl (xg_c Y a, xg_n Y a, .inl (upd (h.1 a) i.toNatClampNeg v))) = xg_ws Y (xg_ui h a i.toNatClampNeg v) := xg_set hD hk he hk2 (by rw [xg_E_int hk, xg_ui_row]) (fun d hd2 => xg_ui_E d hd2)
  rw [e1] at hP2 hD2
  exact kk _ rfl H2 locs2 ls hK hP2 hD2 hS2 hl
theorem xg_last {X : xg_X} {k0 n0 : Nat} {Y : xg_Y} {own : String} {cc : ByteArray} {Ts : List Cond} {rm : Room} {pc : Nat} {lv : List (Nat × Value)} {st : List Value} {h : xg_H} {a : Nat} {r : Option Nat} {i : Int32} {v : Int64} (C : xg_ok X cc own Ts rm) (hr : r = some a) (hk : xg_is Y a 23) (hi : vp_in i (xg_n Y a)) (hd : decode cc pc = .ok (.lastore, 1)) (kk : ∀ h2, h2 = xg_ul h a i.toNatClampNeg v → xg_W X k0 n0 Y (pc + 1) lv st h2) : xg_W X k0 n0 Y pc lv (.long v :: .int i :: va_rf r :: st) h := by
  obtain ⟨p, l, e, R, s, m, args, below, meth, c, Q, D, cA, zs, A, nL⟩ := X
  obtain ⟨hx, hb, hml, hown, hts, hA, hlk, hR, hSt, hNw⟩ := C
  intro H locs ls hK hP hD hS hl
  subst hr
  have he := xg_E_long (h := h) hk
  obtain ⟨k, hk2⟩ := xg_get (h := h) hk he
  obtain ⟨t0, ht0⟩ := xg_ty_get hk (by decide)
  refine va_last hx hb hK hP hD hS k t0 hk2 ht0 hi hd (fun H2 locs2 hP2 hD2 hS2 => ?_)
  have e1 : (xg_ws Y h).set k (a, .inl (xg_c Y a, xg_n Y a, .inr (.inl (vp_updL (h.2.1 a) i.toNatClampNeg v)))) = xg_ws Y (xg_ul h a i.toNatClampNeg v) := xg_set hD hk he hk2 (by rw [xg_E_long hk, xg_ul_row]) (fun d hd2 => xg_ul_E d hd2)
  rw [e1] at hP2 hD2
  exact kk _ rfl H2 locs2 ls hK hP2 hD2 hS2 hl
theorem xg_aast {X : xg_X} {k0 n0 : Nat} {Y : xg_Y} {own : String} {cc : ByteArray} {Ts : List Cond} {rm : Room} {pc : Nat} {lv : List (Nat × Value)} {st : List Value} {h : xg_H} {a b c9 ci : Nat} {q9 : vw_C} {r r2 : Option Nat} {i : Int32} (C : xg_ok X cc own Ts rm) (hr : r = some a) (hk : xg_is Y a c9) (h25 : 25 ≤ c9) (ht : xg_ft c9 = .object q9.1) (hr2 : r2 = some b) (hkb : xg_is Y b ci) (hci : ci < 20) (hcl : vwCl[ci]? = some q9) (hi : vp_in i (xg_n Y a)) (hd : decode cc pc = .ok (.aastore, 1)) (kk : ∀ h2, h2 = xg_uo h a i.toNatClampNeg (some b) → xg_W X k0 n0 Y (pc + 1) lv st h2) : xg_W X k0 n0 Y pc lv (va_rf r2 :: .int i :: va_rf r :: st) h := by
  obtain ⟨p, l, e, R, s, m, args, below, meth, c, Q, D, cA, zs, A, nL⟩ := X
  obtain ⟨hx, hb, hml, hown, hts, hA, hlk, hR, hSt, hNw⟩ := C
  intro H locs ls hK hP hD hS hl
  subst hr
  subst hr2
  have he := xg_E_ref (h := h) hk h25
  obtain ⟨k, hk2⟩ := xg_get (h := h) hk he
  obtain ⟨kb, hkb2⟩ := xg_get (h := h) hkb (xg_E_obj hkb hci)
  obtain ⟨t0, ht0⟩ := xg_ty_get hk (by omega)
  refine va_astq hx hb hK hP hD hS k t0 kb ci hk2 (ht ▸ ht0) hkb2 hcl hi hd (fun H2 locs2 hP2 hD2 hS2 => ?_)
  have e1 : (xg_ws Y h).set k (a, .inl (xg_c Y a, xg_n Y a, .inr (.inr (.inr (.inr (va_up (h.2.2 a) i.toNatClampNeg (some b))))))) = xg_ws Y (xg_uo h a i.toNatClampNeg (some b)) := xg_set hD hk he hk2 (by rw [xg_E_ref hk h25, xg_uo_row]) (fun d hd2 => xg_uo_E d hd2)
  rw [e1] at hP2 hD2
  exact kk _ rfl H2 locs2 ls hK hP2 hD2 hS2 hl
theorem xg_mmax {X : xg_X} {k0 n0 : Nat} {Y : xg_Y} {own : String} {cc : ByteArray} {Ts : List Cond} {rm : Room} {pc : Nat} {lv : List (Nat × Value)} {st : List Value} {h : xg_H} {i : Nat} {x y : Int32} (C : xg_ok X cc own Ts rm) (hlk2 : Cond.methodLink own i Lib.Math.max.name ∈ Ts) (hst2 : Cond.static Lib.Math.max.name ∈ Ts) (hin2 : Cond.initialized "java/lang/Math" ∈ Ts) (hco : Cond.code Lib.Math.max.name Lib.Math.max.code 2 (some .int) ∈ Ts) (hfr : 1 ≤ rm.frames) (hlo : (st.map fun v => v.category).sum + 13 ≤ rm.locals) (hc0 : k0 ≤ rm.cells) (hn0 : n0 ≤ rm.slots) (hd : decode cc pc = .ok (.invokestatic i, 3)) (kk : xg_W X k0 n0 Y (pc + 3) lv (.int (if x < y then y else x) :: st) h) : xg_W X k0 n0 Y pc lv (.int y :: .int x :: st) h := by
  obtain ⟨p, l, e, R, s, m, args, below, meth, c, Q, D, cA, zs, A, nL⟩ := X
  obtain ⟨hx, hb, hml, hown, hts, hA, hlk, hR, hSt, hNw⟩ := C
  intro H locs ls hK hP hD hS hl
  subst hR
  exact va_mmax hx hb (hml.trans hl.1.symm) hown (hts _ hlk2) (hts _ hst2) (hts _ hin2) (hts _ hco) hfr hlo hc0 hn0 hd (kk H locs ls hK hP hD hS hl)
theorem xg_mmin {X : xg_X} {k0 n0 : Nat} {Y : xg_Y} {own : String} {cc : ByteArray} {Ts : List Cond} {rm : Room} {pc : Nat} {lv : List (Nat × Value)} {st : List Value} {h : xg_H} {i : Nat} {x y : Int32} (C : xg_ok X cc own Ts rm) (hlk2 : Cond.methodLink own i Lib.Math.min.name ∈ Ts) (hst2 : Cond.static Lib.Math.min.name ∈ Ts) (hin2 : Cond.initialized "java/lang/Math" ∈ Ts) (hco : Cond.code Lib.Math.min.name Lib.Math.min.code 2 (some .int) ∈ Ts) (hfr : 1 ≤ rm.frames) (hlo : (st.map fun v => v.category).sum + 13 ≤ rm.locals) (hc0 : k0 ≤ rm.cells) (hn0 : n0 ≤ rm.slots) (hd : decode cc pc = .ok (.invokestatic i, 3)) (kk : xg_W X k0 n0 Y (pc + 3) lv (.int (if y < x then y else x) :: st) h) : xg_W X k0 n0 Y pc lv (.int y :: .int x :: st) h := by
  obtain ⟨p, l, e, R, s, m, args, below, meth, c, Q, D, cA, zs, A, nL⟩ := X
  obtain ⟨hx, hb, hml, hown, hts, hA, hlk, hR, hSt, hNw⟩ := C
  intro H locs ls hK hP hD hS hl
  subst hR
  exact va_mmin hx hb (hml.trans hl.1.symm) hown (hts _ hlk2) (hts _ hst2) (hts _ hin2) (hts _ hco) hfr hlo hc0 hn0 hd (kk H locs ls hK hP hD hS hl)
def xg_cp (h : xg_H) (a b sp dp n : Nat) : xg_H := (fun d => if d = b then va_cpy (h.1 a) (h.1 b) sp dp n else h.1 d, h.2)
theorem xg_cp_E {Y : xg_Y} {h : xg_H} {a b sp dp n : Nat} : ∀ d, d ≠ b → xg_E Y (xg_cp h a b sp dp n) d = xg_E Y h d := by
  intro d hd
  have e1 : (xg_cp h a b sp dp n).1 d = h.1 d := by simp [xg_cp, hd]
  have e3 : ∀ c, xg_fs (xg_cp h a b sp dp n) d c = xg_fs h d c := fun c => by
    rw [xg_fs, xg_fs]; congr 1; funext k; rw [xg_fv, xg_fv, e1]; rfl
  rw [xg_E, xg_E, e1, e3]; rfl
theorem xg_copy {X : xg_X} {k0 n0 : Nat} {Y : xg_Y} {own : String} {cc : ByteArray} {Ts : List Cond} {rm : Room} {pc : Nat} {lv : List (Nat × Value)} {st : List Value} {h : xg_H} {j a b : Nat} {r r2 : Option Nat} {sp dp n : Int32} (C : xg_ok X cc own Ts rm) (hlk2 : Cond.methodLink own j arraycopyName ∈ Ts) (hna : Cond.native arraycopyName ∈ Ts) (hst2 : Cond.static arraycopyName ∈ Ts) (hin2 : Cond.initialized "java/lang/System" ∈ Ts) (hr : r = some a) (hk : xg_is Y a 22) (hr2 : r2 = some b) (hkb : xg_is Y b 22) (h1 : ¬ sp < 0) (h2 : ¬ dp < 0) (h3 : ¬ n < 0) (h4 : sp.toNatClampNeg + n.toNatClampNeg ≤ xg_n Y a) (h5 : dp.toNatClampNeg + n.toNatClampNeg ≤ xg_n Y b) (hfr : 1 ≤ rm.frames) (hlo : (st.map fun v => v.category).sum + (nativeFrameWords "java/lang/System" "arraycopy" 5 + 11) ≤ rm.locals) (hd : decode cc pc = .ok (.invokestatic j, 3)) (kk : ∀ h2, h2 = xg_cp h a b sp.toNatClampNeg dp.toNatClampNeg n.toNatClampNeg → xg_W X k0 n0 Y (pc + 3) lv st h2) : xg_W X k0 n0 Y pc lv (.int n :: .int dp :: va_rf r2 :: .int sp :: va_rf r :: st) h := by
  obtain ⟨p, l, e, R, s, m, args, below, meth, c, Q, D, cA, zs, A, nL⟩ := X
  obtain ⟨hx, hb, hml, hown, hts, hA, hlk, hR, hSt, hNw⟩ := C
  intro H locs ls hK hP hD hS hl
  subst hR
  subst hr
  subst hr2
  have he := xg_E_int (h := h) hk
  have he2 := xg_E_int (h := h) hkb
  obtain ⟨k, hk2⟩ := xg_get (h := h) hk he
  obtain ⟨kb, hkb2⟩ := xg_get (h := h) hkb he2
  obtain ⟨t0, ht0⟩ := xg_ty_get hk (by decide)
  obtain ⟨t1, ht1⟩ := xg_ty_get hkb (by decide)
  refine va_copyi hx hb (hml.trans hl.1.symm) hown (hts _ hlk2) (hts _ hna) (hts _ hst2) (hts _ hin2) hK hP hD hS k kb t0 t1 hk2 hkb2 ht0 ht1 rfl h1 h2 h3 h4 h5 (fun _ _ => rfl) hfr hlo hd (fun H2 locs2 hP2 hD2 hS2 => ?_)
  have e1 : (xg_ws Y h).set kb (b, .inl (xg_c Y b, xg_n Y b, .inl (va_cpy (h.1 a) (h.1 b) sp.toNatClampNeg dp.toNatClampNeg n.toNatClampNeg))) = xg_ws Y (xg_cp h a b sp.toNatClampNeg dp.toNatClampNeg n.toNatClampNeg) := xg_set hD hkb he2 hkb2 (by rw [xg_E_int hkb]; simp [xg_cp]) (fun d hd2 => xg_cp_E d hd2)
  rw [e1] at hP2 hD2
  exact kk _ rfl H2 locs2 ls hK hP2 hD2 hS2 hl
def xg_Pre (D : va_G) (zs : Nat → Nat) (Y : xg_Y) (h : xg_H) (sz : Nat) (U : State) : Prop := U.heap.size = sz ∧ va_P D vwCl (xg_ws Y h) U.heap ∧ va_K D vwCl (xg_ty Y) U ∧ va_D (fun _ => True) (xg_ws Y h) ∧ xg_St zs (va_A (xg_ws Y h) sz) U U.heap ∧ xg_Nw zs U
def xg_B (D : va_G) (A : Nat → Prop) (Y : xg_Y) (h : xg_H) (t : State) : Prop := va_P D vwCl (xg_ws Y h) t.heap ∧ va_K D vwCl (xg_ty Y) t ∧ va_D A (xg_ws Y h)
def xg_A (Y : xg_Y) (h : xg_H) (sz : Nat) : Nat → Prop := va_A (xg_ws Y h) sz
theorem xg_blind (av : List Value) (D : va_G) (zs : Nat → Nat) (Y : xg_Y) (h : xg_H) (sz : Nat) : FrameBlind (va_Pc av (xg_Pre D zs Y h sz)) := fun a U g mk q => by
  obtain ⟨q0, q1, qP, qK, qD, qS, qN⟩ := q
  exact ⟨q0, q1, qP, va_K.moved (u := U) (U := U.calling g mk a) (Vm.Alike.refl U.vm) qK, qD, xg_St.moved (u := U) (U := U.calling g mk a) (Vm.Alike.refl U.vm) qS, ⟨fun w hw => va_Nw.same (xg_nw_on w hw) (u := U) (U := U.calling g mk a) rfl (qN.1 w hw), fun C hC => va_AO.moved (u := U) (U := U.calling g mk a) (Vm.Alike.refl U.vm) (qN.2.1 C hC), fun i hi => vk_R.same (u := U) (U := U.calling g mk a) rfl (qN.2.2 i hi)⟩⟩
def xg_MI (y : MethodName) (ws : List Cond) (rm : Room) (Y : xg_Y) (av : (Nat → Nat) → List Value) (wp : (Int32 → xg_H → Prop) → xg_H → Prop) : Prop := ∀ (l : Launch) (D : va_G) (zs : Nat → Nat) (h : xg_H) (sz : Nat) (Q : Int32 → xg_H → Prop), wp Q h → Met l y ws rm (va_Pc (av zs) (xg_Pre D zs Y h sz)) (va_Qi Q (xg_B D (xg_A Y h sz) Y) (xg_A Y h sz)) 0 0 (xg_A Y h sz)
def xg_EI (X : xg_X) (Y : xg_Y) (ty : FieldType) (Qr : Int32 → xg_H → Prop) : Prop := match X with
  | (_, _, _, _, s, _, args, below, meth, _, Q, D, _, _, A, _) => Q = MQ below (va_Qi Qr (xg_B D A Y) A) args s 0 0 A ∧ meth.sig.returnType = some ty
theorem xg_startI {y : MethodName} {ws ws2 : List Cond} {rm : Room} {cc : ByteArray} {maxL : Nat} {own : String} {Y : xg_Y} {ty : FieldType} {av : (Nat → Nat) → List Value} {wp : (Int32 → xg_H → Prop) → xg_H → Prop} (hy : plainName y.cls = true) (hcls : y.cls = own) (hw : ws = Cond.code y cc maxL (some ty) :: ws2) (hlen : ∀ zs, (lg_sl (av zs)).length ≤ maxL) (body : ∀ (X : xg_X) (Q : Int32 → xg_H → Prop) (h : xg_H), xg_ok X cc own ws rm → xg_nL X maxL → xg_EI X Y ty Q → wp Q h → xg_W X 0 0 Y 0 (lv_args 0 (av (xg_zs X))) [] h) : xg_MI y ws rm Y av wp := by
  intro l D zs h sz Q hwp
  refine Met.ofW (cc := cc) (maxL := maxL) (ret := (some ty)) hy hw ?_
  intro p e s m args below meth c s₁ B hml hv
  obtain ⟨rfl, hsz, hP, hK, hD0, hSt, hNw⟩ := hv
  have hown : s.vm.findClass own = some m.cls := hcls ▸ findClass_of_methodNamed B.named
  have hts := atoms_spec (ws := ws) B.pre
  subst hsz
  have hD := hD0.self (sz := s.heap.size)
  have hA : ∀ q : Nat, s.heap.size ≤ q → xg_A Y h s.heap.size q := fun q h => Or.inr h
  have hS : va_S (xg_A Y h s.heap.size) s.heap s.heap [] := va_S.rf
  have hl := lv_entry (av zs) (n := maxL) (hlen zs)
  rw [lg_entry_eq]
  exact body (p, l, e, rm, s, m, (av zs).toArray, below, meth, c, _, D, (fun _ => 0), zs, xg_A Y h s.heap.size, maxL) Q h ⟨B.exec, B.bytes, hml, hown, hts, hA, B.notSynchronized, rfl, hSt, hNw⟩ rfl ⟨rfl, B.returns⟩ hwp s.heap [] _ hK hP hD hS hl
def xg_ML (y : MethodName) (ws : List Cond) (rm : Room) (Y : xg_Y) (av : (Nat → Nat) → List Value) (wp : (Int64 → xg_H → Prop) → xg_H → Prop) : Prop := ∀ (l : Launch) (D : va_G) (zs : Nat → Nat) (h : xg_H) (sz : Nat) (Q : Int64 → xg_H → Prop), wp Q h → Met l y ws rm (va_Pc (av zs) (xg_Pre D zs Y h sz)) (va_Ql Q (xg_B D (xg_A Y h sz) Y) (xg_A Y h sz)) 0 0 (xg_A Y h sz)
def xg_EL (X : xg_X) (Y : xg_Y) (Qr : Int64 → xg_H → Prop) : Prop := match X with
  | (_, _, _, _, s, _, args, below, meth, _, Q, D, _, _, A, _) => Q = MQ below (va_Ql Qr (xg_B D A Y) A) args s 0 0 A ∧ meth.sig.returnType = some .long
theorem xg_startL {y : MethodName} {ws ws2 : List Cond} {rm : Room} {cc : ByteArray} {maxL : Nat} {own : String} {Y : xg_Y} {av : (Nat → Nat) → List Value} {wp : (Int64 → xg_H → Prop) → xg_H → Prop} (hy : plainName y.cls = true) (hcls : y.cls = own) (hw : ws = Cond.code y cc maxL (some .long) :: ws2) (hlen : ∀ zs, (lg_sl (av zs)).length ≤ maxL) (body : ∀ (X : xg_X) (Q : Int64 → xg_H → Prop) (h : xg_H), xg_ok X cc own ws rm → xg_nL X maxL → xg_EL X Y Q → wp Q h → xg_W X 0 0 Y 0 (lv_args 0 (av (xg_zs X))) [] h) : xg_ML y ws rm Y av wp := by
  intro l D zs h sz Q hwp
  refine Met.ofW (cc := cc) (maxL := maxL) (ret := (some .long)) hy hw ?_
  intro p e s m args below meth c s₁ B hml hv
  obtain ⟨rfl, hsz, hP, hK, hD0, hSt, hNw⟩ := hv
  have hown : s.vm.findClass own = some m.cls := hcls ▸ findClass_of_methodNamed B.named
  have hts := atoms_spec (ws := ws) B.pre
  subst hsz
  have hD := hD0.self (sz := s.heap.size)
  have hA : ∀ q : Nat, s.heap.size ≤ q → xg_A Y h s.heap.size q := fun q h => Or.inr h
  have hS : va_S (xg_A Y h s.heap.size) s.heap s.heap [] := va_S.rf
  have hl := lv_entry (av zs) (n := maxL) (hlen zs)
  rw [lg_entry_eq]
  exact body (p, l, e, rm, s, m, (av zs).toArray, below, meth, c, _, D, (fun _ => 0), zs, xg_A Y h s.heap.size, maxL) Q h ⟨B.exec, B.bytes, hml, hown, hts, hA, B.notSynchronized, rfl, hSt, hNw⟩ rfl ⟨rfl, B.returns⟩ hwp s.heap [] _ hK hP hD hS hl
def xg_MR (y : MethodName) (ws : List Cond) (rm : Room) (Y : xg_Y) (av : (Nat → Nat) → List Value) (wp : (Option Nat → xg_H → Prop) → xg_H → Prop) : Prop := ∀ (l : Launch) (D : va_G) (zs : Nat → Nat) (h : xg_H) (sz : Nat) (Q : Option Nat → xg_H → Prop), wp Q h → Met l y ws rm (va_Pc (av zs) (xg_Pre D zs Y h sz)) (va_Qq Q (xg_B D (xg_A Y h sz) Y) (xg_A Y h sz)) 0 0 (xg_A Y h sz)
def xg_ER (X : xg_X) (Y : xg_Y) (ty : FieldType) (Qr : Option Nat → xg_H → Prop) : Prop := match X with
  | (_, _, _, _, s, _, args, below, meth, _, Q, D, _, _, A, _) => Q = MQ below (va_Qq Qr (xg_B D A Y) A) args s 0 0 A ∧ meth.sig.returnType = some ty
theorem xg_startR {y : MethodName} {ws ws2 : List Cond} {rm : Room} {cc : ByteArray} {maxL : Nat} {own : String} {Y : xg_Y} {ty : FieldType} {av : (Nat → Nat) → List Value} {wp : (Option Nat → xg_H → Prop) → xg_H → Prop} (hy : plainName y.cls = true) (hcls : y.cls = own) (hw : ws = Cond.code y cc maxL (some ty) :: ws2) (hlen : ∀ zs, (lg_sl (av zs)).length ≤ maxL) (body : ∀ (X : xg_X) (Q : Option Nat → xg_H → Prop) (h : xg_H), xg_ok X cc own ws rm → xg_nL X maxL → xg_ER X Y ty Q → wp Q h → xg_W X 0 0 Y 0 (lv_args 0 (av (xg_zs X))) [] h) : xg_MR y ws rm Y av wp := by
  intro l D zs h sz Q hwp
  refine Met.ofW (cc := cc) (maxL := maxL) (ret := (some ty)) hy hw ?_
  intro p e s m args below meth c s₁ B hml hv
  obtain ⟨rfl, hsz, hP, hK, hD0, hSt, hNw⟩ := hv
  have hown : s.vm.findClass own = some m.cls := hcls ▸ findClass_of_methodNamed B.named
  have hts := atoms_spec (ws := ws) B.pre
  subst hsz
  have hD := hD0.self (sz := s.heap.size)
  have hA : ∀ q : Nat, s.heap.size ≤ q → xg_A Y h s.heap.size q := fun q h => Or.inr h
  have hS : va_S (xg_A Y h s.heap.size) s.heap s.heap [] := va_S.rf
  have hl := lv_entry (av zs) (n := maxL) (hlen zs)
  rw [lg_entry_eq]
  exact body (p, l, e, rm, s, m, (av zs).toArray, below, meth, c, _, D, (fun _ => 0), zs, xg_A Y h s.heap.size, maxL) Q h ⟨B.exec, B.bytes, hml, hown, hts, hA, B.notSynchronized, rfl, hSt, hNw⟩ rfl ⟨rfl, B.returns⟩ hwp s.heap [] _ hK hP hD hS hl
def xg_MV (y : MethodName) (ws : List Cond) (rm : Room) (Y : xg_Y) (av : (Nat → Nat) → List Value) (wp : (xg_H → Prop) → xg_H → Prop) : Prop := ∀ (l : Launch) (D : va_G) (zs : Nat → Nat) (h : xg_H) (sz : Nat) (Q : xg_H → Prop), wp Q h → Met l y ws rm (va_Pc (av zs) (xg_Pre D zs Y h sz)) (va_Qv Q (xg_B D (xg_A Y h sz) Y) (xg_A Y h sz)) 0 0 (xg_A Y h sz)
def xg_EV (X : xg_X) (Y : xg_Y) (Qr : xg_H → Prop) : Prop := match X with
  | (_, _, _, _, s, _, args, below, meth, _, Q, D, _, _, A, _) => Q = MQ below (va_Qv Qr (xg_B D A Y) A) args s 0 0 A ∧ meth.sig.returnType = none
theorem xg_startV {y : MethodName} {ws ws2 : List Cond} {rm : Room} {cc : ByteArray} {maxL : Nat} {own : String} {Y : xg_Y} {av : (Nat → Nat) → List Value} {wp : (xg_H → Prop) → xg_H → Prop} (hy : plainName y.cls = true) (hcls : y.cls = own) (hw : ws = Cond.code y cc maxL none :: ws2) (hlen : ∀ zs, (lg_sl (av zs)).length ≤ maxL) (body : ∀ (X : xg_X) (Q : xg_H → Prop) (h : xg_H), xg_ok X cc own ws rm → xg_nL X maxL → xg_EV X Y Q → wp Q h → xg_W X 0 0 Y 0 (lv_args 0 (av (xg_zs X))) [] h) : xg_MV y ws rm Y av wp := by
  intro l D zs h sz Q hwp
  refine Met.ofW (cc := cc) (maxL := maxL) (ret := none) hy hw ?_
  intro p e s m args below meth c s₁ B hml hv
  obtain ⟨rfl, hsz, hP, hK, hD0, hSt, hNw⟩ := hv
  have hown : s.vm.findClass own = some m.cls := hcls ▸ findClass_of_methodNamed B.named
  have hts := atoms_spec (ws := ws) B.pre
  subst hsz
  have hD := hD0.self (sz := s.heap.size)
  have hA : ∀ q : Nat, s.heap.size ≤ q → xg_A Y h s.heap.size q := fun q h => Or.inr h
  have hS : va_S (xg_A Y h s.heap.size) s.heap s.heap [] := va_S.rf
  have hl := lv_entry (av zs) (n := maxL) (hlen zs)
  rw [lg_entry_eq]
  exact body (p, l, e, rm, s, m, (av zs).toArray, below, meth, c, _, D, (fun _ => 0), zs, xg_A Y h s.heap.size, maxL) Q h ⟨B.exec, B.bytes, hml, hown, hts, hA, B.notSynchronized, rfl, hSt, hNw⟩ rfl ⟨rfl, B.returns⟩ hwp s.heap [] _ hK hP hD hS hl
theorem xg_retI {X : xg_X} {Y : xg_Y} {own : String} {cc : ByteArray} {Ts : List Cond} {rm : Room} {pc : Nat} {lv : List (Nat × Value)} {h : xg_H} {v : Int32} {Qr : Int32 → xg_H → Prop} (C : xg_ok X cc own Ts rm) (E : xg_EI X Y .int Qr) (hd : decode cc pc = .ok (.ireturn, 1)) (hq : Qr v h) : xg_W X 0 0 Y pc lv [.int v] h := by
  obtain ⟨p, l, e, R, s, m, args, below, meth, c, Q, D, cA, zs, A, nL⟩ := X
  obtain ⟨hx, hb, hml, hown, hts, hA, hlk, hR, hSt, hNw⟩ := C
  intro H locs ls hK hP hD hS hl
  obtain ⟨hQ, hr⟩ := E
  have hQ2 : Q = _ := hQ
  subst hQ2
  exact W.iret (hlocks := hlk) hx hb hr (fun t ht hW => ⟨⟨v, h, rfl, hq, by rw [ht]; exact hP, va_K.moved hW.alike hK, hD⟩, hS.F ht⟩) hS.2.2 hd
theorem xg_retZ {X : xg_X} {Y : xg_Y} {own : String} {cc : ByteArray} {Ts : List Cond} {rm : Room} {pc : Nat} {lv : List (Nat × Value)} {h : xg_H} {v : Int32} {Qr : Int32 → xg_H → Prop} (C : xg_ok X cc own Ts rm) (E : xg_EI X Y .boolean Qr) (hv : mg_b v) (hd : decode cc pc = .ok (.ireturn, 1)) (hq : Qr v h) : xg_W X 0 0 Y pc lv [.int v] h := by
  obtain ⟨p, l, e, R, s, m, args, below, meth, c, Q, D, cA, zs, A, nL⟩ := X
  obtain ⟨hx, hb, hml, hown, hts, hA, hlk, hR, hSt, hNw⟩ := C
  intro H locs ls hK hP hD hS hl
  obtain ⟨hQ, hr⟩ := E
  have hQ2 : Q = _ := hQ
  subst hQ2
  exact W.zret (hlocks := hlk) hx hb hr (mg_nb hv).1 (fun t ht hW => ⟨⟨v, h, rfl, hq, by rw [ht]; exact hP, va_K.moved hW.alike hK, hD⟩, hS.F ht⟩) hS.2.2 hd
theorem xg_retL {X : xg_X} {Y : xg_Y} {own : String} {cc : ByteArray} {Ts : List Cond} {rm : Room} {pc : Nat} {lv : List (Nat × Value)} {h : xg_H} {v : Int64} {Qr : Int64 → xg_H → Prop} (C : xg_ok X cc own Ts rm) (E : xg_EL X Y Qr) (hd : decode cc pc = .ok (.lreturn, 1)) (hq : Qr v h) : xg_W X 0 0 Y pc lv [.long v] h := by
  obtain ⟨p, l, e, R, s, m, args, below, meth, c, Q, D, cA, zs, A, nL⟩ := X
  obtain ⟨hx, hb, hml, hown, hts, hA, hlk, hR, hSt, hNw⟩ := C
  intro H locs ls hK hP hD hS hl
  obtain ⟨hQ, hr⟩ := E
  have hQ2 : Q = _ := hQ
  subst hQ2
  exact W.lret (hlocks := hlk) hx hb hr (fun t ht hW => ⟨⟨v, h, rfl, hq, by rw [ht]; exact hP, va_K.moved hW.alike hK, hD⟩, hS.F ht⟩) hS.2.2 hd
theorem xg_retR {X : xg_X} {Y : xg_Y} {own : String} {cc : ByteArray} {Ts : List Cond} {rm : Room} {pc : Nat} {lv : List (Nat × Value)} {h : xg_H} {v : Option Nat} {ty : FieldType} {Qr : Option Nat → xg_H → Prop} (C : xg_ok X cc own Ts rm) (E : xg_ER X Y ty Qr) (hv : (∃ n, ty = .object n) ∨ ∃ t, ty = .array t) (hd : decode cc pc = .ok (.areturn, 1)) (hq : Qr v h) : xg_W X 0 0 Y pc lv [va_rf v] h := by
  obtain ⟨p, l, e, R, s, m, args, below, meth, c, Q, D, cA, zs, A, nL⟩ := X
  obtain ⟨hx, hb, hml, hown, hts, hA, hlk, hR, hSt, hNw⟩ := C
  intro H locs ls hK hP hD hS hl
  obtain ⟨hQ, hr⟩ := E
  have hQ2 : Q = _ := hQ
  subst hQ2
  exact W.aret (hlocks := hlk) hx hb hr hv (by cases v with
    | none => exact Or.inl rfl
    | some a => exact Or.inr ⟨a, rfl⟩) (fun t ht hW => ⟨⟨v, h, rfl, hq, by rw [ht]; exact hP, va_K.moved hW.alike hK, hD⟩, hS.F ht⟩) hS.2.2 hd
theorem xg_retV {X : xg_X} {Y : xg_Y} {own : String} {cc : ByteArray} {Ts : List Cond} {rm : Room} {pc : Nat} {lv : List (Nat × Value)} {h : xg_H} {Qr : xg_H → Prop} (C : xg_ok X cc own Ts rm) (E : xg_EV X Y Qr) (hd : decode cc pc = .ok (.return_, 1)) (hq : Qr h) : xg_W X 0 0 Y pc lv [] h := by
  obtain ⟨p, l, e, R, s, m, args, below, meth, c, Q, D, cA, zs, A, nL⟩ := X
  obtain ⟨hx, hb, hml, hown, hts, hA, hlk, hR, hSt, hNw⟩ := C
  intro H locs ls hK hP hD hS hl
  obtain ⟨hQ, hr⟩ := E
  have hQ2 : Q = _ := hQ
  subst hQ2
  exact W.vret (hlocks := hlk) hx hb hr (fun t ht hW => ⟨⟨h, rfl, hq, by rw [ht]; exact hP, va_K.moved hW.alike hK, hD⟩, hS.F ht⟩) hS.2.2 hd
theorem xg_cvI {X : xg_X} {k0 n0 : Nat} {Y : xg_Y} {own : String} {cc : ByteArray} {Ts : List Cond} {rm : Room} {pc : Nat} {lv : List (Nat × Value)} {st : List Value} {h : xg_H} {C1 : String} {T1 : u_T} {a ci N1 : Nat} {r9 : Option Nat} {y : MethodName} {ws ws2 : List Cond} {rmN : Room} {bytes : ByteArray} {maxL n idx : Nat} {ret : Option FieldType} {stk : List Value} {Qr : Int32 → xg_H → Prop} {wp : (Int32 → xg_H → Prop) → xg_H → Prop} (C : xg_ok X cc own Ts rm) (As : (Nat → Nat) → List Value) (hr9 : r9 = some a) (hk : xg_is Y a ci) (hci : ci < 20) (hcl : vwCl[ci]? = some (C1, T1, N1)) (hM : xg_MI y ws rmN Y (fun zs => va_rf (some a) :: As zs) wp) (hg : GoodIn Ts (wsV own idx C1 y ws)) (hw : ws = Cond.code y bytes maxL ret :: ws2) (hcs : rmN.cells = 0 ∧ rmN.slots = 0) (hd2 : y.cls = C1 ∧ y.cls ≠ "java/lang/invoke/MethodHandle" ∧ y.cls ≠ "java/lang/invoke/VarHandle" ∧ (parseMethodDescriptor y.desc).map (fun d => d.parameters.length) = some n) (hRm : rmN.frames + 1 ≤ rm.frames ∧ 8 + (maxL + 11) + rmN.locals ≤ rm.locals) (hn : (As (xg_zs X)).length = n) (hst : stk = (As (xg_zs X)).reverse ++ va_rf r9 :: st) (hcat : (st.map fun v => v.category).sum ≤ 8) (hfit : k0 ≤ rm.cells ∧ n0 ≤ rm.slots) (hd : decode cc pc = .ok (.invokevirtual idx, 3)) (hF : wp Qr h) (kk : ∀ (r : Int32) (h2 : xg_H), Qr r h2 → xg_W X k0 n0 Y (pc + 3) lv (.int r :: st) h2) : xg_W X k0 n0 Y pc lv stk h := by
  obtain ⟨p, l, e, R, s, m, args, below, meth, c, Q, D, cA, zs, A, nL⟩ := X
  obtain ⟨hx, hb, hml, hown, hts, hA, hlk, hR, hSt, hNw⟩ := C
  intro H locs ls hK hP hD hS hl
  have hFc : ∀ q, va_A (xg_ws Y h) H.size q → A q := fun q hq => hq.elim (fun ⟨k, e9, hk⟩ => hD.2 k _ hk) (fun hq => hA q (Nat.le_trans hS.1 hq))
  subst hR
  subst hst
  subst hr9
  obtain ⟨kr, hkr⟩ := xg_get (h := h) hk (xg_E_obj hk hci)
  refine va_calli (va_runV (As := As zs) (rest := st) ⟨hx, hb, hml, hown, hts⟩ (hM l D zs h H.size Qr hF) (cwV n hts hg hw hcs.1 hcs.2 hd2 hRm) ⟨xg_blind _ _ _ _ _ _, va_recv hK hP hcl hkr, fun U hU hW => ⟨rfl, by rw [hU], by rw [hU]; exact hP, va_K.moved hW.alike hK, hD.weaken (fun _ _ _ _ => trivial), by rw [hU]; exact ((hSt.kept hS.2.1).narrow hFc).moved hW.alike, xg_Nw.warm hW hNw⟩⟩ rfl hn hl.1 rfl (lv_room hcat) hd hfit) hS (fun q _ h9 => hFc q h9) hFc (fun r u t H1 locs1 ht hvm hw9 hB hz1 hk1 hS1 => ?_)
  obtain ⟨hP1, hK1, hD1⟩ := hB
  rw [ht] at hP1
  exact kk r u hw9 H1 locs1 ls hK hP1 ⟨hD1.1, fun k q hq => hFc _ (hD1.2 k q hq)⟩ hS1 hl
theorem xg_cvL {X : xg_X} {k0 n0 : Nat} {Y : xg_Y} {own : String} {cc : ByteArray} {Ts : List Cond} {rm : Room} {pc : Nat} {lv : List (Nat × Value)} {st : List Value} {h : xg_H} {C1 : String} {T1 : u_T} {a ci N1 : Nat} {r9 : Option Nat} {y : MethodName} {ws ws2 : List Cond} {rmN : Room} {bytes : ByteArray} {maxL n idx : Nat} {ret : Option FieldType} {stk : List Value} {Qr : Int64 → xg_H → Prop} {wp : (Int64 → xg_H → Prop) → xg_H → Prop} (C : xg_ok X cc own Ts rm) (As : (Nat → Nat) → List Value) (hr9 : r9 = some a) (hk : xg_is Y a ci) (hci : ci < 20) (hcl : vwCl[ci]? = some (C1, T1, N1)) (hM : xg_ML y ws rmN Y (fun zs => va_rf (some a) :: As zs) wp) (hg : GoodIn Ts (wsV own idx C1 y ws)) (hw : ws = Cond.code y bytes maxL ret :: ws2) (hcs : rmN.cells = 0 ∧ rmN.slots = 0) (hd2 : y.cls = C1 ∧ y.cls ≠ "java/lang/invoke/MethodHandle" ∧ y.cls ≠ "java/lang/invoke/VarHandle" ∧ (parseMethodDescriptor y.desc).map (fun d => d.parameters.length) = some n) (hRm : rmN.frames + 1 ≤ rm.frames ∧ 8 + (maxL + 11) + rmN.locals ≤ rm.locals) (hn : (As (xg_zs X)).length = n) (hst : stk = (As (xg_zs X)).reverse ++ va_rf r9 :: st) (hcat : (st.map fun v => v.category).sum ≤ 8) (hfit : k0 ≤ rm.cells ∧ n0 ≤ rm.slots) (hd : decode cc pc = .ok (.invokevirtual idx, 3)) (hF : wp Qr h) (kk : ∀ (r : Int64) (h2 : xg_H), Qr r h2 → xg_W X k0 n0 Y (pc + 3) lv (.long r :: st) h2) : xg_W X k0 n0 Y pc lv stk h := by
  obtain ⟨p, l, e, R, s, m, args, below, meth, c, Q, D, cA, zs, A, nL⟩ := X
  obtain ⟨hx, hb, hml, hown, hts, hA, hlk, hR, hSt, hNw⟩ := C
  intro H locs ls hK hP hD hS hl
  have hFc : ∀ q, va_A (xg_ws Y h) H.size q → A q := fun q hq => hq.elim (fun ⟨k, e9, hk⟩ => hD.2 k _ hk) (fun hq => hA q (Nat.le_trans hS.1 hq))
  subst hR
  subst hst
  subst hr9
  obtain ⟨kr, hkr⟩ := xg_get (h := h) hk (xg_E_obj hk hci)
  refine va_calll (va_runV (As := As zs) (rest := st) ⟨hx, hb, hml, hown, hts⟩ (hM l D zs h H.size Qr hF) (cwV n hts hg hw hcs.1 hcs.2 hd2 hRm) ⟨xg_blind _ _ _ _ _ _, va_recv hK hP hcl hkr, fun U hU hW => ⟨rfl, by rw [hU], by rw [hU]; exact hP, va_K.moved hW.alike hK, hD.weaken (fun _ _ _ _ => trivial), by rw [hU]; exact ((hSt.kept hS.2.1).narrow hFc).moved hW.alike, xg_Nw.warm hW hNw⟩⟩ rfl hn hl.1 rfl (lv_room hcat) hd hfit) hS (fun q _ h9 => hFc q h9) hFc (fun r u t H1 locs1 ht hvm hw9 hB hz1 hk1 hS1 => ?_)
  obtain ⟨hP1, hK1, hD1⟩ := hB
  rw [ht] at hP1
  exact kk r u hw9 H1 locs1 ls hK hP1 ⟨hD1.1, fun k q hq => hFc _ (hD1.2 k q hq)⟩ hS1 hl
theorem xg_cvR {X : xg_X} {k0 n0 : Nat} {Y : xg_Y} {own : String} {cc : ByteArray} {Ts : List Cond} {rm : Room} {pc : Nat} {lv : List (Nat × Value)} {st : List Value} {h : xg_H} {C1 : String} {T1 : u_T} {a ci N1 : Nat} {r9 : Option Nat} {y : MethodName} {ws ws2 : List Cond} {rmN : Room} {bytes : ByteArray} {maxL n idx : Nat} {ret : Option FieldType} {stk : List Value} {Qr : Option Nat → xg_H → Prop} {wp : (Option Nat → xg_H → Prop) → xg_H → Prop} (C : xg_ok X cc own Ts rm) (As : (Nat → Nat) → List Value) (hr9 : r9 = some a) (hk : xg_is Y a ci) (hci : ci < 20) (hcl : vwCl[ci]? = some (C1, T1, N1)) (hM : xg_MR y ws rmN Y (fun zs => va_rf (some a) :: As zs) wp) (hg : GoodIn Ts (wsV own idx C1 y ws)) (hw : ws = Cond.code y bytes maxL ret :: ws2) (hcs : rmN.cells = 0 ∧ rmN.slots = 0) (hd2 : y.cls = C1 ∧ y.cls ≠ "java/lang/invoke/MethodHandle" ∧ y.cls ≠ "java/lang/invoke/VarHandle" ∧ (parseMethodDescriptor y.desc).map (fun d => d.parameters.length) = some n) (hRm : rmN.frames + 1 ≤ rm.frames ∧ 8 + (maxL + 11) + rmN.locals ≤ rm.locals) (hn : (As (xg_zs X)).length = n) (hst : stk = (As (xg_zs X)).reverse ++ va_rf r9 :: st) (hcat : (st.map fun v => v.category).sum ≤ 8) (hfit : k0 ≤ rm.cells ∧ n0 ≤ rm.slots) (hd : decode cc pc = .ok (.invokevirtual idx, 3)) (hF : wp Qr h) (kk : ∀ (r : Option Nat) (h2 : xg_H), Qr r h2 → xg_W X k0 n0 Y (pc + 3) lv (va_rf r :: st) h2) : xg_W X k0 n0 Y pc lv stk h := by
  obtain ⟨p, l, e, R, s, m, args, below, meth, c, Q, D, cA, zs, A, nL⟩ := X
  obtain ⟨hx, hb, hml, hown, hts, hA, hlk, hR, hSt, hNw⟩ := C
  intro H locs ls hK hP hD hS hl
  have hFc : ∀ q, va_A (xg_ws Y h) H.size q → A q := fun q hq => hq.elim (fun ⟨k, e9, hk⟩ => hD.2 k _ hk) (fun hq => hA q (Nat.le_trans hS.1 hq))
  subst hR
  subst hst
  subst hr9
  obtain ⟨kr, hkr⟩ := xg_get (h := h) hk (xg_E_obj hk hci)
  refine va_callq (va_runV (As := As zs) (rest := st) ⟨hx, hb, hml, hown, hts⟩ (hM l D zs h H.size Qr hF) (cwV n hts hg hw hcs.1 hcs.2 hd2 hRm) ⟨xg_blind _ _ _ _ _ _, va_recv hK hP hcl hkr, fun U hU hW => ⟨rfl, by rw [hU], by rw [hU]; exact hP, va_K.moved hW.alike hK, hD.weaken (fun _ _ _ _ => trivial), by rw [hU]; exact ((hSt.kept hS.2.1).narrow hFc).moved hW.alike, xg_Nw.warm hW hNw⟩⟩ rfl hn hl.1 rfl (lv_room hcat) hd hfit) hS (fun q _ h9 => hFc q h9) hFc (fun r u t H1 locs1 ht hvm hw9 hB hz1 hk1 hS1 => ?_)
  obtain ⟨hP1, hK1, hD1⟩ := hB
  rw [ht] at hP1
  exact kk r u hw9 H1 locs1 ls hK hP1 ⟨hD1.1, fun k q hq => hFc _ (hD1.2 k q hq)⟩ hS1 hl
theorem xg_cvV {X : xg_X} {k0 n0 : Nat} {Y : xg_Y} {own : String} {cc : ByteArray} {Ts : List Cond} {rm : Room} {pc : Nat} {lv : List (Nat × Value)} {st : List Value} {h : xg_H} {C1 : String} {T1 : u_T} {a ci N1 : Nat} {r9 : Option Nat} {y : MethodName} {ws ws2 : List Cond} {rmN : Room} {bytes : ByteArray} {maxL n idx : Nat} {ret : Option FieldType} {stk : List Value} {Qr : xg_H → Prop} {wp : (xg_H → Prop) → xg_H → Prop} (C : xg_ok X cc own Ts rm) (As : (Nat → Nat) → List Value) (hr9 : r9 = some a) (hk : xg_is Y a ci) (hci : ci < 20) (hcl : vwCl[ci]? = some (C1, T1, N1)) (hM : xg_MV y ws rmN Y (fun zs => va_rf (some a) :: As zs) wp) (hg : GoodIn Ts (wsV own idx C1 y ws)) (hw : ws = Cond.code y bytes maxL ret :: ws2) (hcs : rmN.cells = 0 ∧ rmN.slots = 0) (hd2 : y.cls = C1 ∧ y.cls ≠ "java/lang/invoke/MethodHandle" ∧ y.cls ≠ "java/lang/invoke/VarHandle" ∧ (parseMethodDescriptor y.desc).map (fun d => d.parameters.length) = some n) (hRm : rmN.frames + 1 ≤ rm.frames ∧ 8 + (maxL + 11) + rmN.locals ≤ rm.locals) (hn : (As (xg_zs X)).length = n) (hst : stk = (As (xg_zs X)).reverse ++ va_rf r9 :: st) (hcat : (st.map fun v => v.category).sum ≤ 8) (hfit : k0 ≤ rm.cells ∧ n0 ≤ rm.slots) (hd : decode cc pc = .ok (.invokevirtual idx, 3)) (hF : wp Qr h) (kk : ∀ (h2 : xg_H), Qr h2 → xg_W X k0 n0 Y (pc + 3) lv st h2) : xg_W X k0 n0 Y pc lv stk h := by
  obtain ⟨p, l, e, R, s, m, args, below, meth, c, Q, D, cA, zs, A, nL⟩ := X
  obtain ⟨hx, hb, hml, hown, hts, hA, hlk, hR, hSt, hNw⟩ := C
  intro H locs ls hK hP hD hS hl
  have hFc : ∀ q, va_A (xg_ws Y h) H.size q → A q := fun q hq => hq.elim (fun ⟨k, e9, hk⟩ => hD.2 k _ hk) (fun hq => hA q (Nat.le_trans hS.1 hq))
  subst hR
  subst hst
  subst hr9
  obtain ⟨kr, hkr⟩ := xg_get (h := h) hk (xg_E_obj hk hci)
  refine va_callv (va_runV (As := As zs) (rest := st) ⟨hx, hb, hml, hown, hts⟩ (hM l D zs h H.size Qr hF) (cwV n hts hg hw hcs.1 hcs.2 hd2 hRm) ⟨xg_blind _ _ _ _ _ _, va_recv hK hP hcl hkr, fun U hU hW => ⟨rfl, by rw [hU], by rw [hU]; exact hP, va_K.moved hW.alike hK, hD.weaken (fun _ _ _ _ => trivial), by rw [hU]; exact ((hSt.kept hS.2.1).narrow hFc).moved hW.alike, xg_Nw.warm hW hNw⟩⟩ rfl hn hl.1 rfl (lv_room hcat) hd hfit) hS (fun q _ h9 => hFc q h9) hFc (fun u t H1 locs1 ht hvm hw9 hB hz1 hk1 hS1 => ?_)
  obtain ⟨hP1, hK1, hD1⟩ := hB
  rw [ht] at hP1
  exact kk u hw9 H1 locs1 ls hK hP1 ⟨hD1.1, fun k q hq => hFc _ (hD1.2 k q hq)⟩ hS1 hl
theorem xg_csI {X : xg_X} {k0 n0 : Nat} {Y : xg_Y} {own : String} {cc : ByteArray} {Ts : List Cond} {rm : Room} {pc : Nat} {lv : List (Nat × Value)} {st : List Value} {h : xg_H} {y : MethodName} {ws ws2 : List Cond} {rmN : Room} {bytes : ByteArray} {maxL n idx : Nat} {ret : Option FieldType} {stk : List Value} {Qr : Int32 → xg_H → Prop} {wp : (Int32 → xg_H → Prop) → xg_H → Prop} (C : xg_ok X cc own Ts rm) (As : (Nat → Nat) → List Value) (hM : xg_MI y ws rmN Y As wp) (hg : GoodIn Ts (va_wsS own idx y ws)) (hw : ws = Cond.code y bytes maxL ret :: ws2) (hcs : rmN.cells = 0 ∧ rmN.slots = 0) (hd2 : y.cls ≠ "java/lang/invoke/MethodHandle" ∧ y.cls ≠ "java/lang/invoke/VarHandle" ∧ (parseMethodDescriptor y.desc).map (fun d => d.parameters.length) = some n) (hRm : rmN.frames + 1 ≤ rm.frames ∧ 8 + (maxL + 11) + rmN.locals ≤ rm.locals) (hn : (As (xg_zs X)).length = n) (hst : stk = (As (xg_zs X)).reverse ++ st) (hcat : (st.map fun v => v.category).sum ≤ 8) (hfit : k0 ≤ rm.cells ∧ n0 ≤ rm.slots) (hd : decode cc pc = .ok (.invokestatic idx, 3)) (hF : wp Qr h) (kk : ∀ (r : Int32) (h2 : xg_H), Qr r h2 → xg_W X k0 n0 Y (pc + 3) lv (.int r :: st) h2) : xg_W X k0 n0 Y pc lv stk h := by
  obtain ⟨p, l, e, R, s, m, args, below, meth, c, Q, D, cA, zs, A, nL⟩ := X
  obtain ⟨hx, hb, hml, hown, hts, hA, hlk, hR, hSt, hNw⟩ := C
  intro H locs ls hK hP hD hS hl
  have hFc : ∀ q, va_A (xg_ws Y h) H.size q → A q := fun q hq => hq.elim (fun ⟨k, e9, hk⟩ => hD.2 k _ hk) (fun hq => hA q (Nat.le_trans hS.1 hq))
  subst hR
  subst hst
  refine va_calli (va_runS (As := As zs) (rest := st) ⟨hx, hb, hml, hown, hts⟩ (hM l D zs h H.size Qr hF) (va_cwS n hts hg hw hcs.1 hcs.2 hd2 hRm) ⟨xg_blind _ _ _ _ _ _, fun U hU hW => ⟨rfl, by rw [hU], by rw [hU]; exact hP, va_K.moved hW.alike hK, hD.weaken (fun _ _ _ _ => trivial), by rw [hU]; exact ((hSt.kept hS.2.1).narrow hFc).moved hW.alike, xg_Nw.warm hW hNw⟩⟩ rfl hn hl.1 rfl (lv_room hcat) hd hfit) hS (fun q _ h9 => hFc q h9) hFc (fun r u t H1 locs1 ht hvm hw9 hB hz1 hk1 hS1 => ?_)
  obtain ⟨hP1, hK1, hD1⟩ := hB
  rw [ht] at hP1
  exact kk r u hw9 H1 locs1 ls hK hP1 ⟨hD1.1, fun k q hq => hFc _ (hD1.2 k q hq)⟩ hS1 hl
theorem xg_csL {X : xg_X} {k0 n0 : Nat} {Y : xg_Y} {own : String} {cc : ByteArray} {Ts : List Cond} {rm : Room} {pc : Nat} {lv : List (Nat × Value)} {st : List Value} {h : xg_H} {y : MethodName} {ws ws2 : List Cond} {rmN : Room} {bytes : ByteArray} {maxL n idx : Nat} {ret : Option FieldType} {stk : List Value} {Qr : Int64 → xg_H → Prop} {wp : (Int64 → xg_H → Prop) → xg_H → Prop} (C : xg_ok X cc own Ts rm) (As : (Nat → Nat) → List Value) (hM : xg_ML y ws rmN Y As wp) (hg : GoodIn Ts (va_wsS own idx y ws)) (hw : ws = Cond.code y bytes maxL ret :: ws2) (hcs : rmN.cells = 0 ∧ rmN.slots = 0) (hd2 : y.cls ≠ "java/lang/invoke/MethodHandle" ∧ y.cls ≠ "java/lang/invoke/VarHandle" ∧ (parseMethodDescriptor y.desc).map (fun d => d.parameters.length) = some n) (hRm : rmN.frames + 1 ≤ rm.frames ∧ 8 + (maxL + 11) + rmN.locals ≤ rm.locals) (hn : (As (xg_zs X)).length = n) (hst : stk = (As (xg_zs X)).reverse ++ st) (hcat : (st.map fun v => v.category).sum ≤ 8) (hfit : k0 ≤ rm.cells ∧ n0 ≤ rm.slots) (hd : decode cc pc = .ok (.invokestatic idx, 3)) (hF : wp Qr h) (kk : ∀ (r : Int64) (h2 : xg_H), Qr r h2 → xg_W X k0 n0 Y (pc + 3) lv (.long r :: st) h2) : xg_W X k0 n0 Y pc lv stk h := by
  obtain ⟨p, l, e, R, s, m, args, below, meth, c, Q, D, cA, zs, A, nL⟩ := X
  obtain ⟨hx, hb, hml, hown, hts, hA, hlk, hR, hSt, hNw⟩ := C
  intro H locs ls hK hP hD hS hl
  have hFc : ∀ q, va_A (xg_ws Y h) H.size q → A q := fun q hq => hq.elim (fun ⟨k, e9, hk⟩ => hD.2 k _ hk) (fun hq => hA q (Nat.le_trans hS.1 hq))
  subst hR
  subst hst
  refine va_calll (va_runS (As := As zs) (rest := st) ⟨hx, hb, hml, hown, hts⟩ (hM l D zs h H.size Qr hF) (va_cwS n hts hg hw hcs.1 hcs.2 hd2 hRm) ⟨xg_blind _ _ _ _ _ _, fun U hU hW => ⟨rfl, by rw [hU], by rw [hU]; exact hP, va_K.moved hW.alike hK, hD.weaken (fun _ _ _ _ => trivial), by rw [hU]; exact ((hSt.kept hS.2.1).narrow hFc).moved hW.alike, xg_Nw.warm hW hNw⟩⟩ rfl hn hl.1 rfl (lv_room hcat) hd hfit) hS (fun q _ h9 => hFc q h9) hFc (fun r u t H1 locs1 ht hvm hw9 hB hz1 hk1 hS1 => ?_)
  obtain ⟨hP1, hK1, hD1⟩ := hB
  rw [ht] at hP1
  exact kk r u hw9 H1 locs1 ls hK hP1 ⟨hD1.1, fun k q hq => hFc _ (hD1.2 k q hq)⟩ hS1 hl
theorem xg_csR {X : xg_X} {k0 n0 : Nat} {Y : xg_Y} {own : String} {cc : ByteArray} {Ts : List Cond} {rm : Room} {pc : Nat} {lv : List (Nat × Value)} {st : List Value} {h : xg_H} {y : MethodName} {ws ws2 : List Cond} {rmN : Room} {bytes : ByteArray} {maxL n idx : Nat} {ret : Option FieldType} {stk : List Value} {Qr : Option Nat → xg_H → Prop} {wp : (Option Nat → xg_H → Prop) → xg_H → Prop} (C : xg_ok X cc own Ts rm) (As : (Nat → Nat) → List Value) (hM : xg_MR y ws rmN Y As wp) (hg : GoodIn Ts (va_wsS own idx y ws)) (hw : ws = Cond.code y bytes maxL ret :: ws2) (hcs : rmN.cells = 0 ∧ rmN.slots = 0) (hd2 : y.cls ≠ "java/lang/invoke/MethodHandle" ∧ y.cls ≠ "java/lang/invoke/VarHandle" ∧ (parseMethodDescriptor y.desc).map (fun d => d.parameters.length) = some n) (hRm : rmN.frames + 1 ≤ rm.frames ∧ 8 + (maxL + 11) + rmN.locals ≤ rm.locals) (hn : (As (xg_zs X)).length = n) (hst : stk = (As (xg_zs X)).reverse ++ st) (hcat : (st.map fun v => v.category).sum ≤ 8) (hfit : k0 ≤ rm.cells ∧ n0 ≤ rm.slots) (hd : decode cc pc = .ok (.invokestatic idx, 3)) (hF : wp Qr h) (kk : ∀ (r : Option Nat) (h2 : xg_H), Qr r h2 → xg_W X k0 n0 Y (pc + 3) lv (va_rf r :: st) h2) : xg_W X k0 n0 Y pc lv stk h := by
  obtain ⟨p, l, e, R, s, m, args, below, meth, c, Q, D, cA, zs, A, nL⟩ := X
  obtain ⟨hx, hb, hml, hown, hts, hA, hlk, hR, hSt, hNw⟩ := C
  intro H locs ls hK hP hD hS hl
  have hFc : ∀ q, va_A (xg_ws Y h) H.size q → A q := fun q hq => hq.elim (fun ⟨k, e9, hk⟩ => hD.2 k _ hk) (fun hq => hA q (Nat.le_trans hS.1 hq))
  subst hR
  subst hst
  refine va_callq (va_runS (As := As zs) (rest := st) ⟨hx, hb, hml, hown, hts⟩ (hM l D zs h H.size Qr hF) (va_cwS n hts hg hw hcs.1 hcs.2 hd2 hRm) ⟨xg_blind _ _ _ _ _ _, fun U hU hW => ⟨rfl, by rw [hU], by rw [hU]; exact hP, va_K.moved hW.alike hK, hD.weaken (fun _ _ _ _ => trivial), by rw [hU]; exact ((hSt.kept hS.2.1).narrow hFc).moved hW.alike, xg_Nw.warm hW hNw⟩⟩ rfl hn hl.1 rfl (lv_room hcat) hd hfit) hS (fun q _ h9 => hFc q h9) hFc (fun r u t H1 locs1 ht hvm hw9 hB hz1 hk1 hS1 => ?_)
  obtain ⟨hP1, hK1, hD1⟩ := hB
  rw [ht] at hP1
  exact kk r u hw9 H1 locs1 ls hK hP1 ⟨hD1.1, fun k q hq => hFc _ (hD1.2 k q hq)⟩ hS1 hl
theorem xg_csV {X : xg_X} {k0 n0 : Nat} {Y : xg_Y} {own : String} {cc : ByteArray} {Ts : List Cond} {rm : Room} {pc : Nat} {lv : List (Nat × Value)} {st : List Value} {h : xg_H} {y : MethodName} {ws ws2 : List Cond} {rmN : Room} {bytes : ByteArray} {maxL n idx : Nat} {ret : Option FieldType} {stk : List Value} {Qr : xg_H → Prop} {wp : (xg_H → Prop) → xg_H → Prop} (C : xg_ok X cc own Ts rm) (As : (Nat → Nat) → List Value) (hM : xg_MV y ws rmN Y As wp) (hg : GoodIn Ts (va_wsS own idx y ws)) (hw : ws = Cond.code y bytes maxL ret :: ws2) (hcs : rmN.cells = 0 ∧ rmN.slots = 0) (hd2 : y.cls ≠ "java/lang/invoke/MethodHandle" ∧ y.cls ≠ "java/lang/invoke/VarHandle" ∧ (parseMethodDescriptor y.desc).map (fun d => d.parameters.length) = some n) (hRm : rmN.frames + 1 ≤ rm.frames ∧ 8 + (maxL + 11) + rmN.locals ≤ rm.locals) (hn : (As (xg_zs X)).length = n) (hst : stk = (As (xg_zs X)).reverse ++ st) (hcat : (st.map fun v => v.category).sum ≤ 8) (hfit : k0 ≤ rm.cells ∧ n0 ≤ rm.slots) (hd : decode cc pc = .ok (.invokestatic idx, 3)) (hF : wp Qr h) (kk : ∀ (h2 : xg_H), Qr h2 → xg_W X k0 n0 Y (pc + 3) lv st h2) : xg_W X k0 n0 Y pc lv stk h := by
  obtain ⟨p, l, e, R, s, m, args, below, meth, c, Q, D, cA, zs, A, nL⟩ := X
  obtain ⟨hx, hb, hml, hown, hts, hA, hlk, hR, hSt, hNw⟩ := C
  intro H locs ls hK hP hD hS hl
  have hFc : ∀ q, va_A (xg_ws Y h) H.size q → A q := fun q hq => hq.elim (fun ⟨k, e9, hk⟩ => hD.2 k _ hk) (fun hq => hA q (Nat.le_trans hS.1 hq))
  subst hR
  subst hst
  refine va_callv (va_runS (As := As zs) (rest := st) ⟨hx, hb, hml, hown, hts⟩ (hM l D zs h H.size Qr hF) (va_cwS n hts hg hw hcs.1 hcs.2 hd2 hRm) ⟨xg_blind _ _ _ _ _ _, fun U hU hW => ⟨rfl, by rw [hU], by rw [hU]; exact hP, va_K.moved hW.alike hK, hD.weaken (fun _ _ _ _ => trivial), by rw [hU]; exact ((hSt.kept hS.2.1).narrow hFc).moved hW.alike, xg_Nw.warm hW hNw⟩⟩ rfl hn hl.1 rfl (lv_room hcat) hd hfit) hS (fun q _ h9 => hFc q h9) hFc (fun u t H1 locs1 ht hvm hw9 hB hz1 hk1 hS1 => ?_)
  obtain ⟨hP1, hK1, hD1⟩ := hB
  rw [ht] at hP1
  exact kk u hw9 H1 locs1 ls hK hP1 ⟨hD1.1, fun k q hq => hFc _ (hD1.2 k q hq)⟩ hS1 hl
theorem xg_cnI {X : xg_X} {k0 n0 : Nat} {Y : xg_Y} {own : String} {cc : ByteArray} {Ts : List Cond} {rm : Room} {pc : Nat} {lv : List (Nat × Value)} {st : List Value} {h : xg_H} {host : String} {y : MethodName} {ws ws2 : List Cond} {rmN : Room} {bytes : ByteArray} {maxL n idx : Nat} {ret : Option FieldType} {stk : List Value} {Qr : Int32 → xg_H → Prop} {wp : (Int32 → xg_H → Prop) → xg_H → Prop} (C : xg_ok X cc own Ts rm) (As : (Nat → Nat) → List Value) (hnw : Cond.methodLinkNest own idx y host ∈ xg_nw) (hini : Cond.initialized y.cls ∈ Ts) (hst2 : Cond.static y ∈ Ts) (hM : xg_MI y ws rmN Y As wp) (hg : GoodIn Ts ws) (hw : ws = Cond.code y bytes maxL ret :: ws2) (hcs : rmN.cells = 0 ∧ rmN.slots = 0) (hd2 : y.cls ≠ "java/lang/invoke/MethodHandle" ∧ y.cls ≠ "java/lang/invoke/VarHandle" ∧ (parseMethodDescriptor y.desc).map (fun d => d.parameters.length) = some n) (hRm : rmN.frames + 1 ≤ rm.frames ∧ 8 + (maxL + 11) + rmN.locals ≤ rm.locals) (hn : (As (xg_zs X)).length = n) (hst : stk = (As (xg_zs X)).reverse ++ st) (hcat : (st.map fun v => v.category).sum ≤ 8) (hfit : k0 ≤ rm.cells ∧ n0 ≤ rm.slots) (hd : decode cc pc = .ok (.invokestatic idx, 3)) (hF : wp Qr h) (kk : ∀ (r : Int32) (h2 : xg_H), Qr r h2 → xg_W X k0 n0 Y (pc + 3) lv (.int r :: st) h2) : xg_W X k0 n0 Y pc lv stk h := by
  obtain ⟨p, l, e, R, s, m, args, below, meth, c, Q, D, cA, zs, A, nL⟩ := X
  obtain ⟨hx, hb, hml, hown, hts, hA, hlk, hR, hSt, hNw⟩ := C
  intro H locs ls hK hP hD hS hl
  have hFc : ∀ q, va_A (xg_ws Y h) H.size q → A q := fun q hq => hq.elim (fun ⟨k, e9, hk⟩ => hD.2 k _ hk) (fun hq => hA q (Nat.le_trans hS.1 hq))
  subst hR
  subst hst
  refine va_calli (va_runSN (As := As zs) (rest := st) ⟨hx, hb, hml, hown, hts⟩ (hM l D zs h H.size Qr hF) (⟨va_cnB n hts hg hw hcs.1 hcs.2 (hNw.1 _ hnw) (hts _ hini) hd2 hRm, hts _ hst2, trivial⟩) ⟨xg_blind _ _ _ _ _ _, fun U hU hW => ⟨rfl, by rw [hU], by rw [hU]; exact hP, va_K.moved hW.alike hK, hD.weaken (fun _ _ _ _ => trivial), by rw [hU]; exact ((hSt.kept hS.2.1).narrow hFc).moved hW.alike, xg_Nw.warm hW hNw⟩⟩ rfl hn hl.1 rfl (lv_room hcat) hd hfit) hS (fun q _ h9 => hFc q h9) hFc (fun r u t H1 locs1 ht hvm hw9 hB hz1 hk1 hS1 => ?_)
  obtain ⟨hP1, hK1, hD1⟩ := hB
  rw [ht] at hP1
  exact kk r u hw9 H1 locs1 ls hK hP1 ⟨hD1.1, fun k q hq => hFc _ (hD1.2 k q hq)⟩ hS1 hl
theorem xg_cnL {X : xg_X} {k0 n0 : Nat} {Y : xg_Y} {own : String} {cc : ByteArray} {Ts : List Cond} {rm : Room} {pc : Nat} {lv : List (Nat × Value)} {st : List Value} {h : xg_H} {host : String} {y : MethodName} {ws ws2 : List Cond} {rmN : Room} {bytes : ByteArray} {maxL n idx : Nat} {ret : Option FieldType} {stk : List Value} {Qr : Int64 → xg_H → Prop} {wp : (Int64 → xg_H → Prop) → xg_H → Prop} (C : xg_ok X cc own Ts rm) (As : (Nat → Nat) → List Value) (hnw : Cond.methodLinkNest own idx y host ∈ xg_nw) (hini : Cond.initialized y.cls ∈ Ts) (hst2 : Cond.static y ∈ Ts) (hM : xg_ML y ws rmN Y As wp) (hg : GoodIn Ts ws) (hw : ws = Cond.code y bytes maxL ret :: ws2) (hcs : rmN.cells = 0 ∧ rmN.slots = 0) (hd2 : y.cls ≠ "java/lang/invoke/MethodHandle" ∧ y.cls ≠ "java/lang/invoke/VarHandle" ∧ (parseMethodDescriptor y.desc).map (fun d => d.parameters.length) = some n) (hRm : rmN.frames + 1 ≤ rm.frames ∧ 8 + (maxL + 11) + rmN.locals ≤ rm.locals) (hn : (As (xg_zs X)).length = n) (hst : stk = (As (xg_zs X)).reverse ++ st) (hcat : (st.map fun v => v.category).sum ≤ 8) (hfit : k0 ≤ rm.cells ∧ n0 ≤ rm.slots) (hd : decode cc pc = .ok (.invokestatic idx, 3)) (hF : wp Qr h) (kk : ∀ (r : Int64) (h2 : xg_H), Qr r h2 → xg_W X k0 n0 Y (pc + 3) lv (.long r :: st) h2) : xg_W X k0 n0 Y pc lv stk h := by
  obtain ⟨p, l, e, R, s, m, args, below, meth, c, Q, D, cA, zs, A, nL⟩ := X
  obtain ⟨hx, hb, hml, hown, hts, hA, hlk, hR, hSt, hNw⟩ := C
  intro H locs ls hK hP hD hS hl
  have hFc : ∀ q, va_A (xg_ws Y h) H.size q → A q := fun q hq => hq.elim (fun ⟨k, e9, hk⟩ => hD.2 k _ hk) (fun hq => hA q (Nat.le_trans hS.1 hq))
  subst hR
  subst hst
  refine va_calll (va_runSN (As := As zs) (rest := st) ⟨hx, hb, hml, hown, hts⟩ (hM l D zs h H.size Qr hF) (⟨va_cnB n hts hg hw hcs.1 hcs.2 (hNw.1 _ hnw) (hts _ hini) hd2 hRm, hts _ hst2, trivial⟩) ⟨xg_blind _ _ _ _ _ _, fun U hU hW => ⟨rfl, by rw [hU], by rw [hU]; exact hP, va_K.moved hW.alike hK, hD.weaken (fun _ _ _ _ => trivial), by rw [hU]; exact ((hSt.kept hS.2.1).narrow hFc).moved hW.alike, xg_Nw.warm hW hNw⟩⟩ rfl hn hl.1 rfl (lv_room hcat) hd hfit) hS (fun q _ h9 => hFc q h9) hFc (fun r u t H1 locs1 ht hvm hw9 hB hz1 hk1 hS1 => ?_)
  obtain ⟨hP1, hK1, hD1⟩ := hB
  rw [ht] at hP1
  exact kk r u hw9 H1 locs1 ls hK hP1 ⟨hD1.1, fun k q hq => hFc _ (hD1.2 k q hq)⟩ hS1 hl
theorem xg_cnR {X : xg_X} {k0 n0 : Nat} {Y : xg_Y} {own : String} {cc : ByteArray} {Ts : List Cond} {rm : Room} {pc : Nat} {lv : List (Nat × Value)} {st : List Value} {h : xg_H} {host : String} {y : MethodName} {ws ws2 : List Cond} {rmN : Room} {bytes : ByteArray} {maxL n idx : Nat} {ret : Option FieldType} {stk : List Value} {Qr : Option Nat → xg_H → Prop} {wp : (Option Nat → xg_H → Prop) → xg_H → Prop} (C : xg_ok X cc own Ts rm) (As : (Nat → Nat) → List Value) (hnw : Cond.methodLinkNest own idx y host ∈ xg_nw) (hini : Cond.initialized y.cls ∈ Ts) (hst2 : Cond.static y ∈ Ts) (hM : xg_MR y ws rmN Y As wp) (hg : GoodIn Ts ws) (hw : ws = Cond.code y bytes maxL ret :: ws2) (hcs : rmN.cells = 0 ∧ rmN.slots = 0) (hd2 : y.cls ≠ "java/lang/invoke/MethodHandle" ∧ y.cls ≠ "java/lang/invoke/VarHandle" ∧ (parseMethodDescriptor y.desc).map (fun d => d.parameters.length) = some n) (hRm : rmN.frames + 1 ≤ rm.frames ∧ 8 + (maxL + 11) + rmN.locals ≤ rm.locals) (hn : (As (xg_zs X)).length = n) (hst : stk = (As (xg_zs X)).reverse ++ st) (hcat : (st.map fun v => v.category).sum ≤ 8) (hfit : k0 ≤ rm.cells ∧ n0 ≤ rm.slots) (hd : decode cc pc = .ok (.invokestatic idx, 3)) (hF : wp Qr h) (kk : ∀ (r : Option Nat) (h2 : xg_H), Qr r h2 → xg_W X k0 n0 Y (pc + 3) lv (va_rf r :: st) h2) : xg_W X k0 n0 Y pc lv stk h := by
  obtain ⟨p, l, e, R, s, m, args, below, meth, c, Q, D, cA, zs, A, nL⟩ := X
  obtain ⟨hx, hb, hml, hown, hts, hA, hlk, hR, hSt, hNw⟩ := C
  intro H locs ls hK hP hD hS hl
  have hFc : ∀ q, va_A (xg_ws Y h) H.size q → A q := fun q hq => hq.elim (fun ⟨k, e9, hk⟩ => hD.2 k _ hk) (fun hq => hA q (Nat.le_trans hS.1 hq))
  subst hR
  subst hst
  refine va_callq (va_runSN (As := As zs) (rest := st) ⟨hx, hb, hml, hown, hts⟩ (hM l D zs h H.size Qr hF) (⟨va_cnB n hts hg hw hcs.1 hcs.2 (hNw.1 _ hnw) (hts _ hini) hd2 hRm, hts _ hst2, trivial⟩) ⟨xg_blind _ _ _ _ _ _, fun U hU hW => ⟨rfl, by rw [hU], by rw [hU]; exact hP, va_K.moved hW.alike hK, hD.weaken (fun _ _ _ _ => trivial), by rw [hU]; exact ((hSt.kept hS.2.1).narrow hFc).moved hW.alike, xg_Nw.warm hW hNw⟩⟩ rfl hn hl.1 rfl (lv_room hcat) hd hfit) hS (fun q _ h9 => hFc q h9) hFc (fun r u t H1 locs1 ht hvm hw9 hB hz1 hk1 hS1 => ?_)
  obtain ⟨hP1, hK1, hD1⟩ := hB
  rw [ht] at hP1
  exact kk r u hw9 H1 locs1 ls hK hP1 ⟨hD1.1, fun k q hq => hFc _ (hD1.2 k q hq)⟩ hS1 hl
theorem xg_cnV {X : xg_X} {k0 n0 : Nat} {Y : xg_Y} {own : String} {cc : ByteArray} {Ts : List Cond} {rm : Room} {pc : Nat} {lv : List (Nat × Value)} {st : List Value} {h : xg_H} {host : String} {y : MethodName} {ws ws2 : List Cond} {rmN : Room} {bytes : ByteArray} {maxL n idx : Nat} {ret : Option FieldType} {stk : List Value} {Qr : xg_H → Prop} {wp : (xg_H → Prop) → xg_H → Prop} (C : xg_ok X cc own Ts rm) (As : (Nat → Nat) → List Value) (hnw : Cond.methodLinkNest own idx y host ∈ xg_nw) (hini : Cond.initialized y.cls ∈ Ts) (hst2 : Cond.static y ∈ Ts) (hM : xg_MV y ws rmN Y As wp) (hg : GoodIn Ts ws) (hw : ws = Cond.code y bytes maxL ret :: ws2) (hcs : rmN.cells = 0 ∧ rmN.slots = 0) (hd2 : y.cls ≠ "java/lang/invoke/MethodHandle" ∧ y.cls ≠ "java/lang/invoke/VarHandle" ∧ (parseMethodDescriptor y.desc).map (fun d => d.parameters.length) = some n) (hRm : rmN.frames + 1 ≤ rm.frames ∧ 8 + (maxL + 11) + rmN.locals ≤ rm.locals) (hn : (As (xg_zs X)).length = n) (hst : stk = (As (xg_zs X)).reverse ++ st) (hcat : (st.map fun v => v.category).sum ≤ 8) (hfit : k0 ≤ rm.cells ∧ n0 ≤ rm.slots) (hd : decode cc pc = .ok (.invokestatic idx, 3)) (hF : wp Qr h) (kk : ∀ (h2 : xg_H), Qr h2 → xg_W X k0 n0 Y (pc + 3) lv st h2) : xg_W X k0 n0 Y pc lv stk h := by
  obtain ⟨p, l, e, R, s, m, args, below, meth, c, Q, D, cA, zs, A, nL⟩ := X
  obtain ⟨hx, hb, hml, hown, hts, hA, hlk, hR, hSt, hNw⟩ := C
  intro H locs ls hK hP hD hS hl
  have hFc : ∀ q, va_A (xg_ws Y h) H.size q → A q := fun q hq => hq.elim (fun ⟨k, e9, hk⟩ => hD.2 k _ hk) (fun hq => hA q (Nat.le_trans hS.1 hq))
  subst hR
  subst hst
  refine va_callv (va_runSN (As := As zs) (rest := st) ⟨hx, hb, hml, hown, hts⟩ (hM l D zs h H.size Qr hF) (⟨va_cnB n hts hg hw hcs.1 hcs.2 (hNw.1 _ hnw) (hts _ hini) hd2 hRm, hts _ hst2, trivial⟩) ⟨xg_blind _ _ _ _ _ _, fun U hU hW => ⟨rfl, by rw [hU], by rw [hU]; exact hP, va_K.moved hW.alike hK, hD.weaken (fun _ _ _ _ => trivial), by rw [hU]; exact ((hSt.kept hS.2.1).narrow hFc).moved hW.alike, xg_Nw.warm hW hNw⟩⟩ rfl hn hl.1 rfl (lv_room hcat) hd hfit) hS (fun q _ h9 => hFc q h9) hFc (fun u t H1 locs1 ht hvm hw9 hB hz1 hk1 hS1 => ?_)
  obtain ⟨hP1, hK1, hD1⟩ := hB
  rw [ht] at hP1
  exact kk u hw9 H1 locs1 ls hK hP1 ⟨hD1.1, fun k q hq => hFc _ (hD1.2 k q hq)⟩ hS1 hl
theorem xg_i2c {X : xg_X} {k0 n0 : Nat} {Y : xg_Y} {own : String} {cc : ByteArray} {Ts : List Cond} {rm : Room} {pc : Nat} {lv : List (Nat × Value)} {st : List Value} {h : xg_H} {x : Int32} (C : xg_ok X cc own Ts rm) (hd : decode cc pc = .ok (.i2c, 1)) (kk : xg_W X k0 n0 Y (pc + 1) lv (.int ((x.toUInt32 % 65536).toInt32) :: st) h) : xg_W X k0 n0 Y pc lv (.int x :: st) h := by
  obtain ⟨p, l, e, R, s, m, args, below, meth, c, Q, D, cA, zs, A, nL⟩ := X
  obtain ⟨hx, hb, hml, hown, hts, hA, hlk, hR, hSt, hNw⟩ := C
  intro H locs ls hK hP hD hS hl
  exact lv_i2c hx hb hd rfl (kk H locs ls hK hP hD hS hl)
theorem xg_ldcs {X : xg_X} {k0 n0 : Nat} {Y : xg_Y} {own : String} {cc : ByteArray} {Ts : List Cond} {rm : Room} {pc : Nat} {lv : List (Nat × Value)} {st : List Value} {h : xg_H} {i : Nat} (C : xg_ok X cc own Ts rm) (k : Nat) (hk : k < 10) (hown6 : own = RX6) (hi : xg_tk k = i) (hd : decode cc pc = .ok (.ldc i, 2)) (kk : xg_W X k0 n0 Y (pc + 2) lv (va_rf (some (xg_zs X (10 + k))) :: st) h) : xg_W X k0 n0 Y pc lv st h := by
  obtain ⟨p, l, e, R, s, m, args, below, meth, c, Q, D, cA, zs, A, nL⟩ := X
  obtain ⟨hx, hb, hml, hown, hts, hA, hlk, hR, hSt, hNw⟩ := C
  intro H locs ls hK hP hD hS hl
  subst hi
  subst hown6
  exact va_ldcS hx hb hown (hNw.2.2 k hk) hd (kk H locs ls hK hP hD hS hl)
theorem xg_strv {X : xg_X} {k0 n0 : Nat} {Y : xg_Y} {own : String} {cc : ByteArray} {Ts : List Cond} {rm : Room} {pc : Nat} {lv : List (Nat × Value)} {st : List Value} {h : xg_H} {i : Nat} (C : xg_ok X cc own Ts rm) (k : Nat) (hk : k < 10) (hlk2 : Cond.fieldLink own i "java/lang/String" "value" "[B" ∈ Ts) (hd : decode cc pc = .ok (.getfield i, 3)) (kk : xg_W X k0 n0 Y (pc + 3) lv (va_rf (some (xg_zs X (30 + k))) :: st) h) : xg_W X k0 n0 Y pc lv (va_rf (some (xg_zs X (10 + k))) :: st) h := by
  obtain ⟨p, l, e, R, s, m, args, below, meth, c, Q, D, cA, zs, A, nL⟩ := X
  obtain ⟨hx, hb, hml, hown, hts, hA, hlk, hR, hSt, hNw⟩ := C
  intro H locs ls hK hP hD hS hl
  exact vk_getf hx hb (hSt.2.1.1 k hk).2.2.1 hS hown (hts _ hlk2) (fun _ h9 => h9) hd (kk H locs ls hK hP hD hS hl)
theorem xg_strc {X : xg_X} {k0 n0 : Nat} {Y : xg_Y} {own : String} {cc : ByteArray} {Ts : List Cond} {rm : Room} {pc : Nat} {lv : List (Nat × Value)} {st : List Value} {h : xg_H} {i : Nat} (C : xg_ok X cc own Ts rm) (k : Nat) (hk : k < 10) (hlk2 : Cond.fieldLink own i "java/lang/String" "coder" "B" ∈ Ts) (hd : decode cc pc = .ok (.getfield i, 3)) (kk : xg_W X k0 n0 Y (pc + 3) lv (.int 0 :: st) h) : xg_W X k0 n0 Y pc lv (va_rf (some (xg_zs X (10 + k))) :: st) h := by
  obtain ⟨p, l, e, R, s, m, args, below, meth, c, Q, D, cA, zs, A, nL⟩ := X
  obtain ⟨hx, hb, hml, hown, hts, hA, hlk, hR, hSt, hNw⟩ := C
  intro H locs ls hK hP hD hS hl
  exact vk_getf hx hb (hSt.2.1.1 k hk).2.1 hS hown (hts _ hlk2) (fun _ h9 => h9) hd (kk H locs ls hK hP hD hS hl)
theorem xg_tblen {X : xg_X} {k0 n0 : Nat} {Y : xg_Y} {own : String} {cc : ByteArray} {Ts : List Cond} {rm : Room} {pc : Nat} {lv : List (Nat × Value)} {st : List Value} {h : xg_H} (C : xg_ok X cc own Ts rm) (k : Nat) (hk : k < 10) (hd : decode cc pc = .ok (.arraylength, 1)) (kk : xg_W X k0 n0 Y (pc + 1) lv (.int (Int32.ofNat (xg_tl.getD k 0)) :: st) h) : xg_W X k0 n0 Y pc lv (va_rf (some (xg_zs X (30 + k))) :: st) h := by
  obtain ⟨p, l, e, R, s, m, args, below, meth, c, Q, D, cA, zs, A, nL⟩ := X
  obtain ⟨hx, hb, hml, hown, hts, hA, hlk, hR, hSt, hNw⟩ := C
  intro H locs ls hK hP hD hS hl
  exact va_tlen hx hb (hSt.2.1.1 k hk).2.2.2 hS rfl hd (kk H locs ls hK hP hD hS hl)
theorem xg_tbld {X : xg_X} {k0 n0 : Nat} {Y : xg_Y} {own : String} {cc : ByteArray} {Ts : List Cond} {rm : Room} {pc : Nat} {lv : List (Nat × Value)} {st : List Value} {h : xg_H} {i : Int32} (C : xg_ok X cc own Ts rm) (k : Nat) (hk : k < 10) (hi : vp_in i (xg_tl.getD k 0)) (hd : decode cc pc = .ok (.baload, 1)) (kk : xg_W X k0 n0 Y (pc + 1) lv (.int ((xg_tb.getD k []).getD i.toNatClampNeg 0) :: st) h) : xg_W X k0 n0 Y pc lv (.int i :: va_rf (some (xg_zs X (30 + k))) :: st) h := by
  obtain ⟨p, l, e, R, s, m, args, below, meth, c, Q, D, cA, zs, A, nL⟩ := X
  obtain ⟨hx, hb, hml, hown, hts, hA, hlk, hR, hSt, hNw⟩ := C
  intro H locs ls hK hP hD hS hl
  exact va_tb hx hb (hSt.2.1.1 k hk).2.2.2 hS hi rfl hd (kk H locs ls hK hP hD hS hl)
theorem xg_getz {X : xg_X} {k0 n0 : Nat} {Y : xg_Y} {own : String} {cc : ByteArray} {Ts : List Cond} {rm : Room} {pc : Nat} {lv : List (Nat × Value)} {st : List Value} {h : xg_H} {i : Nat} (C : xg_ok X cc own Ts rm) (hlk2 : Cond.fieldLink own i "java/lang/String" "COMPACT_STRINGS" "Z" ∈ Ts) (hd : decode cc pc = .ok (.getstatic i, 3)) (kk : xg_W X k0 n0 Y (pc + 3) lv (.int 1 :: st) h) : xg_W X k0 n0 Y pc lv st h := by
  obtain ⟨p, l, e, R, s, m, args, below, meth, c, Q, D, cA, zs, A, nL⟩ := X
  obtain ⟨hx, hb, hml, hown, hts, hA, hlk, hR, hSt, hNw⟩ := C
  intro H locs ls hK hP hD hS hl
  exact va_gets hx hb hSt.2.2.1 hS hown (hts _ hlk2) (fun _ h9 => h9) hd (kk H locs ls hK hP hD hS hl)
theorem xg_getq {X : xg_X} {k0 n0 : Nat} {Y : xg_Y} {own : String} {cc : ByteArray} {Ts : List Cond} {rm : Room} {pc : Nat} {lv : List (Nat × Value)} {st : List Value} {h : xg_H} {i : Nat} (C : xg_ok X cc own Ts rm) (hlk2 : Cond.fieldLink own i "jdk/internal/util/Preconditions" "SIOOBE_FORMATTER" "Ljava/util/function/BiFunction;" ∈ Ts) (hd : decode cc pc = .ok (.getstatic i, 3)) (kk : ∀ r : Option Nat, xg_W X k0 n0 Y (pc + 3) lv (va_rf r :: st) h) : xg_W X k0 n0 Y pc lv st h := by
  obtain ⟨p, l, e, R, s, m, args, below, meth, c, Q, D, cA, zs, A, nL⟩ := X
  obtain ⟨hx, hb, hml, hown, hts, hA, hlk, hR, hSt, hNw⟩ := C
  intro H locs ls hK hP hD hS hl
  rcases hSt.2.2.2 with hz | ⟨t, hz⟩
  · exact va_gets hx hb hz hS hown (hts _ hlk2) (fun _ h9 => h9) hd (kk none H locs ls hK hP hD hS hl)
  · exact va_gets hx hb hz hS hown (hts _ hlk2) (fun _ h9 => h9) hd (kk (some t) H locs ls hK hP hD hS hl)
theorem xg_retN {X : xg_X} {Y : xg_Y} {own : String} {cc : ByteArray} {Ts : List Cond} {rm : Room} {pc : Nat} {lv : List (Nat × Value)} {h : xg_H} {v : Int32} {ty : FieldType} {Qr : Int32 → xg_H → Prop} (C : xg_ok X cc own Ts rm) (E : xg_EI X Y ty Qr) (hv : narrow ty (.int v) = .int v) (hd : decode cc pc = .ok (.ireturn, 1)) (hq : Qr v h) : xg_W X 0 0 Y pc lv [.int v] h := by
  obtain ⟨p, l, e, R, s, m, args, below, meth, c, Q, D, cA, zs, A, nL⟩ := X
  obtain ⟨hx, hb, hml, hown, hts, hA, hlk, hR, hSt, hNw⟩ := C
  intro H locs ls hK hP hD hS hl
  obtain ⟨hQ, hr⟩ := E
  have hQ2 : Q = _ := hQ
  subst hQ2
  exact W.zret (hlocks := hlk) hx hb hr hv (fun t ht hW => ⟨⟨v, h, rfl, hq, by rw [ht]; exact hP, va_K.moved hW.alike hK, hD⟩, hS.F ht⟩) hS.2.2 hd
def xg_MT (y : MethodName) (ws : List Cond) (rm : Room) (Y : xg_Y) (av : (Nat → Nat) → List Value) (wp : (Nat → xg_H → Prop) → xg_H → Prop) : Prop := ∀ (l : Launch) (D : va_G) (zs : Nat → Nat) (h : xg_H) (sz : Nat) (Q : Nat → xg_H → Prop), wp Q h → Met l y ws rm (va_Pc (av zs) (xg_Pre D zs Y h sz)) (va_Qr (S := Nat × xg_H) (fun u => Q u.1 u.2) (fun u a t => a = zs (10 + u.1) ∧ xg_B D (xg_A Y h sz) Y u.2 t) (xg_A Y h sz)) 0 0 (xg_A Y h sz)
def xg_ET (X : xg_X) (Y : xg_Y) (ty : FieldType) (Qr : Nat → xg_H → Prop) : Prop := match X with
  | (_, _, _, _, s, _, args, below, meth, _, Q, D, _, zs, A, _) => Q = MQ below (va_Qr (S := Nat × xg_H) (fun u => Qr u.1 u.2) (fun u a t => a = zs (10 + u.1) ∧ xg_B D A Y u.2 t) A) args s 0 0 A ∧ meth.sig.returnType = some ty
theorem xg_startT {y : MethodName} {ws ws2 : List Cond} {rm : Room} {cc : ByteArray} {maxL : Nat} {own : String} {Y : xg_Y} {ty : FieldType} {av : (Nat → Nat) → List Value} {wp : (Nat → xg_H → Prop) → xg_H → Prop} (hy : plainName y.cls = true) (hcls : y.cls = own) (hw : ws = Cond.code y cc maxL (some ty) :: ws2) (hlen : ∀ zs, (lg_sl (av zs)).length ≤ maxL) (body : ∀ (X : xg_X) (Q : Nat → xg_H → Prop) (h : xg_H), xg_ok X cc own ws rm → xg_nL X maxL → xg_ET X Y ty Q → wp Q h → xg_W X 0 0 Y 0 (lv_args 0 (av (xg_zs X))) [] h) : xg_MT y ws rm Y av wp := by
  intro l D zs h sz Q hwp
  refine Met.ofW (cc := cc) (maxL := maxL) (ret := (some ty)) hy hw ?_
  intro p e s m args below meth c s₁ B hml hv
  obtain ⟨rfl, hsz, hP, hK, hD0, hSt, hNw⟩ := hv
  have hown : s.vm.findClass own = some m.cls := hcls ▸ findClass_of_methodNamed B.named
  have hts := atoms_spec (ws := ws) B.pre
  subst hsz
  have hD := hD0.self (sz := s.heap.size)
  have hA : ∀ q : Nat, s.heap.size ≤ q → xg_A Y h s.heap.size q := fun q h => Or.inr h
  have hS : va_S (xg_A Y h s.heap.size) s.heap s.heap [] := va_S.rf
  have hl := lv_entry (av zs) (n := maxL) (hlen zs)
  rw [lg_entry_eq]
  exact body (p, l, e, rm, s, m, (av zs).toArray, below, meth, c, _, D, (fun _ => 0), zs, xg_A Y h s.heap.size, maxL) Q h ⟨B.exec, B.bytes, hml, hown, hts, hA, B.notSynchronized, rfl, hSt, hNw⟩ rfl ⟨rfl, B.returns⟩ hwp s.heap [] _ hK hP hD hS hl
theorem xg_retT {X : xg_X} {Y : xg_Y} {own : String} {cc : ByteArray} {Ts : List Cond} {rm : Room} {pc : Nat} {lv : List (Nat × Value)} {h : xg_H} {k : Nat} {ty : FieldType} {Qr : Nat → xg_H → Prop} (C : xg_ok X cc own Ts rm) (E : xg_ET X Y ty Qr) (hv : (∃ n, ty = .object n) ∨ ∃ t, ty = .array t) (hd : decode cc pc = .ok (.areturn, 1)) (hq : Qr k h) : xg_W X 0 0 Y pc lv [va_rf (some (xg_zs X (10 + k)))] h := by
  obtain ⟨p, l, e, R, s, m, args, below, meth, c, Q, D, cA, zs, A, nL⟩ := X
  obtain ⟨hx, hb, hml, hown, hts, hA, hlk, hR, hSt, hNw⟩ := C
  intro H locs ls hK hP hD hS hl
  obtain ⟨hQ, hr⟩ := E
  have hQ2 : Q = _ := hQ
  subst hQ2
  exact W.aret (hlocks := hlk) hx hb hr hv (Or.inr ⟨_, rfl⟩) (fun t ht hW => ⟨⟨(k, h), _, rfl, hq, rfl, by rw [ht]; exact hP, va_K.moved hW.alike hK, hD⟩, hS.F ht⟩) hS.2.2 hd
theorem xg_csT {X : xg_X} {k0 n0 : Nat} {Y : xg_Y} {own : String} {cc : ByteArray} {Ts : List Cond} {rm : Room} {pc : Nat} {lv : List (Nat × Value)} {st : List Value} {h : xg_H} {y : MethodName} {ws ws2 : List Cond} {rmN : Room} {bytes : ByteArray} {maxL n idx : Nat} {ret : Option FieldType} {stk : List Value} {Qr : Nat → xg_H → Prop} {wp : (Nat → xg_H → Prop) → xg_H → Prop} (C : xg_ok X cc own Ts rm) (As : (Nat → Nat) → List Value) (hM : xg_MT y ws rmN Y As wp) (hg : GoodIn Ts (va_wsS own idx y ws)) (hw : ws = Cond.code y bytes maxL ret :: ws2) (hcs : rmN.cells = 0 ∧ rmN.slots = 0) (hd2 : y.cls ≠ "java/lang/invoke/MethodHandle" ∧ y.cls ≠ "java/lang/invoke/VarHandle" ∧ (parseMethodDescriptor y.desc).map (fun d => d.parameters.length) = some n) (hRm : rmN.frames + 1 ≤ rm.frames ∧ 8 + (maxL + 11) + rmN.locals ≤ rm.locals) (hn : (As (xg_zs X)).length = n) (hst : stk = (As (xg_zs X)).reverse ++ st) (hcat : (st.map fun v => v.category).sum ≤ 8) (hfit : k0 ≤ rm.cells ∧ n0 ≤ rm.slots) (hd : decode cc pc = .ok (.invokestatic idx, 3)) (hF : wp Qr h) (kk : ∀ (r : Nat) (h2 : xg_H), Qr r h2 → xg_W X k0 n0 Y (pc + 3) lv (va_rf (some (xg_zs X (10 + r))) :: st) h2) : xg_W X k0 n0 Y pc lv stk h := by
  obtain ⟨p, l, e, R, s, m, args, below, meth, c, Q, D, cA, zs, A, nL⟩ := X
  obtain ⟨hx, hb, hml, hown, hts, hA, hlk, hR, hSt, hNw⟩ := C
  intro H locs ls hK hP hD hS hl
  have hFc : ∀ q, va_A (xg_ws Y h) H.size q → A q := fun q hq => hq.elim (fun ⟨k, e9, hk⟩ => hD.2 k _ hk) (fun hq => hA q (Nat.le_trans hS.1 hq))
  subst hR
  subst hst
  refine va_callr (va_runS (As := As zs) (rest := st) ⟨hx, hb, hml, hown, hts⟩ (hM l D zs h H.size Qr hF) (va_cwS n hts hg hw hcs.1 hcs.2 hd2 hRm) ⟨xg_blind _ _ _ _ _ _, fun U hU hW => ⟨rfl, by rw [hU], by rw [hU]; exact hP, va_K.moved hW.alike hK, hD.weaken (fun _ _ _ _ => trivial), by rw [hU]; exact ((hSt.kept hS.2.1).narrow hFc).moved hW.alike, xg_Nw.warm hW hNw⟩⟩ rfl hn hl.1 rfl (lv_room hcat) hd hfit) hS (fun q _ h9 => hFc q h9) hFc (fun u ra t H1 locs1 ht hvm hw9 hB hz1 hk1 hS1 => ?_)
  obtain ⟨hra, hP1, hK1, hD1⟩ := hB
  rw [ht] at hP1
  subst hra
  exact kk u.1 u.2 hw9 H1 locs1 ls hK hP1 ⟨hD1.1, fun k q hq => hFc _ (hD1.2 k q hq)⟩ hS1 hl
theorem xg_ctI {X : xg_X} {k0 n0 : Nat} {Y : xg_Y} {own : String} {cc : ByteArray} {Ts : List Cond} {rm : Room} {pc : Nat} {lv : List (Nat × Value)} {st : List Value} {h : xg_H} {k : Nat} {y : MethodName} {ws ws2 : List Cond} {rmN : Room} {bytes : ByteArray} {maxL n idx : Nat} {ret : Option FieldType} {stk : List Value} {Qr : Int32 → xg_H → Prop} {wp : (Int32 → xg_H → Prop) → xg_H → Prop} (C : xg_ok X cc own Ts rm) (As : (Nat → Nat) → List Value) (hk : k < 10) (hM : xg_MI y ws rmN Y (fun zs => va_rf (some (zs (10 + k))) :: As zs) wp) (hg : GoodIn Ts (wsV own idx "java/lang/String" y ws)) (hw : ws = Cond.code y bytes maxL ret :: ws2) (hcs : rmN.cells = 0 ∧ rmN.slots = 0) (hd2 : y.cls = "java/lang/String" ∧ y.cls ≠ "java/lang/invoke/MethodHandle" ∧ y.cls ≠ "java/lang/invoke/VarHandle" ∧ (parseMethodDescriptor y.desc).map (fun d => d.parameters.length) = some n) (hRm : rmN.frames + 1 ≤ rm.frames ∧ 8 + (maxL + 11) + rmN.locals ≤ rm.locals) (hn : (As (xg_zs X)).length = n) (hst : stk = (As (xg_zs X)).reverse ++ va_rf (some (xg_zs X (10 + k))) :: st) (hcat : (st.map fun v => v.category).sum ≤ 8) (hfit : k0 ≤ rm.cells ∧ n0 ≤ rm.slots) (hd : decode cc pc = .ok (.invokevirtual idx, 3)) (hF : wp Qr h) (kk : ∀ (r : Int32) (h2 : xg_H), Qr r h2 → xg_W X k0 n0 Y (pc + 3) lv (.int r :: st) h2) : xg_W X k0 n0 Y pc lv stk h := by
  obtain ⟨p, l, e, R, s, m, args, below, meth, c, Q, D, cA, zs, A, nL⟩ := X
  obtain ⟨hx, hb, hml, hown, hts, hA, hlk, hR, hSt, hNw⟩ := C
  intro H locs ls hK hP hD hS hl
  have hFc : ∀ q, va_A (xg_ws Y h) H.size q → A q := fun q hq => hq.elim (fun ⟨k, e9, hk⟩ => hD.2 k _ hk) (fun hq => hA q (Nat.le_trans hS.1 hq))
  subst hR
  subst hst
  refine va_calli (va_runV (As := As zs) (rest := st) ⟨hx, hb, hml, hown, hts⟩ (hM l D zs h H.size Qr hF) (cwV n hts hg hw hcs.1 hcs.2 hd2 hRm) ⟨xg_blind _ _ _ _ _ _, vk_recv hSt.2.1 hk hS, fun U hU hW => ⟨rfl, by rw [hU], by rw [hU]; exact hP, va_K.moved hW.alike hK, hD.weaken (fun _ _ _ _ => trivial), by rw [hU]; exact ((hSt.kept hS.2.1).narrow hFc).moved hW.alike, xg_Nw.warm hW hNw⟩⟩ rfl hn hl.1 rfl (lv_room hcat) hd hfit) hS (fun q _ h9 => hFc q h9) hFc (fun r u t H1 locs1 ht hvm hw9 hB hz1 hk1 hS1 => ?_)
  obtain ⟨hP1, hK1, hD1⟩ := hB
  rw [ht] at hP1
  exact kk r u hw9 H1 locs1 ls hK hP1 ⟨hD1.1, fun k q hq => hFc _ (hD1.2 k q hq)⟩ hS1 hl
