/-! the reference's constructor: its arrays come one by one (mq_ws: those of ds are there), then faultPlace[0] = -1 -/
def mq_fv (ad : Nat → Nat) (ds : List Nat) (j : Nat) : Value := if mg_kd j = 0 then (if j = 15 then .long 0 else .int 0) else if j ∈ ds then .ref (ad j) else .null
def mq_fs (ad : Nat → Nat) (ds : List Nat) : List Value := (List.range 61).map (mq_fv ad ds)
def mq_E (cA : Nat → ClassId) (c : Nat) : va_E := if mg_kd c = 3 then .inl (cA c, mg_len c, .inr (.inl (fun _ => 0))) else .inl (cA c, mg_len c, .inl (fun _ => 0))
def mq_ws (cA : Nat → ClassId) (ad : Nat → Nat) (ds : List Nat) : va_W := (ad 0, .inr (12, mq_fs ad ds)) :: ds.map (fun c => (ad c, mq_E cA c))
def mq_ty (cA : Nat → ClassId) (ds : List Nat) : List (ClassId × FieldType) := ds.map (fun c => (cA c, mg_ft (mg_kd c)))
def mq_z : mg_H := (fun _ _ => 0, fun _ _ => 0)
/-- a new reference -/
def mq_0 : mg_H := mg_ui mq_z 4 0 (-1)
def mq_all : List Nat := mg_cs.drop 1
theorem mq_fs_len {ad : Nat → Nat} {ds : List Nat} : (mq_fs ad ds).length = 61 := by rw [mq_fs, List.length_map, List.length_range]
theorem mq_fs_up {ad : Nat → Nat} {ds : List Nat} {f q : Nat} (hf : f ∉ ds) : mq_fs (va_up ad f q) ds = mq_fs ad ds := by
  rw [mq_fs, mq_fs]; apply List.map_congr_left; intro j _
  by_cases hj : j ∈ ds
  · have hne : j ≠ f := fun e => hf (e ▸ hj)
    simp [mq_fv, va_up, hne]
  · simp [mq_fv, hj]
theorem mq_fs_put {ad : Nat → Nat} {ds : List Nat} {f : Nat} (hk : mg_kd f ≠ 0) : (mq_fs ad ds).set f (.ref (ad f)) = mq_fs ad (ds ++ [f]) := by
  apply List.ext_getElem?
  intro i
  rw [List.getElem?_set, mq_fs_len]
  by_cases hi : f = i
  · subst hi
    rw [if_pos rfl]
    by_cases h61 : f < 61
    · rw [if_pos h61, mq_fs, List.getElem?_map, List.getElem?_range h61]; simp [mq_fv, hk]
    · rw [if_neg h61, mq_fs, List.getElem?_map, List.getElem?_eq_none (by rw [List.length_range]; omega)]; rfl
  · rw [if_neg hi, mq_fs, mq_fs, List.getElem?_map, List.getElem?_map]
    by_cases h61 : i < 61
    · rw [List.getElem?_range h61]
      have hne : i ≠ f := fun e => hi e.symm
      simp [mq_fv, hne]
    · rw [List.getElem?_eq_none (by rw [List.length_range]; omega)]; rfl
theorem mq_push {cA : Nat → ClassId} {ad : Nat → Nat} {ds : List Nat} {f q : Nat} {ca : ClassId} {e : va_E} (hf : f ∉ ds) (h0 : f ≠ 0) (he : mq_E (va_up cA f ca) f = e) : mq_ws cA ad ds ++ [(q, e)] = (va_up ad f q 0, .inr (12, mq_fs (va_up ad f q) ds)) :: (ds ++ [f]).map (fun c => (va_up ad f q c, mq_E (va_up cA f ca) c)) := by
  rw [mq_fs_up hf, mq_ws, List.cons_append, List.map_append]
  have e0 : va_up ad f q 0 = ad 0 := by simp [va_up, Ne.symm h0]
  have e1 : ds.map (fun c => (ad c, mq_E cA c)) = ds.map (fun c => (va_up ad f q c, mq_E (va_up cA f ca) c)) := by
    apply List.map_congr_left; intro c hc
    have hne : c ≠ f := fun e => hf (e ▸ hc)
    simp [va_up, hne, mq_E]
  rw [e0, e1]
  simp [he, va_up]
theorem mq_ty_push {cA : Nat → ClassId} {ds : List Nat} {f : Nat} {ca : ClassId} (hf : f ∉ ds) : mq_ty cA ds ++ [(ca, mg_ft (mg_kd f))] = mq_ty (va_up cA f ca) (ds ++ [f]) := by
  rw [mq_ty, mq_ty, List.map_append]
  have e1 : ds.map (fun c => (cA c, mg_ft (mg_kd c))) = ds.map (fun c => (va_up cA f ca c, mg_ft (mg_kd c))) := by
    apply List.map_congr_left; intro c hc
    have hne : c ≠ f := fun e => hf (e ▸ hc)
    simp [va_up, hne]
  rw [e1]; simp [va_up]
theorem mq_done {cA : Nat → ClassId} {ad : Nat → Nat} : mq_ws cA ad mq_all = mg_ws cA ad mq_z := by
  have h1 : mq_fs ad mq_all = mg_fs ad mq_z := by
    rw [mq_fs, mg_fs]; apply List.map_congr_left; intro j hj
    have hj : j < 61 := List.mem_range.mp hj
    have hm : ∀ j, j < 61 → mg_kd j ≠ 0 → j ∈ mq_all := by decide
    by_cases hk : mg_kd j = 0
    · simp [mq_fv, mg_fv, hk, mq_z]
    · simp [mq_fv, mg_fv, hk, hm j hj hk]
  have h2 : mg_ws cA ad mq_z = (ad 0, mg_E cA ad mq_z 0) :: mq_all.map (fun c => (ad c, mg_E cA ad mq_z c)) := rfl
  rw [h2, mq_ws, h1, mg_E_obj]
  congr 1
theorem mp_in0 {n : Nat} (h : 0 < n) (h2 : n < 2 ^ 31) : vp_in 0 n := nI_0 ▸ vp_in_nI (n := 0) h h2
set_option maxHeartbeats 1000000 in
theorem mq_step_b {p : Program} {l : Launch} {e : Env} {R : Room} {s : State} {m : MethodId} {args : Array Value} {below : List Frame} {meth : Method} {c : Code} {H : Heap} {locs : List Loc} {k n : Nat} {Q : State → Prop} {D : va_G} {A : Nat → Prop} {cA : Nat → ClassId} {ad : Nat → Nat} {ds : List Nat} {ls : Array Slot} {pc i : Nat} {nn : Int32} (hx : p.tables.exec = Jvm.exec) (hb : c.code = cX12_init) (hts : ∀ w ∈ wsX12_init, w.before args s = true) (hown : s.vm.findClass RX12 = some m.cls) (hini : meth.name = "<init>") (hA : ∀ q, s.heap.size ≤ q → A q) (f : Nat) (hf : f < 61) (hkd : mg_kd f = 1) (hnd : f ∉ ds) (hnn : ¬ nn < 0) (hlen : nn.toNatClampNeg = mg_len f) (hby : mg_len f * 1 ≤ 536870912) (hc1 : k + 1 ≤ R.cells) (hn1 : n + mg_len f ≤ R.slots) (hdn : decode cX12_init pc = .ok (.newarray .byte, 2)) (hdp : decode cX12_init (pc + 2) = .ok (.putfield i, 3)) (hlk : Cond.fieldLink RX12 i (TX12 f).1 (TX12 f).2.1 (TX12 f).2.2.1 ∈ wsX12_init) (hfin : (TX12 f).2.2.2 = true) (hdecl : (TX12 f).1 = RX12) (hnr : ∀ q : Nat, narrow (tyX12 f) (.ref q) = .ref q ∧ fits (tyX12 f) (.ref q) = true) (hK : va_K D vwCl (mq_ty cA ds) s) (hP : va_P D vwCl (mq_ws cA ad ds) H) (hD : va_D A (mq_ws cA ad ds)) (hS : va_S A s.heap H locs)
    (kk : ∀ (cA2 : Nat → ClassId) (ad2 : Nat → Nat) (H2 : Heap) (locs2 : List Loc), ad2 0 = ad 0 → va_K D vwCl (mq_ty cA2 (ds ++ [f])) s → va_P D vwCl (mq_ws cA2 ad2 (ds ++ [f])) H2 → va_D A (mq_ws cA2 ad2 (ds ++ [f])) → va_S A s.heap H2 locs2 → W p l e R s m args below meth c H2 locs2 (k + 1) (n + mg_len f) Q (F0 m (pc + 2 + 3) ls [])) : W p l e R s m args below meth c H locs k n Q (F0 m pc ls [.int nn, .ref (ad 0)]) := by
  have h0 : f ≠ 0 := fun e0 => by rw [e0] at hkd; cases hkd
  refine va_newa (atype := .byte) (ty := .byte) (a0 := (mg_len f, .inl (fun _ => 0))) hx hb (hts (.arrayClass .byte) (by decide +kernel)) rfl hK hP hD hS hA (fun _ => rfl) hnn hlen hby hc1 hn1 hdn (fun q ca H1 hK1 hP1 hD1 hS1 => ?_)
  have he : mq_E (va_up cA f ca) f = .inl (ca, mg_len f, .inl (fun _ => 0)) := by simp [mq_E, hkd, va_up]
  rw [mq_push hnd h0 he] at hP1 hD1
  refine va_putF (D := D) (ci := 12) (v := .ref q) (C := RX12) (T := TX12) (N := 61) (ty := tyX12 f) hx hb hts (fun _ h9 => List.mem_cons_of_mem _ (List.mem_append_right _ h9)) tyX12 tyX12_ok nmX12 hown hK1 hP1 hD1 hS1 0 (a := ad 0) (fs := mq_fs (va_up ad f q) ds) (by simp [va_up, Ne.symm h0]) rfl f hf (hts _ hlk) (fun _ h9 => h9) hfin hini hdecl (tyX12_ok f hf) (hnr q).1 (hnr q).2 (by rw [mq_fs_len]; exact hf) hdp (fun H2 locs2 hP2 hD2 hS2 => ?_)
  have e2 : ((va_up ad f q 0, Sum.inr (12, mq_fs (va_up ad f q) ds)) :: (ds ++ [f]).map (fun c => (va_up ad f q c, mq_E (va_up cA f ca) c)) : va_W).set 0 (ad 0, .inr (12, (mq_fs (va_up ad f q) ds).set f (.ref q))) = mq_ws (va_up cA f ca) (va_up ad f q) (ds ++ [f]) := by
    have e3 : va_up ad f q f = q := by simp [va_up]
    have e4 := mq_fs_put (ad := va_up ad f q) (ds := ds) (f := f) (by rw [hkd]; decide)
    rw [e3] at e4
    rw [e4]
    have e5 : va_up ad f q 0 = ad 0 := by simp [va_up, Ne.symm h0]
    rw [mq_ws, e5]; rfl
  rw [e2] at hP2 hD2
  have hK2 : va_K D vwCl (mq_ty (va_up cA f ca) (ds ++ [f])) s := by
    rw [← mq_ty_push hnd, hkd]; exact hK1
  exact kk _ _ H2 locs2 (by simp [va_up, Ne.symm h0]) hK2 hP2 hD2 hS2
set_option maxHeartbeats 1000000 in
theorem mq_step_i {p : Program} {l : Launch} {e : Env} {R : Room} {s : State} {m : MethodId} {args : Array Value} {below : List Frame} {meth : Method} {c : Code} {H : Heap} {locs : List Loc} {k n : Nat} {Q : State → Prop} {D : va_G} {A : Nat → Prop} {cA : Nat → ClassId} {ad : Nat → Nat} {ds : List Nat} {ls : Array Slot} {pc i : Nat} {nn : Int32} (hx : p.tables.exec = Jvm.exec) (hb : c.code = cX12_init) (hts : ∀ w ∈ wsX12_init, w.before args s = true) (hown : s.vm.findClass RX12 = some m.cls) (hini : meth.name = "<init>") (hA : ∀ q, s.heap.size ≤ q → A q) (f : Nat) (hf : f < 61) (hkd : mg_kd f = 2) (hnd : f ∉ ds) (hnn : ¬ nn < 0) (hlen : nn.toNatClampNeg = mg_len f) (hby : mg_len f * 4 ≤ 536870912) (hc1 : k + 1 ≤ R.cells) (hn1 : n + mg_len f ≤ R.slots) (hdn : decode cX12_init pc = .ok (.newarray .int, 2)) (hdp : decode cX12_init (pc + 2) = .ok (.putfield i, 3)) (hlk : Cond.fieldLink RX12 i (TX12 f).1 (TX12 f).2.1 (TX12 f).2.2.1 ∈ wsX12_init) (hfin : (TX12 f).2.2.2 = true) (hdecl : (TX12 f).1 = RX12) (hnr : ∀ q : Nat, narrow (tyX12 f) (.ref q) = .ref q ∧ fits (tyX12 f) (.ref q) = true) (hK : va_K D vwCl (mq_ty cA ds) s) (hP : va_P D vwCl (mq_ws cA ad ds) H) (hD : va_D A (mq_ws cA ad ds)) (hS : va_S A s.heap H locs)
    (kk : ∀ (cA2 : Nat → ClassId) (ad2 : Nat → Nat) (H2 : Heap) (locs2 : List Loc), ad2 0 = ad 0 → va_K D vwCl (mq_ty cA2 (ds ++ [f])) s → va_P D vwCl (mq_ws cA2 ad2 (ds ++ [f])) H2 → va_D A (mq_ws cA2 ad2 (ds ++ [f])) → va_S A s.heap H2 locs2 → W p l e R s m args below meth c H2 locs2 (k + 1) (n + mg_len f) Q (F0 m (pc + 2 + 3) ls [])) : W p l e R s m args below meth c H locs k n Q (F0 m pc ls [.int nn, .ref (ad 0)]) := by
  have h0 : f ≠ 0 := fun e0 => by rw [e0] at hkd; cases hkd
  refine va_newa (atype := .int) (ty := .int) (a0 := (mg_len f, .inl (fun _ => 0))) hx hb (hts (.arrayClass .int) (by decide +kernel)) rfl hK hP hD hS hA (fun _ => rfl) hnn hlen hby hc1 hn1 hdn (fun q ca H1 hK1 hP1 hD1 hS1 => ?_)
  have he : mq_E (va_up cA f ca) f = .inl (ca, mg_len f, .inl (fun _ => 0)) := by simp [mq_E, hkd, va_up]
  rw [mq_push hnd h0 he] at hP1 hD1
  refine va_putF (D := D) (ci := 12) (v := .ref q) (C := RX12) (T := TX12) (N := 61) (ty := tyX12 f) hx hb hts (fun _ h9 => List.mem_cons_of_mem _ (List.mem_append_right _ h9)) tyX12 tyX12_ok nmX12 hown hK1 hP1 hD1 hS1 0 (a := ad 0) (fs := mq_fs (va_up ad f q) ds) (by simp [va_up, Ne.symm h0]) rfl f hf (hts _ hlk) (fun _ h9 => h9) hfin hini hdecl (tyX12_ok f hf) (hnr q).1 (hnr q).2 (by rw [mq_fs_len]; exact hf) hdp (fun H2 locs2 hP2 hD2 hS2 => ?_)
  have e2 : ((va_up ad f q 0, Sum.inr (12, mq_fs (va_up ad f q) ds)) :: (ds ++ [f]).map (fun c => (va_up ad f q c, mq_E (va_up cA f ca) c)) : va_W).set 0 (ad 0, .inr (12, (mq_fs (va_up ad f q) ds).set f (.ref q))) = mq_ws (va_up cA f ca) (va_up ad f q) (ds ++ [f]) := by
    have e3 : va_up ad f q f = q := by simp [va_up]
    have e4 := mq_fs_put (ad := va_up ad f q) (ds := ds) (f := f) (by rw [hkd]; decide)
    rw [e3] at e4
    rw [e4]
    have e5 : va_up ad f q 0 = ad 0 := by simp [va_up, Ne.symm h0]
    rw [mq_ws, e5]; rfl
  rw [e2] at hP2 hD2
  have hK2 : va_K D vwCl (mq_ty (va_up cA f ca) (ds ++ [f])) s := by
    rw [← mq_ty_push hnd, hkd]; exact hK1
  exact kk _ _ H2 locs2 (by simp [va_up, Ne.symm h0]) hK2 hP2 hD2 hS2
set_option maxHeartbeats 1000000 in
theorem mq_step_l {p : Program} {l : Launch} {e : Env} {R : Room} {s : State} {m : MethodId} {args : Array Value} {below : List Frame} {meth : Method} {c : Code} {H : Heap} {locs : List Loc} {k n : Nat} {Q : State → Prop} {D : va_G} {A : Nat → Prop} {cA : Nat → ClassId} {ad : Nat → Nat} {ds : List Nat} {ls : Array Slot} {pc i : Nat} {nn : Int32} (hx : p.tables.exec = Jvm.exec) (hb : c.code = cX12_init) (hts : ∀ w ∈ wsX12_init, w.before args s = true) (hown : s.vm.findClass RX12 = some m.cls) (hini : meth.name = "<init>") (hA : ∀ q, s.heap.size ≤ q → A q) (f : Nat) (hf : f < 61) (hkd : mg_kd f = 3) (hnd : f ∉ ds) (hnn : ¬ nn < 0) (hlen : nn.toNatClampNeg = mg_len f) (hby : mg_len f * 8 ≤ 536870912) (hc1 : k + 1 ≤ R.cells) (hn1 : n + mg_len f ≤ R.slots) (hdn : decode cX12_init pc = .ok (.newarray .long, 2)) (hdp : decode cX12_init (pc + 2) = .ok (.putfield i, 3)) (hlk : Cond.fieldLink RX12 i (TX12 f).1 (TX12 f).2.1 (TX12 f).2.2.1 ∈ wsX12_init) (hfin : (TX12 f).2.2.2 = true) (hdecl : (TX12 f).1 = RX12) (hnr : ∀ q : Nat, narrow (tyX12 f) (.ref q) = .ref q ∧ fits (tyX12 f) (.ref q) = true) (hK : va_K D vwCl (mq_ty cA ds) s) (hP : va_P D vwCl (mq_ws cA ad ds) H) (hD : va_D A (mq_ws cA ad ds)) (hS : va_S A s.heap H locs)
    (kk : ∀ (cA2 : Nat → ClassId) (ad2 : Nat → Nat) (H2 : Heap) (locs2 : List Loc), ad2 0 = ad 0 → va_K D vwCl (mq_ty cA2 (ds ++ [f])) s → va_P D vwCl (mq_ws cA2 ad2 (ds ++ [f])) H2 → va_D A (mq_ws cA2 ad2 (ds ++ [f])) → va_S A s.heap H2 locs2 → W p l e R s m args below meth c H2 locs2 (k + 1) (n + mg_len f) Q (F0 m (pc + 2 + 3) ls [])) : W p l e R s m args below meth c H locs k n Q (F0 m pc ls [.int nn, .ref (ad 0)]) := by
  have h0 : f ≠ 0 := fun e0 => by rw [e0] at hkd; cases hkd
  refine va_newa (atype := .long) (ty := .long) (a0 := (mg_len f, .inr (.inl (fun _ => 0)))) hx hb (hts (.arrayClass .long) (by decide +kernel)) rfl hK hP hD hS hA (fun _ => rfl) hnn hlen hby hc1 hn1 hdn (fun q ca H1 hK1 hP1 hD1 hS1 => ?_)
  have he : mq_E (va_up cA f ca) f = .inl (ca, mg_len f, .inr (.inl (fun _ => 0))) := by simp [mq_E, hkd, va_up]
  rw [mq_push hnd h0 he] at hP1 hD1
  refine va_putF (D := D) (ci := 12) (v := .ref q) (C := RX12) (T := TX12) (N := 61) (ty := tyX12 f) hx hb hts (fun _ h9 => List.mem_cons_of_mem _ (List.mem_append_right _ h9)) tyX12 tyX12_ok nmX12 hown hK1 hP1 hD1 hS1 0 (a := ad 0) (fs := mq_fs (va_up ad f q) ds) (by simp [va_up, Ne.symm h0]) rfl f hf (hts _ hlk) (fun _ h9 => h9) hfin hini hdecl (tyX12_ok f hf) (hnr q).1 (hnr q).2 (by rw [mq_fs_len]; exact hf) hdp (fun H2 locs2 hP2 hD2 hS2 => ?_)
  have e2 : ((va_up ad f q 0, Sum.inr (12, mq_fs (va_up ad f q) ds)) :: (ds ++ [f]).map (fun c => (va_up ad f q c, mq_E (va_up cA f ca) c)) : va_W).set 0 (ad 0, .inr (12, (mq_fs (va_up ad f q) ds).set f (.ref q))) = mq_ws (va_up cA f ca) (va_up ad f q) (ds ++ [f]) := by
    have e3 : va_up ad f q f = q := by simp [va_up]
    have e4 := mq_fs_put (ad := va_up ad f q) (ds := ds) (f := f) (by rw [hkd]; decide)
    rw [e3] at e4
    rw [e4]
    have e5 : va_up ad f q 0 = ad 0 := by simp [va_up, Ne.symm h0]
    rw [mq_ws, e5]; rfl
  rw [e2] at hP2 hD2
  have hK2 : va_K D vwCl (mq_ty (va_up cA f ca) (ds ++ [f])) s := by
    rw [← mq_ty_push hnd, hkd]; exact hK1
  exact kk _ _ H2 locs2 (by simp [va_up, Ne.symm h0]) hK2 hP2 hD2 hS2
set_option maxHeartbeats 1000000 in
theorem mq_step_z {p : Program} {l : Launch} {e : Env} {R : Room} {s : State} {m : MethodId} {args : Array Value} {below : List Frame} {meth : Method} {c : Code} {H : Heap} {locs : List Loc} {k n : Nat} {Q : State → Prop} {D : va_G} {A : Nat → Prop} {cA : Nat → ClassId} {ad : Nat → Nat} {ds : List Nat} {ls : Array Slot} {pc i : Nat} {nn : Int32} (hx : p.tables.exec = Jvm.exec) (hb : c.code = cX12_init) (hts : ∀ w ∈ wsX12_init, w.before args s = true) (hown : s.vm.findClass RX12 = some m.cls) (hini : meth.name = "<init>") (hA : ∀ q, s.heap.size ≤ q → A q) (f : Nat) (hf : f < 61) (hkd : mg_kd f = 4) (hnd : f ∉ ds) (hnn : ¬ nn < 0) (hlen : nn.toNatClampNeg = mg_len f) (hby : mg_len f * 1 ≤ 536870912) (hc1 : k + 1 ≤ R.cells) (hn1 : n + mg_len f ≤ R.slots) (hdn : decode cX12_init pc = .ok (.newarray .boolean, 2)) (hdp : decode cX12_init (pc + 2) = .ok (.putfield i, 3)) (hlk : Cond.fieldLink RX12 i (TX12 f).1 (TX12 f).2.1 (TX12 f).2.2.1 ∈ wsX12_init) (hfin : (TX12 f).2.2.2 = true) (hdecl : (TX12 f).1 = RX12) (hnr : ∀ q : Nat, narrow (tyX12 f) (.ref q) = .ref q ∧ fits (tyX12 f) (.ref q) = true) (hK : va_K D vwCl (mq_ty cA ds) s) (hP : va_P D vwCl (mq_ws cA ad ds) H) (hD : va_D A (mq_ws cA ad ds)) (hS : va_S A s.heap H locs)
    (kk : ∀ (cA2 : Nat → ClassId) (ad2 : Nat → Nat) (H2 : Heap) (locs2 : List Loc), ad2 0 = ad 0 → va_K D vwCl (mq_ty cA2 (ds ++ [f])) s → va_P D vwCl (mq_ws cA2 ad2 (ds ++ [f])) H2 → va_D A (mq_ws cA2 ad2 (ds ++ [f])) → va_S A s.heap H2 locs2 → W p l e R s m args below meth c H2 locs2 (k + 1) (n + mg_len f) Q (F0 m (pc + 2 + 3) ls [])) : W p l e R s m args below meth c H locs k n Q (F0 m pc ls [.int nn, .ref (ad 0)]) := by
  have h0 : f ≠ 0 := fun e0 => by rw [e0] at hkd; cases hkd
  refine va_newa (atype := .boolean) (ty := .boolean) (a0 := (mg_len f, .inl (fun _ => 0))) hx hb (hts (.arrayClass .boolean) (by decide +kernel)) rfl hK hP hD hS hA (fun _ => rfl) hnn hlen hby hc1 hn1 hdn (fun q ca H1 hK1 hP1 hD1 hS1 => ?_)
  have he : mq_E (va_up cA f ca) f = .inl (ca, mg_len f, .inl (fun _ => 0)) := by simp [mq_E, hkd, va_up]
  rw [mq_push hnd h0 he] at hP1 hD1
  refine va_putF (D := D) (ci := 12) (v := .ref q) (C := RX12) (T := TX12) (N := 61) (ty := tyX12 f) hx hb hts (fun _ h9 => List.mem_cons_of_mem _ (List.mem_append_right _ h9)) tyX12 tyX12_ok nmX12 hown hK1 hP1 hD1 hS1 0 (a := ad 0) (fs := mq_fs (va_up ad f q) ds) (by simp [va_up, Ne.symm h0]) rfl f hf (hts _ hlk) (fun _ h9 => h9) hfin hini hdecl (tyX12_ok f hf) (hnr q).1 (hnr q).2 (by rw [mq_fs_len]; exact hf) hdp (fun H2 locs2 hP2 hD2 hS2 => ?_)
  have e2 : ((va_up ad f q 0, Sum.inr (12, mq_fs (va_up ad f q) ds)) :: (ds ++ [f]).map (fun c => (va_up ad f q c, mq_E (va_up cA f ca) c)) : va_W).set 0 (ad 0, .inr (12, (mq_fs (va_up ad f q) ds).set f (.ref q))) = mq_ws (va_up cA f ca) (va_up ad f q) (ds ++ [f]) := by
    have e3 : va_up ad f q f = q := by simp [va_up]
    have e4 := mq_fs_put (ad := va_up ad f q) (ds := ds) (f := f) (by rw [hkd]; decide)
    rw [e3] at e4
    rw [e4]
    have e5 : va_up ad f q 0 = ad 0 := by simp [va_up, Ne.symm h0]
    rw [mq_ws, e5]; rfl
  rw [e2] at hP2 hD2
  have hK2 : va_K D vwCl (mq_ty (va_up cA f ca) (ds ++ [f])) s := by
    rw [← mq_ty_push hnd, hkd]; exact hK1
  exact kk _ _ H2 locs2 (by simp [va_up, Ne.symm h0]) hK2 hP2 hD2 hS2
def rm_init : Room := { frames := 1, cells := 27, slots := 753244, locals := 12 }
theorem nd_init : yX12_init.cls = RX12 ∧ yX12_init.cls ≠ "java/lang/invoke/MethodHandle" ∧ yX12_init.cls ≠ "java/lang/invoke/VarHandle" ∧ (parseMethodDescriptor yX12_init.desc).map (fun d => d.parameters.length) = some 0 := by decide +kernel
def mq_Pre (D : va_G) (q0 sz : Nat) (U : State) : Prop := U.heap.size = sz ∧ va_P D vwCl (mq_ws (fun _ => 0) (fun _ => q0) []) U.heap ∧ va_K D vwCl [] U ∧ va_D (fun _ => True) (mq_ws (fun _ => 0) (fun _ => q0) [])
def mq_A (q0 sz : Nat) : Nat → Prop := va_A (mq_ws (fun _ => 0) (fun _ => q0) []) sz
set_option maxHeartbeats 4000000 in
set_option maxRecDepth 100000 in
theorem met_init (l : Launch) (D : va_G) (q0 sz : Nat) : Met l yX12_init wsX12_init rm_init (va_Pc [.ref q0] (mq_Pre D q0 sz)) (va_Qv (S := (Nat → ClassId) × (Nat → Nat)) (fun u => u.2 0 = q0) (fun u => mg_B D u.1 u.2 (mq_A q0 sz) mq_0) (mq_A q0 sz)) 27 753244 (mq_A q0 sz) := by
  refine Met.ofW (cc := cX12_init) (maxL := 1) (ret := none) (by decide) rfl ?_
  intro p e s m args below meth c s₁ B hml hv
  obtain ⟨rfl, hsz, hP, hK, hD0⟩ := hv
  have hx := B.exec
  have hb := B.bytes
  have hr := B.returns
  have hts := atoms_spec (ws := wsX12_init) B.pre
  have hown : s.vm.findClass RX12 = some m.cls := findClass_of_methodNamed B.named
  have hlocks := B.notSynchronized
  have hini : meth.name = "<init>" := (name_of_methodNamed B.named B.method).1
  subst hsz
  have hD := hD0.self (sz := s.heap.size)
  generalize hAe : va_A (mq_ws (fun _ => 0) (fun _ => q0) []) s.heap.size = A at hD
  have hA : ∀ q : Nat, s.heap.size ≤ q → A q := fun q h => by rw [← hAe]; exact Or.inr h
  have hAe2 : mq_A q0 s.heap.size = A := hAe
  rw [hAe2]
  have hS : va_S A s.heap s.heap [] := va_S.rf
  have hl := lv_entry ([.ref q0]) (n := 1) (Nat.le_of_ble_eq_true rfl)
  rw [lg_entry_eq]
  generalize (lg_sl ([.ref q0]) ++ List.replicate (1 - (lg_sl ([.ref q0])).length) Slot.unset).toArray = ls at hl ⊢
  have hl : lv_has ls 1 [(0, .ref q0)] := hl
  obtain ⟨ad, had⟩ : ∃ ad : Nat → Nat, ad = fun _ => q0 := ⟨_, rfl⟩
  obtain ⟨cA, hcA⟩ : ∃ cA : Nat → ClassId, cA = fun _ => 0 := ⟨_, rfl⟩
  have had0 : ad 0 = q0 := by rw [had]
  rw [← had, ← hcA] at hP hD
  have hK : va_K D vwCl (mq_ty cA []) s := hK
  rw [← had0] at hl
  refine lv_aload_n hx hb dX12_init_0 rfl (lv_at hl 0 rfl) ?_
  refine W.objInit hx hb hown (hts _ (List.mem_of_getElem? (i := 1) rfl)) (hts _ (List.mem_of_getElem? (i := 2) rfl)) (hts _ (List.mem_of_getElem? (i := 3) rfl)) rfl (by rw [hml]; exact hl.1) rfl dX12_init_1 (Nat.le_of_ble_eq_true rfl) (Nat.le_of_ble_eq_true rfl) ?_
  refine W.eq (g2 := F0 m 4 ls []) rfl ?_
  refine lv_aload_n (pc := 4) hx hb dX12_init_4 rfl (lv_at hl 0 rfl) ?_
  refine lv_sipush (pc := 5) (v := 2400) hx hb dX12_init_5 (by decide) ?_
  refine mq_step_b (pc := 8) (k := 0) (n := 0) hx hb hts hown hini hA 1 (by decide) rfl (by decide) (by decide) (by decide) (by decide) (Nat.le_of_ble_eq_true rfl) (Nat.le_of_ble_eq_true rfl) dX12_init_8 dX12_init_10 (List.mem_of_getElem? (i := 5) rfl) rfl rfl (fun _ => ⟨rfl, rfl⟩) hK hP hD hS (fun cA ad2 H locs had1 hK hP hD hS => ?_)
  rw [← had1] at hl
  have had0 := had1.trans had0
  clear had1
  obtain ⟨ad, ead⟩ : ∃ ad : Nat → Nat, ad = ad2 := ⟨_, rfl⟩
  rw [← ead] at hl had0 hP hD
  have hK : va_K D vwCl (mq_ty cA [1]) s := hK
  have hP : va_P D vwCl (mq_ws cA ad [1]) H := hP
  have hD : va_D A (mq_ws cA ad [1]) := hD
  refine W.widen (k := 1) (n := 2400) (Nat.le_of_ble_eq_true rfl) (Nat.le_of_ble_eq_true rfl) ?_
  refine lv_aload_n (pc := 13) hx hb dX12_init_13 rfl (lv_at hl 0 rfl) ?_
  refine lv_iconst (pc := 14) (v := 4) hx hb dX12_init_14 (by decide) ?_
  refine mq_step_i (pc := 15) (k := 1) (n := 2400) hx hb hts hown hini hA 2 (by decide) rfl (by decide) (by decide) (by decide) (by decide) (Nat.le_of_ble_eq_true rfl) (Nat.le_of_ble_eq_true rfl) dX12_init_15 dX12_init_17 (List.mem_of_getElem? (i := 7) rfl) rfl rfl (fun _ => ⟨rfl, rfl⟩) hK hP hD hS (fun cA ad2 H locs had1 hK hP hD hS => ?_)
  rw [← had1] at hl
  have had0 := had1.trans had0
  clear had1
  obtain ⟨ad, ead⟩ : ∃ ad : Nat → Nat, ad = ad2 := ⟨_, rfl⟩
  rw [← ead] at hl had0 hP hD
  have hK : va_K D vwCl (mq_ty cA [1, 2]) s := hK
  have hP : va_P D vwCl (mq_ws cA ad [1, 2]) H := hP
  have hD : va_D A (mq_ws cA ad [1, 2]) := hD
  refine W.widen (k := 2) (n := 2404) (Nat.le_of_ble_eq_true rfl) (Nat.le_of_ble_eq_true rfl) ?_
  refine lv_aload_n (pc := 20) hx hb dX12_init_20 rfl (lv_at hl 0 rfl) ?_
  refine lv_iconst (pc := 21) (v := 4) hx hb dX12_init_21 (by decide) ?_
  refine mq_step_i (pc := 22) (k := 2) (n := 2404) hx hb hts hown hini hA 3 (by decide) rfl (by decide) (by decide) (by decide) (by decide) (Nat.le_of_ble_eq_true rfl) (Nat.le_of_ble_eq_true rfl) dX12_init_22 dX12_init_24 (List.mem_of_getElem? (i := 8) rfl) rfl rfl (fun _ => ⟨rfl, rfl⟩) hK hP hD hS (fun cA ad2 H locs had1 hK hP hD hS => ?_)
  rw [← had1] at hl
  have had0 := had1.trans had0
  clear had1
  obtain ⟨ad, ead⟩ : ∃ ad : Nat → Nat, ad = ad2 := ⟨_, rfl⟩
  rw [← ead] at hl had0 hP hD
  have hK : va_K D vwCl (mq_ty cA [1, 2, 3]) s := hK
  have hP : va_P D vwCl (mq_ws cA ad [1, 2, 3]) H := hP
  have hD : va_D A (mq_ws cA ad [1, 2, 3]) := hD
  refine W.widen (k := 3) (n := 2408) (Nat.le_of_ble_eq_true rfl) (Nat.le_of_ble_eq_true rfl) ?_
  refine lv_aload_n (pc := 27) hx hb dX12_init_27 rfl (lv_at hl 0 rfl) ?_
  refine lv_iconst (pc := 28) (v := 4) hx hb dX12_init_28 (by decide) ?_
  refine mq_step_i (pc := 29) (k := 3) (n := 2408) hx hb hts hown hini hA 4 (by decide) rfl (by decide) (by decide) (by decide) (by decide) (Nat.le_of_ble_eq_true rfl) (Nat.le_of_ble_eq_true rfl) dX12_init_29 dX12_init_31 (List.mem_of_getElem? (i := 9) rfl) rfl rfl (fun _ => ⟨rfl, rfl⟩) hK hP hD hS (fun cA ad2 H locs had1 hK hP hD hS => ?_)
  rw [← had1] at hl
  have had0 := had1.trans had0
  clear had1
  obtain ⟨ad, ead⟩ : ∃ ad : Nat → Nat, ad = ad2 := ⟨_, rfl⟩
  rw [← ead] at hl had0 hP hD
  have hK : va_K D vwCl (mq_ty cA [1, 2, 3, 4]) s := hK
  have hP : va_P D vwCl (mq_ws cA ad [1, 2, 3, 4]) H := hP
  have hD : va_D A (mq_ws cA ad [1, 2, 3, 4]) := hD
  refine W.widen (k := 4) (n := 2412) (Nat.le_of_ble_eq_true rfl) (Nat.le_of_ble_eq_true rfl) ?_
  refine lv_aload_n (pc := 34) hx hb dX12_init_34 rfl (lv_at hl 0 rfl) ?_
  refine lv_bipush (pc := 35) (v := 16) hx hb dX12_init_35 (by decide) ?_
  refine mq_step_i (pc := 37) (k := 4) (n := 2412) hx hb hts hown hini hA 5 (by decide) rfl (by decide) (by decide) (by decide) (by decide) (Nat.le_of_ble_eq_true rfl) (Nat.le_of_ble_eq_true rfl) dX12_init_37 dX12_init_39 (List.mem_of_getElem? (i := 10) rfl) rfl rfl (fun _ => ⟨rfl, rfl⟩) hK hP hD hS (fun cA ad2 H locs had1 hK hP hD hS => ?_)
  rw [← had1] at hl
  have had0 := had1.trans had0
  clear had1
  obtain ⟨ad, ead⟩ : ∃ ad : Nat → Nat, ad = ad2 := ⟨_, rfl⟩
  rw [← ead] at hl had0 hP hD
  have hK : va_K D vwCl (mq_ty cA [1, 2, 3, 4, 5]) s := hK
  have hP : va_P D vwCl (mq_ws cA ad [1, 2, 3, 4, 5]) H := hP
  have hD : va_D A (mq_ws cA ad [1, 2, 3, 4, 5]) := hD
  refine W.widen (k := 5) (n := 2428) (Nat.le_of_ble_eq_true rfl) (Nat.le_of_ble_eq_true rfl) ?_
  refine lv_aload_n (pc := 42) hx hb dX12_init_42 rfl (lv_at hl 0 rfl) ?_
  refine lv_bipush (pc := 43) (v := 104) hx hb dX12_init_43 (by decide) ?_
  refine mq_step_i (pc := 45) (k := 5) (n := 2428) hx hb hts hown hini hA 6 (by decide) rfl (by decide) (by decide) (by decide) (by decide) (Nat.le_of_ble_eq_true rfl) (Nat.le_of_ble_eq_true rfl) dX12_init_45 dX12_init_47 (List.mem_of_getElem? (i := 11) rfl) rfl rfl (fun _ => ⟨rfl, rfl⟩) hK hP hD hS (fun cA ad2 H locs had1 hK hP hD hS => ?_)
  rw [← had1] at hl
  have had0 := had1.trans had0
  clear had1
  obtain ⟨ad, ead⟩ : ∃ ad : Nat → Nat, ad = ad2 := ⟨_, rfl⟩
  rw [← ead] at hl had0 hP hD
  have hK : va_K D vwCl (mq_ty cA [1, 2, 3, 4, 5, 6]) s := hK
  have hP : va_P D vwCl (mq_ws cA ad [1, 2, 3, 4, 5, 6]) H := hP
  have hD : va_D A (mq_ws cA ad [1, 2, 3, 4, 5, 6]) := hD
  refine W.widen (k := 6) (n := 2532) (Nat.le_of_ble_eq_true rfl) (Nat.le_of_ble_eq_true rfl) ?_
  refine lv_aload_n (pc := 50) hx hb dX12_init_50 rfl (lv_at hl 0 rfl) ?_
  refine lv_sipush (pc := 51) (v := 648) hx hb dX12_init_51 (by decide) ?_
  refine mq_step_i (pc := 54) (k := 6) (n := 2532) hx hb hts hown hini hA 7 (by decide) rfl (by decide) (by decide) (by decide) (by decide) (Nat.le_of_ble_eq_true rfl) (Nat.le_of_ble_eq_true rfl) dX12_init_54 dX12_init_56 (List.mem_of_getElem? (i := 12) rfl) rfl rfl (fun _ => ⟨rfl, rfl⟩) hK hP hD hS (fun cA ad2 H locs had1 hK hP hD hS => ?_)
  rw [← had1] at hl
  have had0 := had1.trans had0
  clear had1
  obtain ⟨ad, ead⟩ : ∃ ad : Nat → Nat, ad = ad2 := ⟨_, rfl⟩
  rw [← ead] at hl had0 hP hD
  have hK : va_K D vwCl (mq_ty cA [1, 2, 3, 4, 5, 6, 7]) s := hK
  have hP : va_P D vwCl (mq_ws cA ad [1, 2, 3, 4, 5, 6, 7]) H := hP
  have hD : va_D A (mq_ws cA ad [1, 2, 3, 4, 5, 6, 7]) := hD
  refine W.widen (k := 7) (n := 3180) (Nat.le_of_ble_eq_true rfl) (Nat.le_of_ble_eq_true rfl) ?_
  refine lv_aload_n (pc := 59) hx hb dX12_init_59 rfl (lv_at hl 0 rfl) ?_
  refine lv_sipush (pc := 60) (v := 136) hx hb dX12_init_60 (by decide) ?_
  refine mq_step_i (pc := 63) (k := 7) (n := 3180) hx hb hts hown hini hA 8 (by decide) rfl (by decide) (by decide) (by decide) (by decide) (Nat.le_of_ble_eq_true rfl) (Nat.le_of_ble_eq_true rfl) dX12_init_63 dX12_init_65 (List.mem_of_getElem? (i := 13) rfl) rfl rfl (fun _ => ⟨rfl, rfl⟩) hK hP hD hS (fun cA ad2 H locs had1 hK hP hD hS => ?_)
  rw [← had1] at hl
  have had0 := had1.trans had0
  clear had1
  obtain ⟨ad, ead⟩ : ∃ ad : Nat → Nat, ad = ad2 := ⟨_, rfl⟩
  rw [← ead] at hl had0 hP hD
  have hK : va_K D vwCl (mq_ty cA [1, 2, 3, 4, 5, 6, 7, 8]) s := hK
  have hP : va_P D vwCl (mq_ws cA ad [1, 2, 3, 4, 5, 6, 7, 8]) H := hP
  have hD : va_D A (mq_ws cA ad [1, 2, 3, 4, 5, 6, 7, 8]) := hD
  refine W.widen (k := 8) (n := 3316) (Nat.le_of_ble_eq_true rfl) (Nat.le_of_ble_eq_true rfl) ?_
  refine lv_aload_n (pc := 68) hx hb dX12_init_68 rfl (lv_at hl 0 rfl) ?_
  refine lv_bipush (pc := 69) (v := 56) hx hb dX12_init_69 (by decide) ?_
  refine mq_step_i (pc := 71) (k := 8) (n := 3316) hx hb hts hown hini hA 9 (by decide) rfl (by decide) (by decide) (by decide) (by decide) (Nat.le_of_ble_eq_true rfl) (Nat.le_of_ble_eq_true rfl) dX12_init_71 dX12_init_73 (List.mem_of_getElem? (i := 14) rfl) rfl rfl (fun _ => ⟨rfl, rfl⟩) hK hP hD hS (fun cA ad2 H locs had1 hK hP hD hS => ?_)
  rw [← had1] at hl
  have had0 := had1.trans had0
  clear had1
  obtain ⟨ad, ead⟩ : ∃ ad : Nat → Nat, ad = ad2 := ⟨_, rfl⟩
  rw [← ead] at hl had0 hP hD
  have hK : va_K D vwCl (mq_ty cA [1, 2, 3, 4, 5, 6, 7, 8, 9]) s := hK
  have hP : va_P D vwCl (mq_ws cA ad [1, 2, 3, 4, 5, 6, 7, 8, 9]) H := hP
  have hD : va_D A (mq_ws cA ad [1, 2, 3, 4, 5, 6, 7, 8, 9]) := hD
  refine W.widen (k := 9) (n := 3372) (Nat.le_of_ble_eq_true rfl) (Nat.le_of_ble_eq_true rfl) ?_
  refine lv_aload_n (pc := 76) hx hb dX12_init_76 rfl (lv_at hl 0 rfl) ?_
  refine lv_bipush (pc := 77) (v := 81) hx hb dX12_init_77 (by decide) ?_
  refine mq_step_i (pc := 79) (k := 9) (n := 3372) hx hb hts hown hini hA 19 (by decide) rfl (by decide) (by decide) (by decide) (by decide) (Nat.le_of_ble_eq_true rfl) (Nat.le_of_ble_eq_true rfl) dX12_init_79 dX12_init_81 (List.mem_of_getElem? (i := 15) rfl) rfl rfl (fun _ => ⟨rfl, rfl⟩) hK hP hD hS (fun cA ad2 H locs had1 hK hP hD hS => ?_)
  rw [← had1] at hl
  have had0 := had1.trans had0
  clear had1
  obtain ⟨ad, ead⟩ : ∃ ad : Nat → Nat, ad = ad2 := ⟨_, rfl⟩
  rw [← ead] at hl had0 hP hD
  have hK : va_K D vwCl (mq_ty cA [1, 2, 3, 4, 5, 6, 7, 8, 9, 19]) s := hK
  have hP : va_P D vwCl (mq_ws cA ad [1, 2, 3, 4, 5, 6, 7, 8, 9, 19]) H := hP
  have hD : va_D A (mq_ws cA ad [1, 2, 3, 4, 5, 6, 7, 8, 9, 19]) := hD
  refine W.widen (k := 10) (n := 3453) (Nat.le_of_ble_eq_true rfl) (Nat.le_of_ble_eq_true rfl) ?_
  refine lv_aload_n (pc := 84) hx hb dX12_init_84 rfl (lv_at hl 0 rfl) ?_
  refine lv_iconst (pc := 85) (v := 2) hx hb dX12_init_85 (by decide) ?_
  refine mq_step_i (pc := 86) (k := 10) (n := 3453) hx hb hts hown hini hA 20 (by decide) rfl (by decide) (by decide) (by decide) (by decide) (Nat.le_of_ble_eq_true rfl) (Nat.le_of_ble_eq_true rfl) dX12_init_86 dX12_init_88 (List.mem_of_getElem? (i := 16) rfl) rfl rfl (fun _ => ⟨rfl, rfl⟩) hK hP hD hS (fun cA ad2 H locs had1 hK hP hD hS => ?_)
  rw [← had1] at hl
  have had0 := had1.trans had0
  clear had1
  obtain ⟨ad, ead⟩ : ∃ ad : Nat → Nat, ad = ad2 := ⟨_, rfl⟩
  rw [← ead] at hl had0 hP hD
  have hK : va_K D vwCl (mq_ty cA [1, 2, 3, 4, 5, 6, 7, 8, 9, 19, 20]) s := hK
  have hP : va_P D vwCl (mq_ws cA ad [1, 2, 3, 4, 5, 6, 7, 8, 9, 19, 20]) H := hP
  have hD : va_D A (mq_ws cA ad [1, 2, 3, 4, 5, 6, 7, 8, 9, 19, 20]) := hD
  refine W.widen (k := 11) (n := 3455) (Nat.le_of_ble_eq_true rfl) (Nat.le_of_ble_eq_true rfl) ?_
  refine lv_aload_n (pc := 91) hx hb dX12_init_91 rfl (lv_at hl 0 rfl) ?_
  refine lv_iconst (pc := 92) (v := 4) hx hb dX12_init_92 (by decide) ?_
  refine mq_step_i (pc := 93) (k := 11) (n := 3455) hx hb hts hown hini hA 27 (by decide) rfl (by decide) (by decide) (by decide) (by decide) (Nat.le_of_ble_eq_true rfl) (Nat.le_of_ble_eq_true rfl) dX12_init_93 dX12_init_95 (List.mem_of_getElem? (i := 17) rfl) rfl rfl (fun _ => ⟨rfl, rfl⟩) hK hP hD hS (fun cA ad2 H locs had1 hK hP hD hS => ?_)
  rw [← had1] at hl
  have had0 := had1.trans had0
  clear had1
  obtain ⟨ad, ead⟩ : ∃ ad : Nat → Nat, ad = ad2 := ⟨_, rfl⟩
  rw [← ead] at hl had0 hP hD
  have hK : va_K D vwCl (mq_ty cA [1, 2, 3, 4, 5, 6, 7, 8, 9, 19, 20, 27]) s := hK
  have hP : va_P D vwCl (mq_ws cA ad [1, 2, 3, 4, 5, 6, 7, 8, 9, 19, 20, 27]) H := hP
  have hD : va_D A (mq_ws cA ad [1, 2, 3, 4, 5, 6, 7, 8, 9, 19, 20, 27]) := hD
  refine W.widen (k := 12) (n := 3459) (Nat.le_of_ble_eq_true rfl) (Nat.le_of_ble_eq_true rfl) ?_
  refine lv_aload_n (pc := 98) hx hb dX12_init_98 rfl (lv_at hl 0 rfl) ?_
  refine lv_iconst (pc := 99) (v := 4) hx hb dX12_init_99 (by decide) ?_
  refine mq_step_i (pc := 100) (k := 12) (n := 3459) hx hb hts hown hini hA 28 (by decide) rfl (by decide) (by decide) (by decide) (by decide) (Nat.le_of_ble_eq_true rfl) (Nat.le_of_ble_eq_true rfl) dX12_init_100 dX12_init_102 (List.mem_of_getElem? (i := 18) rfl) rfl rfl (fun _ => ⟨rfl, rfl⟩) hK hP hD hS (fun cA ad2 H locs had1 hK hP hD hS => ?_)
  rw [← had1] at hl
  have had0 := had1.trans had0
  clear had1
  obtain ⟨ad, ead⟩ : ∃ ad : Nat → Nat, ad = ad2 := ⟨_, rfl⟩
  rw [← ead] at hl had0 hP hD
  have hK : va_K D vwCl (mq_ty cA [1, 2, 3, 4, 5, 6, 7, 8, 9, 19, 20, 27, 28]) s := hK
  have hP : va_P D vwCl (mq_ws cA ad [1, 2, 3, 4, 5, 6, 7, 8, 9, 19, 20, 27, 28]) H := hP
  have hD : va_D A (mq_ws cA ad [1, 2, 3, 4, 5, 6, 7, 8, 9, 19, 20, 27, 28]) := hD
  refine W.widen (k := 13) (n := 3463) (Nat.le_of_ble_eq_true rfl) (Nat.le_of_ble_eq_true rfl) ?_
  refine lv_aload_n (pc := 105) hx hb dX12_init_105 rfl (lv_at hl 0 rfl) ?_
  refine lv_iconst (pc := 106) (v := 4) hx hb dX12_init_106 (by decide) ?_
  refine mq_step_i (pc := 107) (k := 13) (n := 3463) hx hb hts hown hini hA 37 (by decide) rfl (by decide) (by decide) (by decide) (by decide) (Nat.le_of_ble_eq_true rfl) (Nat.le_of_ble_eq_true rfl) dX12_init_107 dX12_init_109 (List.mem_of_getElem? (i := 19) rfl) rfl rfl (fun _ => ⟨rfl, rfl⟩) hK hP hD hS (fun cA ad2 H locs had1 hK hP hD hS => ?_)
  rw [← had1] at hl
  have had0 := had1.trans had0
  clear had1
  obtain ⟨ad, ead⟩ : ∃ ad : Nat → Nat, ad = ad2 := ⟨_, rfl⟩
  rw [← ead] at hl had0 hP hD
  have hK : va_K D vwCl (mq_ty cA [1, 2, 3, 4, 5, 6, 7, 8, 9, 19, 20, 27, 28, 37]) s := hK
  have hP : va_P D vwCl (mq_ws cA ad [1, 2, 3, 4, 5, 6, 7, 8, 9, 19, 20, 27, 28, 37]) H := hP
  have hD : va_D A (mq_ws cA ad [1, 2, 3, 4, 5, 6, 7, 8, 9, 19, 20, 27, 28, 37]) := hD
  refine W.widen (k := 14) (n := 3467) (Nat.le_of_ble_eq_true rfl) (Nat.le_of_ble_eq_true rfl) ?_
  refine lv_aload_n (pc := 112) hx hb dX12_init_112 rfl (lv_at hl 0 rfl) ?_
  refine lv_bipush (pc := 113) (v := 100) hx hb dX12_init_113 (by decide) ?_
  refine mq_step_i (pc := 115) (k := 14) (n := 3467) hx hb hts hown hini hA 38 (by decide) rfl (by decide) (by decide) (by decide) (by decide) (Nat.le_of_ble_eq_true rfl) (Nat.le_of_ble_eq_true rfl) dX12_init_115 dX12_init_117 (List.mem_of_getElem? (i := 20) rfl) rfl rfl (fun _ => ⟨rfl, rfl⟩) hK hP hD hS (fun cA ad2 H locs had1 hK hP hD hS => ?_)
  rw [← had1] at hl
  have had0 := had1.trans had0
  clear had1
  obtain ⟨ad, ead⟩ : ∃ ad : Nat → Nat, ad = ad2 := ⟨_, rfl⟩
  rw [← ead] at hl had0 hP hD
  have hK : va_K D vwCl (mq_ty cA [1, 2, 3, 4, 5, 6, 7, 8, 9, 19, 20, 27, 28, 37, 38]) s := hK
  have hP : va_P D vwCl (mq_ws cA ad [1, 2, 3, 4, 5, 6, 7, 8, 9, 19, 20, 27, 28, 37, 38]) H := hP
  have hD : va_D A (mq_ws cA ad [1, 2, 3, 4, 5, 6, 7, 8, 9, 19, 20, 27, 28, 37, 38]) := hD
  refine W.widen (k := 15) (n := 3567) (Nat.le_of_ble_eq_true rfl) (Nat.le_of_ble_eq_true rfl) ?_
  refine lv_aload_n (pc := 120) hx hb dX12_init_120 rfl (lv_at hl 0 rfl) ?_
  refine lv_ldc (pc := 121) (v := 126976) hx hb hown (hts _ (List.mem_of_getElem? (i := 21) rfl)) dX12_init_121 ?_
  refine mq_step_i (pc := 123) (k := 15) (n := 3567) hx hb hts hown hini hA 40 (by decide) rfl (by decide) (by decide) (by decide) (by decide) (Nat.le_of_ble_eq_true rfl) (Nat.le_of_ble_eq_true rfl) dX12_init_123 dX12_init_125 (List.mem_of_getElem? (i := 22) rfl) rfl rfl (fun _ => ⟨rfl, rfl⟩) hK hP hD hS (fun cA ad2 H locs had1 hK hP hD hS => ?_)
  rw [← had1] at hl
  have had0 := had1.trans had0
  clear had1
  obtain ⟨ad, ead⟩ : ∃ ad : Nat → Nat, ad = ad2 := ⟨_, rfl⟩
  rw [← ead] at hl had0 hP hD
  have hK : va_K D vwCl (mq_ty cA [1, 2, 3, 4, 5, 6, 7, 8, 9, 19, 20, 27, 28, 37, 38, 40]) s := hK
  have hP : va_P D vwCl (mq_ws cA ad [1, 2, 3, 4, 5, 6, 7, 8, 9, 19, 20, 27, 28, 37, 38, 40]) H := hP
  have hD : va_D A (mq_ws cA ad [1, 2, 3, 4, 5, 6, 7, 8, 9, 19, 20, 27, 28, 37, 38, 40]) := hD
  refine W.widen (k := 16) (n := 130543) (Nat.le_of_ble_eq_true rfl) (Nat.le_of_ble_eq_true rfl) ?_
  refine lv_aload_n (pc := 128) hx hb dX12_init_128 rfl (lv_at hl 0 rfl) ?_
  refine lv_bipush (pc := 129) (v := 30) hx hb dX12_init_129 (by decide) ?_
  refine mq_step_i (pc := 131) (k := 16) (n := 130543) hx hb hts hown hini hA 41 (by decide) rfl (by decide) (by decide) (by decide) (by decide) (Nat.le_of_ble_eq_true rfl) (Nat.le_of_ble_eq_true rfl) dX12_init_131 dX12_init_133 (List.mem_of_getElem? (i := 23) rfl) rfl rfl (fun _ => ⟨rfl, rfl⟩) hK hP hD hS (fun cA ad2 H locs had1 hK hP hD hS => ?_)
  rw [← had1] at hl
  have had0 := had1.trans had0
  clear had1
  obtain ⟨ad, ead⟩ : ∃ ad : Nat → Nat, ad = ad2 := ⟨_, rfl⟩
  rw [← ead] at hl had0 hP hD
  have hK : va_K D vwCl (mq_ty cA [1, 2, 3, 4, 5, 6, 7, 8, 9, 19, 20, 27, 28, 37, 38, 40, 41]) s := hK
  have hP : va_P D vwCl (mq_ws cA ad [1, 2, 3, 4, 5, 6, 7, 8, 9, 19, 20, 27, 28, 37, 38, 40, 41]) H := hP
  have hD : va_D A (mq_ws cA ad [1, 2, 3, 4, 5, 6, 7, 8, 9, 19, 20, 27, 28, 37, 38, 40, 41]) := hD
  refine W.widen (k := 17) (n := 130573) (Nat.le_of_ble_eq_true rfl) (Nat.le_of_ble_eq_true rfl) ?_
  refine lv_aload_n (pc := 136) hx hb dX12_init_136 rfl (lv_at hl 0 rfl) ?_
  refine lv_bipush (pc := 137) (v := 30) hx hb dX12_init_137 (by decide) ?_
  refine mq_step_i (pc := 139) (k := 17) (n := 130573) hx hb hts hown hini hA 42 (by decide) rfl (by decide) (by decide) (by decide) (by decide) (Nat.le_of_ble_eq_true rfl) (Nat.le_of_ble_eq_true rfl) dX12_init_139 dX12_init_141 (List.mem_of_getElem? (i := 24) rfl) rfl rfl (fun _ => ⟨rfl, rfl⟩) hK hP hD hS (fun cA ad2 H locs had1 hK hP hD hS => ?_)
  rw [← had1] at hl
  have had0 := had1.trans had0
  clear had1
  obtain ⟨ad, ead⟩ : ∃ ad : Nat → Nat, ad = ad2 := ⟨_, rfl⟩
  rw [← ead] at hl had0 hP hD
  have hK : va_K D vwCl (mq_ty cA [1, 2, 3, 4, 5, 6, 7, 8, 9, 19, 20, 27, 28, 37, 38, 40, 41, 42]) s := hK
  have hP : va_P D vwCl (mq_ws cA ad [1, 2, 3, 4, 5, 6, 7, 8, 9, 19, 20, 27, 28, 37, 38, 40, 41, 42]) H := hP
  have hD : va_D A (mq_ws cA ad [1, 2, 3, 4, 5, 6, 7, 8, 9, 19, 20, 27, 28, 37, 38, 40, 41, 42]) := hD
  refine W.widen (k := 18) (n := 130603) (Nat.le_of_ble_eq_true rfl) (Nat.le_of_ble_eq_true rfl) ?_
  refine lv_aload_n (pc := 144) hx hb dX12_init_144 rfl (lv_at hl 0 rfl) ?_
  refine lv_ldc (pc := 145) (v := 126976) hx hb hown (hts _ (List.mem_of_getElem? (i := 21) rfl)) dX12_init_145 ?_
  refine mq_step_i (pc := 147) (k := 18) (n := 130603) hx hb hts hown hini hA 44 (by decide) rfl (by decide) (by decide) (by decide) (by decide) (Nat.le_of_ble_eq_true rfl) (Nat.le_of_ble_eq_true rfl) dX12_init_147 dX12_init_149 (List.mem_of_getElem? (i := 25) rfl) rfl rfl (fun _ => ⟨rfl, rfl⟩) hK hP hD hS (fun cA ad2 H locs had1 hK hP hD hS => ?_)
  rw [← had1] at hl
  have had0 := had1.trans had0
  clear had1
  obtain ⟨ad, ead⟩ : ∃ ad : Nat → Nat, ad = ad2 := ⟨_, rfl⟩
  rw [← ead] at hl had0 hP hD
  have hK : va_K D vwCl (mq_ty cA [1, 2, 3, 4, 5, 6, 7, 8, 9, 19, 20, 27, 28, 37, 38, 40, 41, 42, 44]) s := hK
  have hP : va_P D vwCl (mq_ws cA ad [1, 2, 3, 4, 5, 6, 7, 8, 9, 19, 20, 27, 28, 37, 38, 40, 41, 42, 44]) H := hP
  have hD : va_D A (mq_ws cA ad [1, 2, 3, 4, 5, 6, 7, 8, 9, 19, 20, 27, 28, 37, 38, 40, 41, 42, 44]) := hD
  refine W.widen (k := 19) (n := 257579) (Nat.le_of_ble_eq_true rfl) (Nat.le_of_ble_eq_true rfl) ?_
  refine lv_aload_n (pc := 152) hx hb dX12_init_152 rfl (lv_at hl 0 rfl) ?_
  refine lv_ldc (pc := 153) (v := 376832) hx hb hown (hts _ (List.mem_of_getElem? (i := 26) rfl)) dX12_init_153 ?_
  refine mq_step_i (pc := 155) (k := 19) (n := 257579) hx hb hts hown hini hA 46 (by decide) rfl (by decide) (by decide) (by decide) (by decide) (Nat.le_of_ble_eq_true rfl) (Nat.le_of_ble_eq_true rfl) dX12_init_155 dX12_init_157 (List.mem_of_getElem? (i := 27) rfl) rfl rfl (fun _ => ⟨rfl, rfl⟩) hK hP hD hS (fun cA ad2 H locs had1 hK hP hD hS => ?_)
  rw [← had1] at hl
  have had0 := had1.trans had0
  clear had1
  obtain ⟨ad, ead⟩ : ∃ ad : Nat → Nat, ad = ad2 := ⟨_, rfl⟩
  rw [← ead] at hl had0 hP hD
  have hK : va_K D vwCl (mq_ty cA [1, 2, 3, 4, 5, 6, 7, 8, 9, 19, 20, 27, 28, 37, 38, 40, 41, 42, 44, 46]) s := hK
  have hP : va_P D vwCl (mq_ws cA ad [1, 2, 3, 4, 5, 6, 7, 8, 9, 19, 20, 27, 28, 37, 38, 40, 41, 42, 44, 46]) H := hP
  have hD : va_D A (mq_ws cA ad [1, 2, 3, 4, 5, 6, 7, 8, 9, 19, 20, 27, 28, 37, 38, 40, 41, 42, 44, 46]) := hD
  refine W.widen (k := 20) (n := 634411) (Nat.le_of_ble_eq_true rfl) (Nat.le_of_ble_eq_true rfl) ?_
  refine lv_aload_n (pc := 160) hx hb dX12_init_160 rfl (lv_at hl 0 rfl) ?_
  refine lv_sipush (pc := 161) (v := 4096) hx hb dX12_init_161 (by decide) ?_
  refine mq_step_i (pc := 164) (k := 20) (n := 634411) hx hb hts hown hini hA 47 (by decide) rfl (by decide) (by decide) (by decide) (by decide) (Nat.le_of_ble_eq_true rfl) (Nat.le_of_ble_eq_true rfl) dX12_init_164 dX12_init_166 (List.mem_of_getElem? (i := 28) rfl) rfl rfl (fun _ => ⟨rfl, rfl⟩) hK hP hD hS (fun cA ad2 H locs had1 hK hP hD hS => ?_)
  rw [← had1] at hl
  have had0 := had1.trans had0
  clear had1
  obtain ⟨ad, ead⟩ : ∃ ad : Nat → Nat, ad = ad2 := ⟨_, rfl⟩
  rw [← ead] at hl had0 hP hD
  have hK : va_K D vwCl (mq_ty cA [1, 2, 3, 4, 5, 6, 7, 8, 9, 19, 20, 27, 28, 37, 38, 40, 41, 42, 44, 46, 47]) s := hK
  have hP : va_P D vwCl (mq_ws cA ad [1, 2, 3, 4, 5, 6, 7, 8, 9, 19, 20, 27, 28, 37, 38, 40, 41, 42, 44, 46, 47]) H := hP
  have hD : va_D A (mq_ws cA ad [1, 2, 3, 4, 5, 6, 7, 8, 9, 19, 20, 27, 28, 37, 38, 40, 41, 42, 44, 46, 47]) := hD
  refine W.widen (k := 21) (n := 638507) (Nat.le_of_ble_eq_true rfl) (Nat.le_of_ble_eq_true rfl) ?_
  refine lv_aload_n (pc := 169) hx hb dX12_init_169 rfl (lv_at hl 0 rfl) ?_
  refine lv_sipush (pc := 170) (v := 4097) hx hb dX12_init_170 (by decide) ?_
  refine mq_step_i (pc := 173) (k := 21) (n := 638507) hx hb hts hown hini hA 48 (by decide) rfl (by decide) (by decide) (by decide) (by decide) (Nat.le_of_ble_eq_true rfl) (Nat.le_of_ble_eq_true rfl) dX12_init_173 dX12_init_175 (List.mem_of_getElem? (i := 29) rfl) rfl rfl (fun _ => ⟨rfl, rfl⟩) hK hP hD hS (fun cA ad2 H locs had1 hK hP hD hS => ?_)
  rw [← had1] at hl
  have had0 := had1.trans had0
  clear had1
  obtain ⟨ad, ead⟩ : ∃ ad : Nat → Nat, ad = ad2 := ⟨_, rfl⟩
  rw [← ead] at hl had0 hP hD
  have hK : va_K D vwCl (mq_ty cA [1, 2, 3, 4, 5, 6, 7, 8, 9, 19, 20, 27, 28, 37, 38, 40, 41, 42, 44, 46, 47, 48]) s := hK
  have hP : va_P D vwCl (mq_ws cA ad [1, 2, 3, 4, 5, 6, 7, 8, 9, 19, 20, 27, 28, 37, 38, 40, 41, 42, 44, 46, 47, 48]) H := hP
  have hD : va_D A (mq_ws cA ad [1, 2, 3, 4, 5, 6, 7, 8, 9, 19, 20, 27, 28, 37, 38, 40, 41, 42, 44, 46, 47, 48]) := hD
  refine W.widen (k := 22) (n := 642604) (Nat.le_of_ble_eq_true rfl) (Nat.le_of_ble_eq_true rfl) ?_
  refine lv_aload_n (pc := 178) hx hb dX12_init_178 rfl (lv_at hl 0 rfl) ?_
  refine lv_ldc (pc := 179) (v := 45056) hx hb hown (hts _ (List.mem_of_getElem? (i := 30) rfl)) dX12_init_179 ?_
  refine mq_step_l (pc := 181) (k := 22) (n := 642604) hx hb hts hown hini hA 49 (by decide) rfl (by decide) (by decide) (by decide) (by decide) (Nat.le_of_ble_eq_true rfl) (Nat.le_of_ble_eq_true rfl) dX12_init_181 dX12_init_183 (List.mem_of_getElem? (i := 32) rfl) rfl rfl (fun _ => ⟨rfl, rfl⟩) hK hP hD hS (fun cA ad2 H locs had1 hK hP hD hS => ?_)
  rw [← had1] at hl
  have had0 := had1.trans had0
  clear had1
  obtain ⟨ad, ead⟩ : ∃ ad : Nat → Nat, ad = ad2 := ⟨_, rfl⟩
  rw [← ead] at hl had0 hP hD
  have hK : va_K D vwCl (mq_ty cA [1, 2, 3, 4, 5, 6, 7, 8, 9, 19, 20, 27, 28, 37, 38, 40, 41, 42, 44, 46, 47, 48, 49]) s := hK
  have hP : va_P D vwCl (mq_ws cA ad [1, 2, 3, 4, 5, 6, 7, 8, 9, 19, 20, 27, 28, 37, 38, 40, 41, 42, 44, 46, 47, 48, 49]) H := hP
  have hD : va_D A (mq_ws cA ad [1, 2, 3, 4, 5, 6, 7, 8, 9, 19, 20, 27, 28, 37, 38, 40, 41, 42, 44, 46, 47, 48, 49]) := hD
  refine W.widen (k := 23) (n := 687660) (Nat.le_of_ble_eq_true rfl) (Nat.le_of_ble_eq_true rfl) ?_
  refine lv_aload_n (pc := 186) hx hb dX12_init_186 rfl (lv_at hl 0 rfl) ?_
  refine lv_ldc (pc := 187) (v := 65536) hx hb hown (hts _ (List.mem_of_getElem? (i := 33) rfl)) dX12_init_187 ?_
  refine mq_step_i (pc := 189) (k := 23) (n := 687660) hx hb hts hown hini hA 50 (by decide) rfl (by decide) (by decide) (by decide) (by decide) (Nat.le_of_ble_eq_true rfl) (Nat.le_of_ble_eq_true rfl) dX12_init_189 dX12_init_191 (List.mem_of_getElem? (i := 34) rfl) rfl rfl (fun _ => ⟨rfl, rfl⟩) hK hP hD hS (fun cA ad2 H locs had1 hK hP hD hS => ?_)
  rw [← had1] at hl
  have had0 := had1.trans had0
  clear had1
  obtain ⟨ad, ead⟩ : ∃ ad : Nat → Nat, ad = ad2 := ⟨_, rfl⟩
  rw [← ead] at hl had0 hP hD
  have hK : va_K D vwCl (mq_ty cA [1, 2, 3, 4, 5, 6, 7, 8, 9, 19, 20, 27, 28, 37, 38, 40, 41, 42, 44, 46, 47, 48, 49, 50]) s := hK
  have hP : va_P D vwCl (mq_ws cA ad [1, 2, 3, 4, 5, 6, 7, 8, 9, 19, 20, 27, 28, 37, 38, 40, 41, 42, 44, 46, 47, 48, 49, 50]) H := hP
  have hD : va_D A (mq_ws cA ad [1, 2, 3, 4, 5, 6, 7, 8, 9, 19, 20, 27, 28, 37, 38, 40, 41, 42, 44, 46, 47, 48, 49, 50]) := hD
  refine W.widen (k := 24) (n := 753196) (Nat.le_of_ble_eq_true rfl) (Nat.le_of_ble_eq_true rfl) ?_
  refine lv_aload_n (pc := 194) hx hb dX12_init_194 rfl (lv_at hl 0 rfl) ?_
  refine lv_iconst (pc := 195) (v := 4) hx hb dX12_init_195 (by decide) ?_
  refine mq_step_i (pc := 196) (k := 24) (n := 753196) hx hb hts hown hini hA 57 (by decide) rfl (by decide) (by decide) (by decide) (by decide) (Nat.le_of_ble_eq_true rfl) (Nat.le_of_ble_eq_true rfl) dX12_init_196 dX12_init_198 (List.mem_of_getElem? (i := 35) rfl) rfl rfl (fun _ => ⟨rfl, rfl⟩) hK hP hD hS (fun cA ad2 H locs had1 hK hP hD hS => ?_)
  rw [← had1] at hl
  have had0 := had1.trans had0
  clear had1
  obtain ⟨ad, ead⟩ : ∃ ad : Nat → Nat, ad = ad2 := ⟨_, rfl⟩
  rw [← ead] at hl had0 hP hD
  have hK : va_K D vwCl (mq_ty cA [1, 2, 3, 4, 5, 6, 7, 8, 9, 19, 20, 27, 28, 37, 38, 40, 41, 42, 44, 46, 47, 48, 49, 50, 57]) s := hK
  have hP : va_P D vwCl (mq_ws cA ad [1, 2, 3, 4, 5, 6, 7, 8, 9, 19, 20, 27, 28, 37, 38, 40, 41, 42, 44, 46, 47, 48, 49, 50, 57]) H := hP
  have hD : va_D A (mq_ws cA ad [1, 2, 3, 4, 5, 6, 7, 8, 9, 19, 20, 27, 28, 37, 38, 40, 41, 42, 44, 46, 47, 48, 49, 50, 57]) := hD
  refine W.widen (k := 25) (n := 753200) (Nat.le_of_ble_eq_true rfl) (Nat.le_of_ble_eq_true rfl) ?_
  refine lv_aload_n (pc := 201) hx hb dX12_init_201 rfl (lv_at hl 0 rfl) ?_
  refine lv_bipush (pc := 202) (v := 41) hx hb dX12_init_202 (by decide) ?_
  refine mq_step_i (pc := 204) (k := 25) (n := 753200) hx hb hts hown hini hA 58 (by decide) rfl (by decide) (by decide) (by decide) (by decide) (Nat.le_of_ble_eq_true rfl) (Nat.le_of_ble_eq_true rfl) dX12_init_204 dX12_init_206 (List.mem_of_getElem? (i := 36) rfl) rfl rfl (fun _ => ⟨rfl, rfl⟩) hK hP hD hS (fun cA ad2 H locs had1 hK hP hD hS => ?_)
  rw [← had1] at hl
  have had0 := had1.trans had0
  clear had1
  obtain ⟨ad, ead⟩ : ∃ ad : Nat → Nat, ad = ad2 := ⟨_, rfl⟩
  rw [← ead] at hl had0 hP hD
  have hK : va_K D vwCl (mq_ty cA [1, 2, 3, 4, 5, 6, 7, 8, 9, 19, 20, 27, 28, 37, 38, 40, 41, 42, 44, 46, 47, 48, 49, 50, 57, 58]) s := hK
  have hP : va_P D vwCl (mq_ws cA ad [1, 2, 3, 4, 5, 6, 7, 8, 9, 19, 20, 27, 28, 37, 38, 40, 41, 42, 44, 46, 47, 48, 49, 50, 57, 58]) H := hP
  have hD : va_D A (mq_ws cA ad [1, 2, 3, 4, 5, 6, 7, 8, 9, 19, 20, 27, 28, 37, 38, 40, 41, 42, 44, 46, 47, 48, 49, 50, 57, 58]) := hD
  refine W.widen (k := 26) (n := 753241) (Nat.le_of_ble_eq_true rfl) (Nat.le_of_ble_eq_true rfl) ?_
  refine lv_aload_n (pc := 209) hx hb dX12_init_209 rfl (lv_at hl 0 rfl) ?_
  refine lv_iconst (pc := 210) (v := 3) hx hb dX12_init_210 (by decide) ?_
  refine mq_step_z (pc := 211) (k := 26) (n := 753241) hx hb hts hown hini hA 60 (by decide) rfl (by decide) (by decide) (by decide) (by decide) (Nat.le_of_ble_eq_true rfl) (Nat.le_of_ble_eq_true rfl) dX12_init_211 dX12_init_213 (List.mem_of_getElem? (i := 38) rfl) rfl rfl (fun _ => ⟨rfl, rfl⟩) hK hP hD hS (fun cA ad2 H locs had1 hK hP hD hS => ?_)
  rw [← had1] at hl
  have had0 := had1.trans had0
  clear had1
  obtain ⟨ad, ead⟩ : ∃ ad : Nat → Nat, ad = ad2 := ⟨_, rfl⟩
  rw [← ead] at hl had0 hP hD
  have hK : va_K D vwCl (mq_ty cA [1, 2, 3, 4, 5, 6, 7, 8, 9, 19, 20, 27, 28, 37, 38, 40, 41, 42, 44, 46, 47, 48, 49, 50, 57, 58, 60]) s := hK
  have hP : va_P D vwCl (mq_ws cA ad [1, 2, 3, 4, 5, 6, 7, 8, 9, 19, 20, 27, 28, 37, 38, 40, 41, 42, 44, 46, 47, 48, 49, 50, 57, 58, 60]) H := hP
  have hD : va_D A (mq_ws cA ad [1, 2, 3, 4, 5, 6, 7, 8, 9, 19, 20, 27, 28, 37, 38, 40, 41, 42, 44, 46, 47, 48, 49, 50, 57, 58, 60]) := hD
  refine W.widen (k := 27) (n := 753244) (Nat.le_of_ble_eq_true rfl) (Nat.le_of_ble_eq_true rfl) ?_
  have hK : va_K D vwCl (mg_ty cA) s := hK
  have hP : va_P D vwCl (mg_ws cA ad mq_z) H := mq_done ▸ hP
  have hD : va_D A (mg_ws cA ad mq_z) := mq_done ▸ hD
  refine lv_aload_n (pc := 216) hx hb dX12_init_216 rfl (lv_at hl 0 rfl) ?_
  refine va_get (D := D) (ci := 12) (C := RX12) (T := TX12) (N := 61) (pc := 217) hx hb hts (fun _ h9 => List.mem_cons_of_mem _ (List.mem_append_right _ h9)) hown hK hP 0 (mg_ws_get (c := 0) (k := 0) rfl) rfl 4 (by decide) (hts (.fieldLink RX12 20 "SandGlassesModel" "faultPlace" "[I") (List.mem_of_getElem? (i := 9) rfl)) (fun _ h9 => h9) ((mg_fs_get (by decide)).trans (congrArg some (mg_fv_r (j := 4) (by decide)))) dX12_init_217 ?_
  refine lv_iconst (pc := 220) (v := 0) hx hb dX12_init_220 (by decide) ?_
  refine lv_iconst (pc := 221) (v := (-1)) hx hb dX12_init_221 (by decide) ?_
  have hk2 : mg_cs[4]? = some 4 := rfl
  obtain ⟨t0, ht0⟩ := mg_ty_get (cA := cA) (c := 4) (kd := 2) (by decide) rfl (by decide)
  refine va_iast (pc := 222) hx hb hK hP hD hS 4 t0 (mg_ws_int hk2 rfl (by decide) (by decide)) ht0 (mp_in0 (by decide) (by decide)) dX12_init_222 (fun H locs hP2 hD2 hS => ?_)
  have e1 : (mg_ws cA ad mq_z).set 4 (ad 4, .inl (cA 4, mg_len 4, .inl (upd (mq_z.1 4) (0 : Int32).toNatClampNeg (-1)))) = mg_ws cA ad (mg_ui mq_z 4 (0 : Int32).toNatClampNeg (-1)) := mg_ws_set hk2 (by rw [mg_E_int (k := 2) rfl (by decide) (by decide), mg_ui_row]) (fun d _ hd2 => mg_ui_E (by decide) d hd2)
  rw [e1] at hP2 hD2
  exact W.vret (pc := 223) hx hb hr (fun t ht hW => ⟨⟨(cA, ad), rfl, had0, by rw [ht]; exact hP2, va_K.moved hW.alike hK, hD2⟩, hS.F ht⟩) hS.2.2 dX12_init_223
