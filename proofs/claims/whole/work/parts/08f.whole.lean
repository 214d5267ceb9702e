/-- nothing is in the pool, nothing is held -/
def lw_Y0 : xg_Y := ([], fun _ => 0, fun _ => 0, fun _ => 0)
def lw_h0 : xg_H := (fun _ _ => 0, fun _ _ => 0, fun _ _ => none)
/-- WHAT IS LEFT TO SHOW, of numbers alone: from a new object of the class and a new reference every round of the law goes on to the next, within the room -/
def lw_sem (X : lg_X) : Prop := ∀ q : Nat, ∃ mc ms : Nat, (1 + mc + 28 ≤ 600000 ∧ 8 + ms + 753305 ≤ 7302250) ∧ wp_X11_init mc ms (xg_nY lw_Y0 q 11 0 0) (fun Y2 h2 => ∀ R : Int32 → Nat → Nat → xg_Y → xg_H → mg_H → Prop, (∀ (y3 : Int32) (k n : Nat) (Y : xg_Y) (h : xg_H) (g : mg_H), wp_law_round X q R y3 k n Y h g → R y3 k n Y h g) → R 0 (1 + mc + 28) (8 + ms + 753305) Y2 h2 mq_0) q (xg_nh lw_h0 q)
theorem lw_d11 : ∀ j, j < xg_N 11 → defaultValue (tyX11 j) = xg_dv (xg_tm 11 j) := by decide
theorem lw_d12 : ∀ j, j < 61 → defaultValue (tyX12 j) = mq_fv (fun _ => 0) [] j := by decide
set_option maxHeartbeats 8000000 in
set_option maxRecDepth 100000 in
theorem whole_of {p : Program} {e : Env} {s : State} {m : MethodId} {below : List Frame} {meth : Method} {c : Code} (l : Launch) {b L : Nat} {xs : Nat → Int32} (C0 : lw_At p s m meth c b L xs) (hsem : ∀ X : lg_X, lg_L X = L → lg_xs X = xs → lw_sem X) : W p l e room_1 s m #[Value.ref b] below meth c s.heap [] 0 0 (lw_Z below #[Value.ref b] s) (entryFrame m ([Value.ref b] : List Value).toArray 4) := by
  obtain ⟨hx, hb, hr, hml, hown, hts0, hX, hbl, hlocks, hgv⟩ := C0
  obtain ⟨zs, hSt, hNw⟩ := lw_world hts0 hgv
  have hts : ∀ w ∈ wsL_law, w.before #[Value.ref b] s = true := fun w h => hts0 w (wsL_law_in w h)
  have hown : s.vm.findClass RL = some m.cls := hown
  have hA : ∀ q : Nat, s.heap.size ≤ q → (fun q : Nat => s.heap.size ≤ q) q := fun _ h => h
  obtain ⟨c0, iS0, hKn0⟩ := u_known (C := RX0) (T := TX0) (N := 9) (n := 9) hts inlX0 (hts0 (.instantiable RX0 9) (by decide +kernel))
  obtain ⟨c1, iS1, hKn1⟩ := u_known (C := RX1) (T := TX1) (N := 20) (n := 20) hts inlX1 (hts0 (.instantiable RX1 20) (by decide +kernel))
  obtain ⟨c2, iS2, hKn2⟩ := u_known (C := RX2) (T := TX2) (N := 14) (n := 14) hts inlX2 (hts0 (.instantiable RX2 14) (by decide +kernel))
  obtain ⟨c3, iS3, hKn3⟩ := u_known (C := RX3) (T := TX3) (N := 5) (n := 5) hts inlX3 (hts0 (.instantiable RX3 5) (by decide +kernel))
  obtain ⟨c4, iS4, hKn4⟩ := u_known (C := RX4) (T := TX4) (N := 8) (n := 8) hts inlX4 (hts0 (.instantiable RX4 8) (by decide +kernel))
  obtain ⟨c5, iS5, hKn5⟩ := u_known (C := RX5) (T := TX5) (N := 4) (n := 4) hts inlX5 (hts0 (.instantiable RX5 4) (by decide +kernel))
  obtain ⟨c6, iS6, hKn6⟩ := u_known (C := RX6) (T := TX6) (N := 11) (n := 11) hts inlX6 (hts0 (.instantiable RX6 11) (by decide +kernel))
  obtain ⟨c7, iS7, hKn7⟩ := u_known (C := RX7) (T := TX7) (N := 2) (n := 2) hts inlX7 (hts0 (.instantiable RX7 2) (by decide +kernel))
  obtain ⟨c8, iS8, hKn8⟩ := u_known (C := RX8) (T := TX8) (N := 4) (n := 4) hts inlX8 (hts0 (.instantiable RX8 4) (by decide +kernel))
  obtain ⟨c9, iS9, hKn9⟩ := u_known (C := RX9) (T := TX9) (N := 6) (n := 6) hts inlX9 (hts0 (.instantiable RX9 6) (by decide +kernel))
  obtain ⟨c10, iS10, hKn10⟩ := u_known (C := RX10) (T := TX10) (N := 9) (n := 9) hts inlX10 (hts0 (.instantiable RX10 9) (by decide +kernel))
  obtain ⟨c11, iS11, hKn11⟩ := u_known (C := RX11) (T := TX11) (N := 8) (n := 8) hts inlX11 (hts0 (.instantiable RX11 8) (by decide +kernel))
  obtain ⟨c12, iS12, hKn12⟩ := u_known (C := RX12) (T := TX12) (N := 61) (n := 61) hts inlX12 (hts0 (.instantiable RX12 61) (by decide +kernel))
  obtain ⟨D, hKc⟩ : ∃ D : va_G, ∀ (k : Nat) (q : vw_C), vwCl[k]? = some q → u_Kn s q.1 q.2.1 q.2.2 (D.1 k) (D.2 k) := by
    refine ⟨(fun k => match k with | 0 => c0 | 1 => c1 | 2 => c2 | 3 => c3 | 4 => c4 | 5 => c5 | 6 => c6 | 7 => c7 | 8 => c8 | 9 => c9 | 10 => c10 | 11 => c11 | _ => c12, fun k => match k with | 0 => iS0 | 1 => iS1 | 2 => iS2 | 3 => iS3 | 4 => iS4 | 5 => iS5 | 6 => iS6 | 7 => iS7 | 8 => iS8 | 9 => iS9 | 10 => iS10 | 11 => iS11 | _ => iS12), ?_⟩
    intro k q hq
    match k, hq with
    | 0, hq => cases hq; exact hKn0
    | 1, hq => cases hq; exact hKn1
    | 2, hq => cases hq; exact hKn2
    | 3, hq => cases hq; exact hKn3
    | 4, hq => cases hq; exact hKn4
    | 5, hq => cases hq; exact hKn5
    | 6, hq => cases hq; exact hKn6
    | 7, hq => cases hq; exact hKn7
    | 8, hq => cases hq; exact hKn8
    | 9, hq => cases hq; exact hKn9
    | 10, hq => cases hq; exact hKn10
    | 11, hq => cases hq; exact hKn11
    | 12, hq => cases hq; exact hKn12
    | k + 13, hq => simp [vwCl] at hq
  have hS : va_S (fun q : Nat => s.heap.size ≤ q) s.heap s.heap [] := va_S.rf
  have hK : va_K D vwCl (xg_ty lw_Y0) s := ⟨hKc, fun k q h => by simp [xg_ty, lw_Y0] at h⟩
  have hP : va_P D vwCl (xg_ws lw_Y0 lw_h0) s.heap := fun k q h => by simp [xg_ws, lw_Y0, va_pl] at h
  have hD : va_D (fun q : Nat => s.heap.size ≤ q) (xg_ws lw_Y0 lw_h0) := ⟨fun i j p q h => by simp [xg_ws, lw_Y0, va_pl] at h, fun k q h => by simp [xg_ws, lw_Y0, va_pl] at h⟩
  have hl := lv_entry ([.ref b]) (n := 4) (Nat.le_of_ble_eq_true rfl)
  rw [lg_entry_eq]
  generalize (lg_sl ([.ref b]) ++ List.replicate (4 - (lg_sl ([.ref b])).length) Slot.unset).toArray = ls at hl ⊢
  have hl : lv_has ls 4 [(0, .ref b)] := hl
  -- new SandGlasses()
  refine va_new (ci := 11) (fs := (List.range (xg_N 11)).map (fun j => xg_dv (xg_tm 11 j))) (C := RX11) (T := TX11) (N := 8) hx hb hts inlX11 tyX11 tyX11_ok hown (hts (.classLink RL 7 RX11) (List.mem_of_getElem? (i := 0) rfl)) (hts0 (.instantiable RX11 8) (by decide +kernel)) (hts0 (.initialized RX11) (by decide +kernel)) hK hP hD hS hA rfl (fun j hj => by rw [lw_d11 j hj, vp_V, List.getD_eq_getElem?_getD, List.getElem?_map, List.getElem?_range (show j < xg_N 11 from hj)]; rfl) (Nat.le_of_ble_eq_true rfl) (Nat.le_of_ble_eq_true rfl) dL_law_0 (fun q H hP hD hS => ?_)
  have hq : q ∉ lw_Y0.1 := fun h => by simp [lw_Y0] at h
  have he : xg_E (xg_nY lw_Y0 q 11 0 0) (xg_nh lw_h0 q) q = .inr (11, (List.range (xg_N 11)).map (fun j => xg_dv (xg_tm 11 j))) := by
    rw [xg_E_obj xg_is_new (by decide), xg_zero]
  rw [xg_push hq he] at hP hD
  have hK : va_K D vwCl (xg_ty (xg_nY lw_Y0 q 11 0 0)) s := by rw [xg_ty_obj hq (by decide)]; exact hK
  generalize hY1 : xg_nY lw_Y0 q 11 0 0 = Y1 at hP hD hK
  generalize hh1 : xg_nh lw_h0 q = h1 at hP hD
  refine lv_dup hx hb dL_law_3 rfl ?_
  obtain ⟨mc, ms, hfit, hF⟩ := hsem (p, l, e, s, m, below, meth, c, D, zs, b, L, xs) rfl rfl q
  rw [hY1, hh1] at hF
  have hFc : ∀ q9, va_A (xg_ws Y1 h1) H.size q9 → s.heap.size ≤ q9 := fun q9 hq9 => hq9.elim (fun ⟨k, e9, hk⟩ => hD.2 k _ hk) (fun hq9 => Nat.le_trans hS.1 hq9)
  refine va_callv (va_runI (As := []) (rest := [.ref q]) ⟨hx, hb, hml, hown, hts⟩ (met_X11_init mc ms Y1 q l D zs h1 H.size _ hF) (cwI 0 hts gL_law_X11_init rfl rfl rfl (hts0 (.initialized RX11) (by decide +kernel)) (hts (.methodLink RL 9 yX11_init) (List.mem_of_getElem? (i := 6) rfl)) (hts0 (.instanceMethod yX11_init) (by decide +kernel)) rfl nd_X11_init.2 ⟨Nat.le_of_ble_eq_true rfl, Nat.le_of_ble_eq_true rfl⟩) ⟨xg_blind _ _ _ _ _ _, fun U hU hW => ⟨rfl, by rw [hU], by rw [hU]; exact hP, va_K.moved hW.alike hK, hD.weaken (fun _ _ _ _ => trivial), by rw [hU]; exact ((hSt.kept hS.2.1).narrow hFc).moved hW.alike, xg_Nw.warm hW hNw⟩⟩ rfl rfl hl.1 rfl (lv_room (Nat.le_of_ble_eq_true rfl)) dL_law_4 ⟨Nat.le_trans (Nat.le_add_right _ 28) hfit.1, Nat.le_trans (Nat.le_add_right _ 753305) hfit.2⟩) hS (fun q9 _ h9 => hFc q9 h9) hFc (fun u t H2 locs2 ht hvm hsR hB hz1 hk1 hS => ?_)
  obtain ⟨Y2, h2⟩ := u
  obtain ⟨hP2, hK2, hD2⟩ := hB
  rw [ht] at hP2
  have hK2 := va_K.moved hvm.symm hK2
  have hD2 : va_D (fun q : Nat => s.heap.size ≤ q) (xg_ws Y2 h2) := ⟨hD2.1, fun k q9 hq9 => hFc _ (hD2.2 k q9 hq9)⟩
  refine lv_astore_n (lv' := [(1, .ref q), (0, .ref b)]) hx hb dL_law_7 rfl hl (by decide) rfl (fun ls hl => ?_)
  -- new SandGlassesModel()
  refine va_new (ci := 12) (fs := mq_fs (fun _ => 0) []) (C := RX12) (T := TX12) (N := 61) hx hb hts inlX12 tyX12 tyX12_ok hown (hts (.classLink RL 10 RX12) (List.mem_of_getElem? (i := 3) rfl)) (hts0 (.instantiable RX12 61) (by decide +kernel)) (hts0 (.initialized RX12) (by decide +kernel)) hK2 hP2 hD2 hS hA rfl (fun j hj => by rw [lw_d12 j hj, vp_V, List.getD_eq_getElem?_getD, mq_fs, List.getElem?_map, List.getElem?_range hj]; rfl) (by have := hfit.1; show 0 + 1 + mc + 1 ≤ 600000; omega) (by have := hfit.2; show 0 + 8 + ms + 61 ≤ 7302250; omega) dL_law_8 (fun q2 H3 hP3 hD3 hS => ?_)
  have hws : xg_ws Y2 h2 ++ [(q2, Sum.inr (12, mq_fs (fun _ => 0) []))] = xg_ws Y2 h2 ++ mq_ws (fun _ => 0) (fun _ => q2) [] := by
    have e1 : mq_fs (fun _ => 0) [] = mq_fs (fun _ => q2) [] := by
      rw [mq_fs, mq_fs]; apply List.map_congr_left; intro j _; simp [mq_fv]
    rw [e1]; rfl
  rw [hws] at hP3 hD3
  have hP2 : va_P D vwCl (xg_ws Y2 h2) H3 := fun k q9 hk => hP3 k q9 (by rw [List.getElem?_append_left (List.getElem?_eq_some_iff.mp hk).1]; exact hk)
  have hPm : va_P D vwCl (mq_ws (fun _ => 0) (fun _ => q2) []) H3 := fun k q9 hk => hP3 ((xg_ws Y2 h2).length + k) q9 (by rw [List.getElem?_append_right (Nat.le_add_right _ _), Nat.add_sub_cancel_left]; exact hk)
  have hDm : va_D (fun q : Nat => s.heap.size ≤ q) (mq_ws (fun _ => 0) (fun _ => q2) []) := ⟨fun i j x y hi hj hxy => by
    have := hD3.1 ((xg_ws Y2 h2).length + i) ((xg_ws Y2 h2).length + j) x y (by rw [List.getElem?_append_right (Nat.le_add_right _ _), Nat.add_sub_cancel_left]; exact hi) (by rw [List.getElem?_append_right (Nat.le_add_right _ _), Nat.add_sub_cancel_left]; exact hj) hxy
    omega, fun k q9 hk => hD3.2 ((xg_ws Y2 h2).length + k) q9 (by rw [List.getElem?_append_right (Nat.le_add_right _ _), Nat.add_sub_cancel_left]; exact hk)⟩
  have hap : lg_ap (mq_ws (fun _ => 0) (fun _ => q2) []) (xg_ws Y2 h2) := fun i j x y hx9 hy9 hxy => by
    have h1 := (List.getElem?_eq_some_iff.mp hy9).1
    have := hD3.1 ((xg_ws Y2 h2).length + i) j x y (by rw [List.getElem?_append_right (Nat.le_add_right _ _), Nat.add_sub_cancel_left]; exact hx9) (by rw [List.getElem?_append_left h1]; exact hy9) hxy
    omega
  have hKm : va_K D vwCl [] s := ⟨hKc, fun k q9 h9 => by simp at h9⟩
  refine lv_dup hx hb dL_law_11 rfl ?_
  have hFm : ∀ q9, mq_A q2 H3.size q9 → s.heap.size ≤ q9 := fun q9 hq9 => hq9.elim (fun ⟨k, e9, hk⟩ => hDm.2 k _ hk) (fun hq9 => Nat.le_trans hS.1 hq9)
  refine va_callv (va_runI (As := []) (rest := [.ref q2]) ⟨hx, hb, hml, hown, hts⟩ (met_init l D q2 H3.size) (cwI 0 hts gL_law_X12_init rfl rfl rfl (hts0 (.initialized RX12) (by decide +kernel)) (hts (.methodLink RL 12 yX12_init) (List.mem_of_getElem? (i := 101) rfl)) (hts0 (.instanceMethod yX12_init) (by decide +kernel)) rfl nd_init.2 ⟨Nat.le_of_ble_eq_true rfl, Nat.le_of_ble_eq_true rfl⟩) ⟨fun a U g mk q9 => by
    obtain ⟨g0, g1, gP, gK, gD⟩ := q9
    exact ⟨g0, g1, gP, va_K.moved (u := U) (U := U.calling g mk a) (Vm.Alike.refl U.vm) gK, gD⟩, fun U hU hW => ⟨rfl, by rw [hU], by rw [hU]; exact hPm, va_K.moved hW.alike hKm, hDm.weaken (fun _ _ _ _ => trivial)⟩⟩ rfl rfl hl.1 rfl (lv_room (Nat.le_of_ble_eq_true rfl)) dL_law_12 ⟨by have := hfit.1; show 0 + 1 + mc + 1 + 27 ≤ 600000; omega, by have := hfit.2; show 0 + 8 + ms + 61 + 753244 ≤ 7302250; omega⟩) hS (fun q9 _ h9 => hFm q9 h9) hFm (fun u t H4 locs4 ht hvm had hB hz1 hk1 hS => ?_)
  obtain ⟨cA, ad⟩ := u
  obtain ⟨hP4, hK4, hD4⟩ := hB
  rw [ht] at hP4
  have hK4 := va_K.moved hvm.symm hK4
  have hkeep := lg_keep (w3 := mg_ws cA ad mq_0) hP2 hap hk1 hD4
  refine lv_astore_n (lv' := [(2, .ref q2), (1, .ref q), (0, .ref b)]) hx hb dL_law_15 rfl hl (by decide) rfl (fun ls hl => ?_)
  refine lv_iconst (v := 0) hx hb dL_law_16 (by decide) ?_
  refine lv_istore_n (lv' := [(3, .int 0), (2, .ref q2), (1, .ref q), (0, .ref b)]) hx hb dL_law_17 rfl hl (by decide) rfl (fun ls hl => ?_)
  refine W.widen (k := 1 + mc + 28) (n := 8 + ms + 753305) (by show 0 + 1 + mc + 1 + 27 ≤ 1 + mc + 28; omega) (by show 0 + 8 + ms + 61 + 753244 ≤ 8 + ms + 753305; omega) ?_
  exact hsR (fun (y3 : Int32) (k n : Nat) (Y : xg_Y) (h : xg_H) (g : mg_H) => lg_W (p, l, e, s, m, below, meth, c, D, zs, b, L, xs) q2 k n 18 [(0, .ref b), (1, .ref q), (2, .ref q2), (3, .int y3)] [] (Y, h, g)) (fun y3 k n Y h g hwp => met_law_round (p, l, e, s, m, below, meth, c, D, zs, b, L, xs) ⟨hx, hb, hml, hown, hts, hlocks, hr, hX, hbl, hSt, hNw⟩ q q2 y3 k n Y h g hwp) H4 locs4 ls cA ad had hK2 hK4 hkeep.1 hP4 hD2 ⟨hD4.1, fun k q9 hq9 => hFm _ (hD4.2 k q9 hq9)⟩ hkeep.2.symm hS (lv_sub hl [3, 2, 1, 0] rfl)
