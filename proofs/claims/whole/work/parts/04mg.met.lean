def rm_dry : Room := { frames := 1, cells := 0, slots := 0, locals := 21 }
theorem nd_dry : yX12_dry.cls = RX12 ∧ yX12_dry.cls ≠ "java/lang/invoke/MethodHandle" ∧ yX12_dry.cls ≠ "java/lang/invoke/VarHandle" ∧ (parseMethodDescriptor yX12_dry.desc).map (fun d => d.parameters.length) = some 0 := by decide +kernel
theorem inm_dry : ∀ w ∈ wsX120, w ∈ wsX12_dry := fun _ h9 => List.mem_cons_of_mem _ (List.mem_append_right _ h9)
set_option maxHeartbeats 4000000 in
set_option maxRecDepth 100000 in
theorem met_dry : mg_MI yX12_dry wsX12_dry rm_dry (fun ad => [.ref (ad 0)]) (fun Q h => wp_dry Q h) := by
  refine mg_startI (cc := cX12_dry) (maxL := 3) (by decide) rfl rfl (fun ad => Nat.le_of_ble_eq_true rfl) (fun X Q h C hnL E hw => ?_)
  unfold wp_dry at hw
  refine mg_sub (lv2 := [(0, .ref (mg_ad X 0))]) [0] rfl ?_
  refine mg_use (hw (fun (y1 : Int32) (y2 : Int32) (h : mg_H) => mg_W X 4 [(0, .ref (mg_ad X 0)), (1, .int y1), (2, .int y2)] [] h) ?_) (fun hF => ?_)
  · intro y1 y2 h hF
    refine mg_iload_n (pc := 4) C dX12_dry_4 2 rfl ?_
    refine mg_aload_n (pc := 5) C dX12_dry_5 0 rfl ?_
    refine mg_geti (pc := 6) C inm_dry 24 (by decide) rfl (by decide) dX12_dry_6 (List.mem_of_getElem? (i := 1) rfl) ?_
    refine mg_icmp_ge (pc := 9) 29 C dX12_dry_9 (by decide) (fun hc => ?_) (fun hc => ?_)
    · have hF := hF.1 hc
      refine mg_iload_n (pc := 29) C dX12_dry_29 1 rfl ?_
      exact mg_retI (pc := 30) C E dX12_dry_30 hF
    · have hF := hF.2 hc
      refine mg_iload_n (pc := 12) C dX12_dry_12 1 rfl ?_
      refine mg_aload_n (pc := 13) C dX12_dry_13 0 rfl ?_
      refine mg_getr (pc := 14) C inm_dry 28 (by decide) (by decide) dX12_dry_14 (List.mem_of_getElem? (i := 2) rfl) ?_
      refine mg_iload_n (pc := 17) C dX12_dry_17 2 rfl ?_
      obtain ⟨hi, hF⟩ := hF
      refine mg_iald (pc := 18) C (by decide) rfl hi dX12_dry_18 ?_
      refine mg_csI (pc := 19) C (fun ad => [.int y1, .int (mg_i h 28 y2.toNatClampNeg)]) (met_greater y1 (mg_i h 28 y2.toNatClampNeg)) gX12_dry_X12_greater rfl ⟨rfl, rfl⟩ nd_greater.2 ⟨Nat.le_of_ble_eq_true rfl, Nat.le_of_ble_eq_true rfl⟩ rfl rfl (Nat.le_of_ble_eq_true rfl) dX12_dry_19 hF (fun r2 h1 hF => ?_)
      refine mg_istore_n (pc := 22) (lv2 := [(1, .int r2), (0, .ref (mg_ad X 0)), (2, .int y2)]) C dX12_dry_22 3 hnL (by decide) rfl ?_
      obtain ⟨z3, ez3⟩ : ∃ y : Int32, y = y2 + 1 := ⟨_, rfl⟩
      have hF := hF z3 ez3
      refine mg_iinc (pc := 23) (v := z3) (lv2 := [(2, .int z3), (1, .int r2), (0, .ref (mg_ad X 0))]) C dX12_dry_23 2 rfl (by rw [ez3]; rfl) 3 hnL (by decide) rfl ?_
      refine mg_goto (pc := 26) 4 C dX12_dry_26 (by decide) ?_
      refine mg_sub (lv2 := [(0, .ref (mg_ad X 0)), (1, .int r2), (2, .int z3)]) [2, 1, 0] rfl ?_
      exact hF
  · skip
    refine mg_iconst (pc := 0) (v := 0) C dX12_dry_0 (by decide) ?_
    refine mg_istore_n (pc := 1) (lv2 := [(1, .int 0), (0, .ref (mg_ad X 0))]) C dX12_dry_1 3 hnL (by decide) rfl ?_
    refine mg_iconst (pc := 2) (v := 0) C dX12_dry_2 (by decide) ?_
    refine mg_istore_n (pc := 3) (lv2 := [(2, .int 0), (1, .int 0), (0, .ref (mg_ad X 0))]) C dX12_dry_3 3 hnL (by decide) rfl ?_
    refine mg_sub (lv2 := [(0, .ref (mg_ad X 0)), (1, .int 0), (2, .int 0)]) [2, 1, 0] rfl ?_
    exact hF
def rm_like : Room := { frames := 0, cells := 0, slots := 0, locals := 0 }
theorem nd_like : yX12_like.cls = RX12 ∧ yX12_like.cls ≠ "java/lang/invoke/MethodHandle" ∧ yX12_like.cls ≠ "java/lang/invoke/VarHandle" ∧ (parseMethodDescriptor yX12_like.desc).map (fun d => d.parameters.length) = some 0 := by decide +kernel
theorem inm_like : ∀ w ∈ wsX120, w ∈ wsX12_like := fun _ h9 => List.mem_cons_of_mem _ (List.mem_append_right _ h9)
set_option maxHeartbeats 4000000 in
set_option maxRecDepth 100000 in
theorem met_like : mg_MI yX12_like wsX12_like rm_like (fun ad => [.ref (ad 0)]) (fun Q h => wp_like Q h) := by
  refine mg_startI (cc := cX12_like) (maxL := 4) (by decide) rfl rfl (fun ad => Nat.le_of_ble_eq_true rfl) (fun X Q h C hnL E hw => ?_)
  unfold wp_like at hw
  refine mg_sub (lv2 := [(0, .ref (mg_ad X 0))]) [0] rfl ?_
  refine mg_use (hw (fun (y1 : Int32) (y2 : Int32) (h : mg_H) => mg_W X 4 [(0, .ref (mg_ad X 0)), (1, .int y1), (2, .int y2)] [] h) (fun (y1 : Int32) (y2 : Int32) (y3 : Int32) (h : mg_H) => mg_W X 14 [(0, .ref (mg_ad X 0)), (1, .int y1), (2, .int y2), (3, .int y3)] [] h) (fun (y2 : Int32) (y3 : Int32) (s0 : Int32) (h : mg_H) => mg_W X 54 [(0, .ref (mg_ad X 0)), (2, .int y2), (3, .int y3)] [.int s0] h) (fun (y2 : Int32) (y3 : Int32) (s0 : Int32) (s1 : Int32) (h : mg_H) => mg_W X 55 [(0, .ref (mg_ad X 0)), (2, .int y2), (3, .int y3)] [.int s0, .int s1] h) ?_ ?_ ?_ ?_) (fun hF => ?_)
  · intro y1 y2 h hF
    refine mg_iload_n (pc := 4) C dX12_like_4 2 rfl ?_
    refine mg_aload_n (pc := 5) C dX12_like_5 0 rfl ?_
    refine mg_geti (pc := 6) C inm_like 24 (by decide) rfl (by decide) dX12_like_6 (List.mem_of_getElem? (i := 1) rfl) ?_
    refine mg_icmp_ge (pc := 9) 69 C dX12_like_9 (by decide) (fun hc => ?_) (fun hc => ?_)
    · have hF := hF.1 hc
      refine mg_iload_n (pc := 69) C dX12_like_69 1 rfl ?_
      exact mg_retI (pc := 70) C E dX12_like_70 hF
    · have hF := hF.2 hc
      refine mg_iconst (pc := 12) (v := 0) C dX12_like_12 (by decide) ?_
      refine mg_istore_n (pc := 13) (lv2 := [(3, .int 0), (0, .ref (mg_ad X 0)), (1, .int y1), (2, .int y2)]) C dX12_like_13 4 hnL (by decide) rfl ?_
      refine mg_sub (lv2 := [(0, .ref (mg_ad X 0)), (1, .int y1), (2, .int y2), (3, .int 0)]) [1, 2, 3, 0] rfl ?_
      exact hF
  · intro y1 y2 y3 h hF
    refine mg_iload_n (pc := 14) C dX12_like_14 3 rfl ?_
    refine mg_iload_n (pc := 15) C dX12_like_15 2 rfl ?_
    refine mg_icmp_ge (pc := 16) 63 C dX12_like_16 (by decide) (fun hc => ?_) (fun hc => ?_)
    · have hF := hF.1 hc
      obtain ⟨z1, ez1⟩ : ∃ y : Int32, y = y2 + 1 := ⟨_, rfl⟩
      have hF := hF z1 ez1
      refine mg_iinc (pc := 63) (v := z1) (lv2 := [(2, .int z1), (0, .ref (mg_ad X 0)), (1, .int y1), (3, .int y3)]) C dX12_like_63 2 rfl (by rw [ez1]; rfl) 4 hnL (by decide) rfl ?_
      refine mg_goto (pc := 66) 4 C dX12_like_66 (by decide) ?_
      refine mg_sub (lv2 := [(0, .ref (mg_ad X 0)), (1, .int y1), (2, .int z1)]) [1, 2, 0] rfl ?_
      exact hF
    · have hF := hF.2 hc
      refine mg_iload_n (pc := 19) C dX12_like_19 1 rfl ?_
      refine mg_aload_n (pc := 20) C dX12_like_20 0 rfl ?_
      refine mg_getr (pc := 21) C inm_like 27 (by decide) (by decide) dX12_like_21 (List.mem_of_getElem? (i := 2) rfl) ?_
      refine mg_iload_n (pc := 24) C dX12_like_24 2 rfl ?_
      obtain ⟨hi, hF⟩ := hF
      refine mg_iald (pc := 25) C (by decide) rfl hi dX12_like_25 ?_
      refine mg_aload_n (pc := 26) C dX12_like_26 0 rfl ?_
      refine mg_getr (pc := 27) C inm_like 27 (by decide) (by decide) dX12_like_27 (List.mem_of_getElem? (i := 2) rfl) ?_
      refine mg_iload_n (pc := 30) C dX12_like_30 3 rfl ?_
      obtain ⟨hi, hF⟩ := hF
      refine mg_iald (pc := 31) C (by decide) rfl hi dX12_like_31 ?_
      refine mg_icmp_ne (pc := 32) 54 C dX12_like_32 (by decide) (fun hc => ?_) (fun hc => ?_)
      · have hF := hF.1 hc
        refine mg_sub (lv2 := [(0, .ref (mg_ad X 0)), (2, .int y2), (3, .int y3)]) [0, 2, 3] rfl ?_
        exact hF
      · have hF := hF.2 hc
        refine mg_aload_n (pc := 35) C dX12_like_35 0 rfl ?_
        refine mg_getr (pc := 36) C inm_like 28 (by decide) (by decide) dX12_like_36 (List.mem_of_getElem? (i := 3) rfl) ?_
        refine mg_iload_n (pc := 39) C dX12_like_39 2 rfl ?_
        obtain ⟨hi, hF⟩ := hF
        refine mg_iald (pc := 40) C (by decide) rfl hi dX12_like_40 ?_
        refine mg_aload_n (pc := 41) C dX12_like_41 0 rfl ?_
        refine mg_getr (pc := 42) C inm_like 28 (by decide) (by decide) dX12_like_42 (List.mem_of_getElem? (i := 3) rfl) ?_
        refine mg_iload_n (pc := 45) C dX12_like_45 3 rfl ?_
        obtain ⟨hi, hF⟩ := hF
        refine mg_iald (pc := 46) C (by decide) rfl hi dX12_like_46 ?_
        refine mg_icmp_ne (pc := 47) 54 C dX12_like_47 (by decide) (fun hc => ?_) (fun hc => ?_)
        · have hF := hF.1 hc
          refine mg_sub (lv2 := [(0, .ref (mg_ad X 0)), (2, .int y2), (3, .int y3)]) [0, 2, 3] rfl ?_
          exact hF
        · have hF := hF.2 hc
          refine mg_iconst (pc := 50) (v := 1) C dX12_like_50 (by decide) ?_
          refine mg_goto (pc := 51) 55 C dX12_like_51 (by decide) ?_
          refine mg_sub (lv2 := [(0, .ref (mg_ad X 0)), (2, .int y2), (3, .int y3)]) [0, 2, 3] rfl ?_
          exact hF
  · intro y2 y3 s0 h hF
    refine mg_iconst (pc := 54) (v := 0) C dX12_like_54 (by decide) ?_
    exact hF
  · intro y2 y3 s0 s1 h hF
    refine mg_iadd (pc := 55) C dX12_like_55 ?_
    refine mg_topi (pc := 56) (fun z2 ez2 => ?_)
    have hF := hF z2 ez2
    refine mg_istore_n (pc := 56) (lv2 := [(1, .int z2), (0, .ref (mg_ad X 0)), (2, .int y2), (3, .int y3)]) C dX12_like_56 4 hnL (by decide) rfl ?_
    obtain ⟨z3, ez3⟩ : ∃ y : Int32, y = y3 + 1 := ⟨_, rfl⟩
    have hF := hF z3 ez3
    refine mg_iinc (pc := 57) (v := z3) (lv2 := [(3, .int z3), (1, .int z2), (0, .ref (mg_ad X 0)), (2, .int y2)]) C dX12_like_57 3 rfl (by rw [ez3]; rfl) 4 hnL (by decide) rfl ?_
    refine mg_goto (pc := 60) 14 C dX12_like_60 (by decide) ?_
    refine mg_sub (lv2 := [(0, .ref (mg_ad X 0)), (1, .int z2), (2, .int y2), (3, .int z3)]) [2, 1, 3, 0] rfl ?_
    exact hF
  · skip
    refine mg_iconst (pc := 0) (v := 0) C dX12_like_0 (by decide) ?_
    refine mg_istore_n (pc := 1) (lv2 := [(1, .int 0), (0, .ref (mg_ad X 0))]) C dX12_like_1 4 hnL (by decide) rfl ?_
    refine mg_iconst (pc := 2) (v := 0) C dX12_like_2 (by decide) ?_
    refine mg_istore_n (pc := 3) (lv2 := [(2, .int 0), (1, .int 0), (0, .ref (mg_ad X 0))]) C dX12_like_3 4 hnL (by decide) rfl ?_
    refine mg_sub (lv2 := [(0, .ref (mg_ad X 0)), (1, .int 0), (2, .int 0)]) [2, 1, 0] rfl ?_
    exact hF
def rm_still : Room := { frames := 2, cells := 0, slots := 0, locals := 47 }
theorem nd_still : yX12_still.cls = RX12 ∧ yX12_still.cls ≠ "java/lang/invoke/MethodHandle" ∧ yX12_still.cls ≠ "java/lang/invoke/VarHandle" ∧ (parseMethodDescriptor yX12_still.desc).map (fun d => d.parameters.length) = some 0 := by decide +kernel
theorem inm_still : ∀ w ∈ wsX120, w ∈ wsX12_still := fun _ h9 => List.mem_cons_of_mem _ (List.mem_append_right _ h9)
set_option maxHeartbeats 4000000 in
set_option maxRecDepth 100000 in
theorem met_still : mg_MI yX12_still wsX12_still rm_still (fun ad => [.ref (ad 0)]) (fun Q h => wp_still Q h) := by
  refine mg_startI (cc := cX12_still) (maxL := 4) (by decide) rfl rfl (fun ad => Nat.le_of_ble_eq_true rfl) (fun X Q h C hnL E hw => ?_)
  unfold wp_still at hw
  refine mg_sub (lv2 := [(0, .ref (mg_ad X 0))]) [0] rfl ?_
  refine mg_use (hw (fun (y1 : Int32) (y2 : Int32) (h : mg_H) => mg_W X 4 [(0, .ref (mg_ad X 0)), (1, .int y1), (2, .int y2)] [] h) (fun (y1 : Int32) (y2 : Int32) (y3 : Int32) (h : mg_H) => mg_W X 12 [(0, .ref (mg_ad X 0)), (1, .int y1), (2, .int y2), (3, .int y3)] [] h) (fun (y1 : Int32) (y2 : Int32) (h : mg_H) => mg_W X 51 [(0, .ref (mg_ad X 0)), (1, .int y1), (2, .int y2)] [] h) ?_ ?_ ?_) (fun hF => ?_)
  · intro y1 y2 h hF
    refine mg_iload_n (pc := 4) C dX12_still_4 2 rfl ?_
    refine mg_ldc (pc := 5) (v := 126976) C dX12_still_5 (List.mem_of_getElem? (i := 1) rfl) ?_
    refine mg_icmp_ge (pc := 7) 57 C dX12_still_7 (by decide) (fun hc => ?_) (fun hc => ?_)
    · have hF := hF.1 hc
      refine mg_iload_n (pc := 57) C dX12_still_57 1 rfl ?_
      exact mg_retI (pc := 58) C E dX12_still_58 hF
    · have hF := hF.2 hc
      refine mg_iconst (pc := 10) (v := 0) C dX12_still_10 (by decide) ?_
      refine mg_istore_n (pc := 11) (lv2 := [(3, .int 0), (0, .ref (mg_ad X 0)), (1, .int y1), (2, .int y2)]) C dX12_still_11 4 hnL (by decide) rfl ?_
      refine mg_sub (lv2 := [(0, .ref (mg_ad X 0)), (1, .int y1), (2, .int y2), (3, .int 0)]) [1, 2, 3, 0] rfl ?_
      exact hF
  · intro y1 y2 y3 h hF
    refine mg_iload_n (pc := 12) C dX12_still_12 3 rfl ?_
    refine mg_aload_n (pc := 13) C dX12_still_13 0 rfl ?_
    refine mg_geti (pc := 14) C inm_still 25 (by decide) rfl (by decide) dX12_still_14 (List.mem_of_getElem? (i := 2) rfl) ?_
    refine mg_icmp_gt (pc := 17) 51 C dX12_still_17 (by decide) (fun hc => ?_) (fun hc => ?_)
    · have hF := hF.1 hc
      refine mg_sub (lv2 := [(0, .ref (mg_ad X 0)), (1, .int y1), (2, .int y2)]) [0, 1, 2] rfl ?_
      exact hF
    · have hF := hF.2 hc
      refine mg_aload_n (pc := 20) C dX12_still_20 0 rfl ?_
      refine mg_getr (pc := 21) C inm_still 40 (by decide) (by decide) dX12_still_21 (List.mem_of_getElem? (i := 3) rfl) ?_
      refine mg_iload_n (pc := 24) C dX12_still_24 2 rfl ?_
      obtain ⟨hi, hF⟩ := hF
      refine mg_iald (pc := 25) C (by decide) rfl hi dX12_still_25 ?_
      refine mg_iconst (pc := 26) (v := (-1)) C dX12_still_26 (by decide) ?_
      refine mg_icmp_eq (pc := 27) 51 C dX12_still_27 (by decide) (fun hc => ?_) (fun hc => ?_)
      · have hF := hF.1 hc
        refine mg_sub (lv2 := [(0, .ref (mg_ad X 0)), (1, .int y1), (2, .int y2)]) [0, 1, 2] rfl ?_
        exact hF
      · have hF := hF.2 hc
        refine mg_iload_n (pc := 30) C dX12_still_30 1 rfl ?_
        refine mg_aload_n (pc := 31) C dX12_still_31 0 rfl ?_
        refine mg_iload_n (pc := 32) C dX12_still_32 2 rfl ?_
        refine mg_sipush (pc := 33) (v := 4096) C dX12_still_33 (by decide) ?_
        refine mg_irem (pc := 36) C dX12_still_36 (by decide) ?_
        refine mg_iload_n (pc := 37) C dX12_still_37 3 rfl ?_
        refine mg_cvI (pc := 38) C (fun ad => [.int (y2 - y2 / 4096 * 4096), .int y3]) (met_next (y2 - y2 / 4096 * 4096) y3) gX12_still_X12_next rfl ⟨rfl, rfl⟩ nd_next ⟨Nat.le_of_ble_eq_true rfl, Nat.le_of_ble_eq_true rfl⟩ rfl rfl (Nat.le_of_ble_eq_true rfl) dX12_still_38 hF (fun r2 h1 hF => ?_)
        refine mg_csI (pc := 41) C (fun ad => [.int y1, .int r2]) (met_greater y1 r2) gX12_still_X12_greater rfl ⟨rfl, rfl⟩ nd_greater.2 ⟨Nat.le_of_ble_eq_true rfl, Nat.le_of_ble_eq_true rfl⟩ rfl rfl (Nat.le_of_ble_eq_true rfl) dX12_still_41 hF (fun r4 h3 hF => ?_)
        refine mg_istore_n (pc := 44) (lv2 := [(1, .int r4), (0, .ref (mg_ad X 0)), (2, .int y2), (3, .int y3)]) C dX12_still_44 4 hnL (by decide) rfl ?_
        obtain ⟨z5, ez5⟩ : ∃ y : Int32, y = y3 + 1 := ⟨_, rfl⟩
        have hF := hF z5 ez5
        refine mg_iinc (pc := 45) (v := z5) (lv2 := [(3, .int z5), (1, .int r4), (0, .ref (mg_ad X 0)), (2, .int y2)]) C dX12_still_45 3 rfl (by rw [ez5]; rfl) 4 hnL (by decide) rfl ?_
        refine mg_goto (pc := 48) 12 C dX12_still_48 (by decide) ?_
        refine mg_sub (lv2 := [(0, .ref (mg_ad X 0)), (1, .int r4), (2, .int y2), (3, .int z5)]) [2, 1, 3, 0] rfl ?_
        exact hF
  · intro y1 y2 h hF
    obtain ⟨z6, ez6⟩ : ∃ y : Int32, y = y2 + 1 := ⟨_, rfl⟩
    have hF := hF z6 ez6
    refine mg_iinc (pc := 51) (v := z6) (lv2 := [(2, .int z6), (0, .ref (mg_ad X 0)), (1, .int y1)]) C dX12_still_51 2 rfl (by rw [ez6]; rfl) 4 hnL (by decide) rfl ?_
    refine mg_goto (pc := 54) 4 C dX12_still_54 (by decide) ?_
    refine mg_sub (lv2 := [(0, .ref (mg_ad X 0)), (1, .int y1), (2, .int z6)]) [1, 2, 0] rfl ?_
    exact hF
  · skip
    refine mg_iconst (pc := 0) (v := 0) C dX12_still_0 (by decide) ?_
    refine mg_istore_n (pc := 1) (lv2 := [(1, .int 0), (0, .ref (mg_ad X 0))]) C dX12_still_1 4 hnL (by decide) rfl ?_
    refine mg_iconst (pc := 2) (v := 0) C dX12_still_2 (by decide) ?_
    refine mg_istore_n (pc := 3) (lv2 := [(2, .int 0), (1, .int 0), (0, .ref (mg_ad X 0))]) C dX12_still_3 4 hnL (by decide) rfl ?_
    refine mg_sub (lv2 := [(0, .ref (mg_ad X 0)), (1, .int 0), (2, .int 0)]) [2, 1, 0] rfl ?_
    exact hF
def rm_laidOut : Room := { frames := 2, cells := 0, slots := 0, locals := 47 }
theorem nd_laidOut : yX12_laidOut.cls = RX12 ∧ yX12_laidOut.cls ≠ "java/lang/invoke/MethodHandle" ∧ yX12_laidOut.cls ≠ "java/lang/invoke/VarHandle" ∧ (parseMethodDescriptor yX12_laidOut.desc).map (fun d => d.parameters.length) = some 1 := by decide +kernel
set_option maxHeartbeats 4000000 in
set_option maxRecDepth 100000 in
theorem met_laidOut (x1 : Int32) : mg_MI yX12_laidOut wsX12_laidOut rm_laidOut (fun ad => [.ref (ad 0), .int x1]) (fun Q h => wp_laidOut Q x1 h) := by
  refine mg_startI (cc := cX12_laidOut) (maxL := 3) (by decide) rfl rfl (fun ad => Nat.le_of_ble_eq_true rfl) (fun X Q h C hnL E hw => ?_)
  unfold wp_laidOut at hw
  refine mg_sub (lv2 := [(0, .ref (mg_ad X 0)), (1, .int x1)]) [0, 1] rfl ?_
  refine mg_use (hw (fun (y2 : Int32) (h : mg_H) => mg_W X 63 [(1, .int x1), (2, .int y2)] [] h) (fun (s0 : Int32) (s1 : Int32) (h : mg_H) => mg_W X 74 [] [.int s0, .int s1] h) ?_ ?_) (fun hF => ?_)
  · intro y2 h hF
    refine mg_iload_n (pc := 63) C dX12_laidOut_63 1 rfl ?_
    refine mg_iload_n (pc := 64) C dX12_laidOut_64 0 rfl ?_
    refine mg_iconst (pc := 65) (v := 3) C dX12_laidOut_65 (by decide) ?_
    refine mg_icmp_ne (pc := 66) 73 C dX12_laidOut_66 (by decide) (fun hc => ?_) (fun hc => ?_)
    · have hF := hF.1 hc
      refine mg_iconst (pc := 73) (v := 0) C dX12_laidOut_73 (by decide) ?_
      refine mg_sub (lv2 := []) [] rfl ?_
      exact hF
    · have hF := hF.2 hc
      refine mg_iconst (pc := 69) (v := 1) C dX12_laidOut_69 (by decide) ?_
      refine mg_goto (pc := 70) 74 C dX12_laidOut_70 (by decide) ?_
      refine mg_sub (lv2 := []) [] rfl ?_
      exact hF
  · intro s0 s1 h hF
    refine mg_csI (pc := 74) C (fun ad => [.int s1, .int s0]) (met_edge s1 s0) gX12_laidOut_X12_edge rfl ⟨rfl, rfl⟩ nd_edge.2 ⟨Nat.le_of_ble_eq_true rfl, Nat.le_of_ble_eq_true rfl⟩ rfl rfl (Nat.le_of_ble_eq_true rfl) dX12_laidOut_74 hF (fun r20 h19 hF => ?_)
    exact mg_retI (pc := 77) C E dX12_laidOut_77 hF
  · skip
    refine mg_aload_n (pc := 0) C dX12_laidOut_0 0 rfl ?_
    refine mg_ldcw (pc := 1) (v := 1000000) C dX12_laidOut_1 (List.mem_of_getElem? (i := 1) rfl) ?_
    refine mg_cvI (pc := 4) C (fun ad => [.int 1000000]) (met_bitsOf 1000000) gX12_laidOut_X12_bitsOf rfl ⟨rfl, rfl⟩ nd_bitsOf ⟨Nat.le_of_ble_eq_true rfl, Nat.le_of_ble_eq_true rfl⟩ rfl rfl (Nat.le_of_ble_eq_true rfl) dX12_laidOut_4 hF (fun r2 h1 hF => ?_)
    refine mg_istore_n (pc := 7) (lv2 := [(2, .int r2), (0, .ref (mg_ad X 0)), (1, .int x1)]) C dX12_laidOut_7 3 hnL (by decide) rfl ?_
    refine mg_iload_n (pc := 8) C dX12_laidOut_8 2 rfl ?_
    by_cases hs0 : x1 = 0
    · have hF := hF.1 hs0
      refine mg_tabIn (pc := 9) 56 C dX12_laidOut_9 (by rw [hs0]; decide) (by rw [hs0]; decide) (off := 47) (by rw [hs0]; rfl) (by decide) ?_
      refine mg_iload_n (pc := 56) C dX12_laidOut_56 0 rfl ?_
      exact mg_retI (pc := 57) C E dX12_laidOut_57 hF
    have hF := hF.2
    by_cases hs1 : x1 = 1
    · have hF := hF.1 hs1
      refine mg_tabIn (pc := 9) 58 C dX12_laidOut_9 (by rw [hs1]; decide) (by rw [hs1]; decide) (off := 49) (by rw [hs1]; rfl) (by decide) ?_
      refine mg_aload_n (pc := 58) C dX12_laidOut_58 1 rfl ?_
      refine mg_cvI (pc := 59) C (fun ad => []) (met_reachedTops) gX12_laidOut_X12_reachedTops rfl ⟨rfl, rfl⟩ nd_reachedTops ⟨Nat.le_of_ble_eq_true rfl, Nat.le_of_ble_eq_true rfl⟩ rfl rfl (Nat.le_of_ble_eq_true rfl) dX12_laidOut_59 hF (fun r4 h3 hF => ?_)
      exact mg_retI (pc := 62) C E dX12_laidOut_62 hF
    have hF := hF.2
    by_cases hs2 : x1 = 2
    · have hF := hF.1 hs2
      refine mg_tabIn (pc := 9) 63 C dX12_laidOut_9 (by rw [hs2]; decide) (by rw [hs2]; decide) (off := 54) (by rw [hs2]; rfl) (by decide) ?_
      refine mg_sub (lv2 := [(1, .int x1), (2, .int r2)]) [2, 0] rfl ?_
      exact hF
    have hF := hF.2
    by_cases hs3 : x1 = 3
    · have hF := hF.1 hs3
      refine mg_tabIn (pc := 9) 63 C dX12_laidOut_9 (by rw [hs3]; decide) (by rw [hs3]; decide) (off := 54) (by rw [hs3]; rfl) (by decide) ?_
      refine mg_sub (lv2 := [(1, .int x1), (2, .int r2)]) [2, 0] rfl ?_
      exact hF
    have hF := hF.2
    by_cases hs4 : x1 = 4
    · have hF := hF.1 hs4
      refine mg_tabIn (pc := 9) 78 C dX12_laidOut_9 (by rw [hs4]; decide) (by rw [hs4]; decide) (off := 69) (by rw [hs4]; rfl) (by decide) ?_
      refine mg_iload_n (pc := 78) C dX12_laidOut_78 0 rfl ?_
      refine mg_iconst (pc := 79) (v := (-1)) C dX12_laidOut_79 (by decide) ?_
      refine mg_ixor (pc := 80) C dX12_laidOut_80 ?_
      refine mg_iconst (pc := 81) (v := 0) C dX12_laidOut_81 (by decide) ?_
      refine mg_csI (pc := 82) C (fun ad => [.int (r2 ^^^ (-1)), .int 0]) (met_edge (r2 ^^^ (-1)) 0) gX12_laidOut_X12_edge rfl ⟨rfl, rfl⟩ nd_edge.2 ⟨Nat.le_of_ble_eq_true rfl, Nat.le_of_ble_eq_true rfl⟩ rfl rfl (Nat.le_of_ble_eq_true rfl) dX12_laidOut_82 hF (fun r6 h5 hF => ?_)
      exact mg_retI (pc := 85) C E dX12_laidOut_85 hF
    have hF := hF.2
    by_cases hs5 : x1 = 5
    · have hF := hF.1 hs5
      refine mg_tabIn (pc := 9) 86 C dX12_laidOut_9 (by rw [hs5]; decide) (by rw [hs5]; decide) (off := 77) (by rw [hs5]; rfl) (by decide) ?_
      refine mg_iload_n (pc := 86) C dX12_laidOut_86 0 rfl ?_
      refine mg_csI (pc := 87) C (fun ad => [.int r2]) (met_longestRow r2) gX12_laidOut_X12_longestRow rfl ⟨rfl, rfl⟩ nd_longestRow.2 ⟨Nat.le_of_ble_eq_true rfl, Nat.le_of_ble_eq_true rfl⟩ rfl rfl (Nat.le_of_ble_eq_true rfl) dX12_laidOut_87 hF (fun r8 h7 hF => ?_)
      exact mg_retI (pc := 90) C E dX12_laidOut_90 hF
    have hF := hF.2
    by_cases hs6 : x1 = 6
    · have hF := hF.1 hs6
      refine mg_tabIn (pc := 9) 91 C dX12_laidOut_9 (by rw [hs6]; decide) (by rw [hs6]; decide) (off := 82) (by rw [hs6]; rfl) (by decide) ?_
      refine mg_aload_n (pc := 91) C dX12_laidOut_91 1 rfl ?_
      refine mg_cvI (pc := 92) C (fun ad => []) (met_dearest) gX12_laidOut_X12_dearest rfl ⟨rfl, rfl⟩ nd_dearest ⟨Nat.le_of_ble_eq_true rfl, Nat.le_of_ble_eq_true rfl⟩ rfl rfl (Nat.le_of_ble_eq_true rfl) dX12_laidOut_92 hF (fun r10 h9 hF => ?_)
      exact mg_retI (pc := 95) C E dX12_laidOut_95 hF
    have hF := hF.2
    by_cases hs7 : x1 = 7
    · have hF := hF.1 hs7
      refine mg_tabIn (pc := 9) 96 C dX12_laidOut_9 (by rw [hs7]; decide) (by rw [hs7]; decide) (off := 87) (by rw [hs7]; rfl) (by decide) ?_
      refine mg_aload_n (pc := 96) C dX12_laidOut_96 1 rfl ?_
      refine mg_cvI (pc := 97) C (fun ad => []) (met_dearest) gX12_laidOut_X12_dearest rfl ⟨rfl, rfl⟩ nd_dearest ⟨Nat.le_of_ble_eq_true rfl, Nat.le_of_ble_eq_true rfl⟩ rfl rfl (Nat.le_of_ble_eq_true rfl) dX12_laidOut_97 hF (fun r12 h11 hF => ?_)
      refine mg_iconst (pc := 100) (v := (-1)) C dX12_laidOut_100 (by decide) ?_
      refine mg_icmp_ne (pc := 101) 108 C dX12_laidOut_101 (by decide) (fun hc => ?_) (fun hc => ?_)
      · have hF := hF.1 hc
        refine mg_aload_n (pc := 108) C dX12_laidOut_108 1 rfl ?_
        refine mg_aload_n (pc := 109) C dX12_laidOut_109 1 rfl ?_
        refine mg_cvI (pc := 110) C (fun ad => []) (met_dearest) gX12_laidOut_X12_dearest rfl ⟨rfl, rfl⟩ nd_dearest ⟨Nat.le_of_ble_eq_true rfl, Nat.le_of_ble_eq_true rfl⟩ rfl rfl (Nat.le_of_ble_eq_true rfl) dX12_laidOut_110 hF (fun r14 h13 hF => ?_)
        refine mg_cvI (pc := 113) C (fun ad => [.int r14]) (met_leastAt r14) gX12_laidOut_X12_leastAt rfl ⟨rfl, rfl⟩ nd_leastAt ⟨Nat.le_of_ble_eq_true rfl, Nat.le_of_ble_eq_true rfl⟩ rfl rfl (Nat.le_of_ble_eq_true rfl) dX12_laidOut_113 hF (fun r16 h15 hF => ?_)
        exact mg_retI (pc := 116) C E dX12_laidOut_116 hF
      · have hF := hF.2 hc
        refine mg_iconst (pc := 104) (v := 0) C dX12_laidOut_104 (by decide) ?_
        refine mg_goto (pc := 105) 116 C dX12_laidOut_105 (by decide) ?_
        exact mg_retI (pc := 116) C E dX12_laidOut_116 hF
    have hF := hF.2
    have hF := hF hs0 hs1 hs2 hs3 hs4 hs5 hs6 hs7
    refine mg_tabOut (pc := 9) 117 C dX12_laidOut_9 (mg_swd x1 0 7 (fun v h1 h2 => ?_)) (by decide) ?_
    · rcases (show v = 0 ∨ v = 1 ∨ v = 2 ∨ v = 3 ∨ v = 4 ∨ v = 5 ∨ v = 6 ∨ v = 7 by omega) with rfl | rfl | rfl | rfl | rfl | rfl | rfl | rfl
      · exact hs0
      · exact hs1
      · exact hs2
      · exact hs3
      · exact hs4
      · exact hs5
      · exact hs6
      · exact hs7
    refine mg_aload_n (pc := 117) C dX12_laidOut_117 1 rfl ?_
    refine mg_iconst (pc := 118) (v := 0) C dX12_laidOut_118 (by decide) ?_
    refine mg_cvI (pc := 119) C (fun ad => [.int 0]) (met_bitsOf 0) gX12_laidOut_X12_bitsOf rfl ⟨rfl, rfl⟩ nd_bitsOf ⟨Nat.le_of_ble_eq_true rfl, Nat.le_of_ble_eq_true rfl⟩ rfl rfl (Nat.le_of_ble_eq_true rfl) dX12_laidOut_119 hF (fun r18 h17 hF => ?_)
    exact mg_retI (pc := 122) C E dX12_laidOut_122 hF
def rm_times : Room := { frames := 5, cells := 0, slots := 0, locals := 117 }
theorem nd_times : yX12_times.cls = RX12 ∧ yX12_times.cls ≠ "java/lang/invoke/MethodHandle" ∧ yX12_times.cls ≠ "java/lang/invoke/VarHandle" ∧ (parseMethodDescriptor yX12_times.desc).map (fun d => d.parameters.length) = some 2 := by decide +kernel
theorem inm_times : ∀ w ∈ wsX120, w ∈ wsX12_times := fun _ h9 => List.mem_cons_of_mem _ (List.mem_append_right _ h9)
set_option maxHeartbeats 4000000 in
set_option maxRecDepth 100000 in
theorem met_times (x1 : Int32) (x2 : Int32) : mg_MI yX12_times wsX12_times rm_times (fun ad => [.ref (ad 0), .int x1, .int x2]) (fun Q h => wp_times Q x1 x2 h) := by
  refine mg_startI (cc := cX12_times) (maxL := 3) (by decide) rfl rfl (fun ad => Nat.le_of_ble_eq_true rfl) (fun X Q h C hnL E hw => ?_)
  unfold wp_times at hw
  refine mg_sub (lv2 := [(0, .ref (mg_ad X 0)), (1, .int x1), (2, .int x2)]) [0, 1, 2] rfl ?_
  have hF := hw
  refine mg_aload_n (pc := 0) C dX12_times_0 0 rfl ?_
  refine mg_iconst (pc := 1) (v := 0) C dX12_times_1 (by decide) ?_
  refine mg_puti (pc := 2) C inm_times 0 (by decide) rfl (by decide) dX12_times_2 (List.mem_of_getElem? (i := 1) rfl) rfl (tyX12_ok 0 (by decide)) (fun h1 eh1 => ?_)
  have hF := hF h1 eh1
  refine mg_aload_n (pc := 5) C dX12_times_5 0 rfl ?_
  refine mg_iload_n (pc := 6) C dX12_times_6 1 rfl ?_
  refine mg_cvI (pc := 7) C (fun ad => [.int x1]) (met_hand x1) gX12_times_X12_hand rfl ⟨rfl, rfl⟩ nd_hand ⟨Nat.le_of_ble_eq_true rfl, Nat.le_of_ble_eq_true rfl⟩ rfl rfl (Nat.le_of_ble_eq_true rfl) dX12_times_7 hF (fun r3 h2 hF => ?_)
  refine mg_if_ne (pc := 10) 16 C dX12_times_10 (by decide) (fun hc => ?_) (fun hc => ?_)
  · have hF := hF.1 hc
    refine mg_iload_n (pc := 16) C dX12_times_16 2 rfl ?_
    refine mg_bipush (pc := 17) (v := 20) C dX12_times_17 (by decide) ?_
    refine mg_bipush (pc := 19) (v := 23) C dX12_times_19 (by decide) ?_
    refine mg_csI (pc := 21) C (fun ad => [.int x2, .int 20, .int 23]) (met_in x2 20 23) gX12_times_X12_in rfl ⟨rfl, rfl⟩ nd_in.2 ⟨Nat.le_of_ble_eq_true rfl, Nat.le_of_ble_eq_true rfl⟩ rfl rfl (Nat.le_of_ble_eq_true rfl) dX12_times_21 hF (fun r5 h4 hF => ?_)
    refine mg_if_eq (pc := 24) 54 C dX12_times_24 (by decide) (fun hc => ?_) (fun hc => ?_)
    · have hF := hF.1 hc
      refine mg_iload_n (pc := 54) C dX12_times_54 2 rfl ?_
      refine mg_iconst (pc := 55) (v := 0) C dX12_times_55 (by decide) ?_
      refine mg_bipush (pc := 56) (v := 8) C dX12_times_56 (by decide) ?_
      refine mg_csI (pc := 58) C (fun ad => [.int x2, .int 0, .int 8]) (met_in x2 0 8) gX12_times_X12_in rfl ⟨rfl, rfl⟩ nd_in.2 ⟨Nat.le_of_ble_eq_true rfl, Nat.le_of_ble_eq_true rfl⟩ rfl rfl (Nat.le_of_ble_eq_true rfl) dX12_times_58 hF (fun r7 h6 hF => ?_)
      refine mg_if_eq (pc := 61) 75 C dX12_times_61 (by decide) (fun hc => ?_) (fun hc => ?_)
      · have hF := hF.1 hc
        refine mg_iload_n (pc := 75) C dX12_times_75 2 rfl ?_
        by_cases hs0 : x2 = 9
        · have hF := hF.1 hs0
          refine mg_tabIn (pc := 76) 116 C dX12_times_76 (by rw [hs0]; decide) (by rw [hs0]; decide) (off := 40) (by rw [hs0]; rfl) (by decide) ?_
          refine mg_aload_n (pc := 116) C dX12_times_116 0 rfl ?_
          refine mg_cvI (pc := 117) C (fun ad => []) (met_commonSize) gX12_times_X12_commonSize rfl ⟨rfl, rfl⟩ nd_commonSize ⟨Nat.le_of_ble_eq_true rfl, Nat.le_of_ble_eq_true rfl⟩ rfl rfl (Nat.le_of_ble_eq_true rfl) dX12_times_117 hF (fun r9 h8 hF => ?_)
          exact mg_retI (pc := 120) C E dX12_times_120 hF
        have hF := hF.2
        by_cases hs1 : x2 = 10
        · have hF := hF.1 hs1
          refine mg_tabIn (pc := 76) 121 C dX12_times_76 (by rw [hs1]; decide) (by rw [hs1]; decide) (off := 45) (by rw [hs1]; rfl) (by decide) ?_
          refine mg_aload_n (pc := 121) C dX12_times_121 0 rfl ?_
          refine mg_cvI (pc := 122) C (fun ad => []) (met_sand) gX12_times_X12_sand rfl ⟨rfl, rfl⟩ nd_sand ⟨Nat.le_of_ble_eq_true rfl, Nat.le_of_ble_eq_true rfl⟩ rfl rfl (Nat.le_of_ble_eq_true rfl) dX12_times_122 hF (fun r11 h10 hF => ?_)
          exact mg_retI (pc := 125) C E dX12_times_125 hF
        have hF := hF.2
        by_cases hs2 : x2 = 11
        · have hF := hF.1 hs2
          refine mg_tabIn (pc := 76) 126 C dX12_times_76 (by rw [hs2]; decide) (by rw [hs2]; decide) (off := 50) (by rw [hs2]; rfl) (by decide) ?_
          refine mg_aload_n (pc := 126) C dX12_times_126 0 rfl ?_
          refine mg_cvI (pc := 127) C (fun ad => []) (met_even) gX12_times_X12_even rfl ⟨rfl, rfl⟩ nd_even ⟨Nat.le_of_ble_eq_true rfl, Nat.le_of_ble_eq_true rfl⟩ rfl rfl (Nat.le_of_ble_eq_true rfl) dX12_times_127 hF (fun r13 h12 hF => ?_)
          exact mg_retI (pc := 130) C E dX12_times_130 hF
        have hF := hF.2
        by_cases hs3 : x2 = 12
        · have hF := hF.1 hs3
          refine mg_tabIn (pc := 76) 131 C dX12_times_76 (by rw [hs3]; decide) (by rw [hs3]; decide) (off := 55) (by rw [hs3]; rfl) (by decide) ?_
          refine mg_aload_n (pc := 131) C dX12_times_131 0 rfl ?_
          refine mg_cvI (pc := 132) C (fun ad => []) (met_dry) gX12_times_X12_dry rfl ⟨rfl, rfl⟩ nd_dry ⟨Nat.le_of_ble_eq_true rfl, Nat.le_of_ble_eq_true rfl⟩ rfl rfl (Nat.le_of_ble_eq_true rfl) dX12_times_132 hF (fun r15 h14 hF => ?_)
          exact mg_retI (pc := 135) C E dX12_times_135 hF
        have hF := hF.2
        by_cases hs4 : x2 = 13
        · have hF := hF.1 hs4
          refine mg_tabIn (pc := 76) 136 C dX12_times_76 (by rw [hs4]; decide) (by rw [hs4]; decide) (off := 60) (by rw [hs4]; rfl) (by decide) ?_
          refine mg_aload_n (pc := 136) C dX12_times_136 0 rfl ?_
          refine mg_cvI (pc := 137) C (fun ad => []) (met_like) gX12_times_X12_like rfl ⟨rfl, rfl⟩ nd_like ⟨Nat.le_of_ble_eq_true rfl, Nat.le_of_ble_eq_true rfl⟩ rfl rfl (Nat.le_of_ble_eq_true rfl) dX12_times_137 hF (fun r17 h16 hF => ?_)
          exact mg_retI (pc := 140) C E dX12_times_140 hF
        have hF := hF.2
        by_cases hs5 : x2 = 14
        · have hF := hF.1 hs5
          refine mg_tabIn (pc := 76) 141 C dX12_times_76 (by rw [hs5]; decide) (by rw [hs5]; decide) (off := 65) (by rw [hs5]; rfl) (by decide) ?_
          refine mg_aload_n (pc := 141) C dX12_times_141 0 rfl ?_
          refine mg_iconst (pc := 142) (v := 0) C dX12_times_142 (by decide) ?_
          refine mg_cvV (pc := 143) C (fun ad => [.int 0]) (met_layOut 0) gX12_times_X12_layOut rfl ⟨rfl, rfl⟩ nd_layOut ⟨Nat.le_of_ble_eq_true rfl, Nat.le_of_ble_eq_true rfl⟩ rfl rfl (Nat.le_of_ble_eq_true rfl) dX12_times_143 hF (fun h18 hF => ?_)
          refine mg_aload_n (pc := 146) C dX12_times_146 0 rfl ?_
          refine mg_cvI (pc := 147) C (fun ad => []) (met_still) gX12_times_X12_still rfl ⟨rfl, rfl⟩ nd_still ⟨Nat.le_of_ble_eq_true rfl, Nat.le_of_ble_eq_true rfl⟩ rfl rfl (Nat.le_of_ble_eq_true rfl) dX12_times_147 hF (fun r20 h19 hF => ?_)
          exact mg_retI (pc := 150) C E dX12_times_150 hF
        have hF := hF.2
        have hF := hF hs0 hs1 hs2 hs3 hs4 hs5
        refine mg_tabOut (pc := 76) 151 C dX12_times_76 (mg_swd x2 9 14 (fun v h1 h2 => ?_)) (by decide) ?_
        · rcases (show v = 9 ∨ v = 10 ∨ v = 11 ∨ v = 12 ∨ v = 13 ∨ v = 14 by omega) with rfl | rfl | rfl | rfl | rfl | rfl
          · exact hs0
          · exact hs1
          · exact hs2
          · exact hs3
          · exact hs4
          · exact hs5
        refine mg_bipush (pc := 151) (v := (-2)) C dX12_times_151 (by decide) ?_
        exact mg_retI (pc := 153) C E dX12_times_153 hF
      · have hF := hF.2 hc
        refine mg_aload_n (pc := 64) C dX12_times_64 0 rfl ?_
        refine mg_iconst (pc := 65) (v := 0) C dX12_times_65 (by decide) ?_
        refine mg_cvV (pc := 66) C (fun ad => [.int 0]) (met_layOut 0) gX12_times_X12_layOut rfl ⟨rfl, rfl⟩ nd_layOut ⟨Nat.le_of_ble_eq_true rfl, Nat.le_of_ble_eq_true rfl⟩ rfl rfl (Nat.le_of_ble_eq_true rfl) dX12_times_66 hF (fun h21 hF => ?_)
        refine mg_aload_n (pc := 69) C dX12_times_69 0 rfl ?_
        refine mg_iload_n (pc := 70) C dX12_times_70 2 rfl ?_
        refine mg_cvI (pc := 71) C (fun ad => [.int x2]) (met_laidOut x2) gX12_times_X12_laidOut rfl ⟨rfl, rfl⟩ nd_laidOut ⟨Nat.le_of_ble_eq_true rfl, Nat.le_of_ble_eq_true rfl⟩ rfl rfl (Nat.le_of_ble_eq_true rfl) dX12_times_71 hF (fun r23 h22 hF => ?_)
        exact mg_retI (pc := 74) C E dX12_times_74 hF
    · have hF := hF.2 hc
      refine mg_aload_n (pc := 27) C dX12_times_27 0 rfl ?_
      refine mg_iload_n (pc := 28) C dX12_times_28 2 rfl ?_
      refine mg_bipush (pc := 29) (v := 20) C dX12_times_29 (by decide) ?_
      refine mg_isub (pc := 31) C dX12_times_31 ?_
      refine mg_cvI (pc := 32) C (fun ad => [.int (x2 - 20)]) (met_isGlass (x2 - 20)) gX12_times_X12_isGlass rfl ⟨rfl, rfl⟩ nd_isGlass ⟨Nat.le_of_ble_eq_true rfl, Nat.le_of_ble_eq_true rfl⟩ rfl rfl (Nat.le_of_ble_eq_true rfl) dX12_times_32 hF (fun r25 h24 hF => ?_)
      refine mg_if_eq (pc := 35) 51 C dX12_times_35 (by decide) (fun hc => ?_) (fun hc => ?_)
      · have hF := hF.1 hc
        refine mg_bipush (pc := 51) (v := (-2)) C dX12_times_51 (by decide) ?_
        exact mg_retI (pc := 53) C E dX12_times_53 hF
      · have hF := hF.2 hc
        refine mg_aload_n (pc := 38) C dX12_times_38 0 rfl ?_
        refine mg_iconst (pc := 39) (v := 1) C dX12_times_39 (by decide) ?_
        refine mg_iload_n (pc := 40) C dX12_times_40 2 rfl ?_
        refine mg_bipush (pc := 41) (v := 20) C dX12_times_41 (by decide) ?_
        refine mg_isub (pc := 43) C dX12_times_43 ?_
        refine mg_ishl (pc := 44) C dX12_times_44 ?_
        refine mg_cvI (pc := 45) C (fun ad => [.int (1 <<< ((x2 - 20) &&& 31))]) (met_timesOf (1 <<< ((x2 - 20) &&& 31))) gX12_times_X12_timesOf rfl ⟨rfl, rfl⟩ nd_timesOf ⟨Nat.le_of_ble_eq_true rfl, Nat.le_of_ble_eq_true rfl⟩ rfl rfl (Nat.le_of_ble_eq_true rfl) dX12_times_45 hF (fun r27 h26 hF => ?_)
        refine mg_goto (pc := 48) 53 C dX12_times_48 (by decide) ?_
        exact mg_retI (pc := 53) C E dX12_times_53 hF
  · have hF := hF.2 hc
    refine mg_bipush (pc := 13) (v := (-2)) C dX12_times_13 (by decide) ?_
    exact mg_retI (pc := 15) C E dX12_times_15 hF
def rm_couples : Room := { frames := 5, cells := 0, slots := 0, locals := 117 }
theorem nd_couples : yX12_couples.cls = RX12 ∧ yX12_couples.cls ≠ "java/lang/invoke/MethodHandle" ∧ yX12_couples.cls ≠ "java/lang/invoke/VarHandle" ∧ (parseMethodDescriptor yX12_couples.desc).map (fun d => d.parameters.length) = some 2 := by decide +kernel
theorem inm_couples : ∀ w ∈ wsX120, w ∈ wsX12_couples := fun _ h9 => List.mem_cons_of_mem _ (List.mem_append_right _ h9)
set_option maxHeartbeats 4000000 in
set_option maxRecDepth 100000 in
theorem met_couples (x1 : Int32) (x2 : Int32) : mg_MI yX12_couples wsX12_couples rm_couples (fun ad => [.ref (ad 0), .int x1, .int x2]) (fun Q h => wp_couples Q x1 x2 h) := by
  refine mg_startI (cc := cX12_couples) (maxL := 6) (by decide) rfl rfl (fun ad => Nat.le_of_ble_eq_true rfl) (fun X Q h C hnL E hw => ?_)
  unfold wp_couples at hw
  refine mg_sub (lv2 := [(0, .ref (mg_ad X 0)), (1, .int x1), (2, .int x2)]) [0, 1, 2] rfl ?_
  refine mg_use (hw (fun (y3 : Int32) (y4 : Int32) (h : mg_H) => mg_W X 30 [(0, .ref (mg_ad X 0)), (2, .int x2), (3, .int y3), (4, .int y4)] [] h) (fun (y3 : Int32) (y4 : Int32) (y5 : Int32) (h : mg_H) => mg_W X 42 [(0, .ref (mg_ad X 0)), (2, .int x2), (3, .int y3), (4, .int y4), (5, .int y5)] [] h) (fun (y4 : Int32) (y5 : Int32) (s0 : Int32) (s1 : Int32) (h : mg_H) => mg_W X 75 [(0, .ref (mg_ad X 0)), (2, .int x2), (4, .int y4), (5, .int y5)] [.int s0, .int s1] h) ?_ ?_ ?_) (fun hF => ?_)
  · intro y3 y4 h hF
    refine mg_iload (pc := 30) C dX12_couples_30 3 rfl ?_
    refine mg_aload_n (pc := 32) C dX12_couples_32 0 rfl ?_
    refine mg_geti (pc := 33) C inm_couples 24 (by decide) rfl (by decide) dX12_couples_33 (List.mem_of_getElem? (i := 2) rfl) ?_
    refine mg_icmp_ge (pc := 36) 89 C dX12_couples_36 (by decide) (fun hc => ?_) (fun hc => ?_)
    · have hF := hF.1 hc
      refine mg_iload_n (pc := 89) C dX12_couples_89 2 rfl ?_
      exact mg_retI (pc := 90) C E dX12_couples_90 hF
    · have hF := hF.2 hc
      refine mg_iconst (pc := 39) (v := 0) C dX12_couples_39 (by decide) ?_
      refine mg_istore (pc := 40) (lv2 := [(5, .int 0), (0, .ref (mg_ad X 0)), (2, .int x2), (3, .int y3), (4, .int y4)]) C dX12_couples_40 6 hnL (by decide) rfl ?_
      refine mg_sub (lv2 := [(0, .ref (mg_ad X 0)), (2, .int x2), (3, .int y3), (4, .int y4), (5, .int 0)]) [1, 2, 3, 4, 0] rfl ?_
      exact hF
  · intro y3 y4 y5 h hF
    refine mg_iload (pc := 42) C dX12_couples_42 4 rfl ?_
    refine mg_iload (pc := 44) C dX12_couples_44 3 rfl ?_
    refine mg_icmp_ge (pc := 46) 83 C dX12_couples_46 (by decide) (fun hc => ?_) (fun hc => ?_)
    · have hF := hF.1 hc
      obtain ⟨z6, ez6⟩ : ∃ y : Int32, y = y4 + 1 := ⟨_, rfl⟩
      have hF := hF z6 ez6
      refine mg_iinc (pc := 83) (v := z6) (lv2 := [(4, .int z6), (0, .ref (mg_ad X 0)), (2, .int x2), (3, .int y3), (5, .int y5)]) C dX12_couples_83 3 rfl (by rw [ez6]; rfl) 6 hnL (by decide) rfl ?_
      refine mg_goto (pc := 86) 30 C dX12_couples_86 (by decide) ?_
      refine mg_sub (lv2 := [(0, .ref (mg_ad X 0)), (2, .int x2), (3, .int y3), (4, .int z6)]) [1, 2, 3, 0] rfl ?_
      exact hF
    · have hF := hF.2 hc
      refine mg_iload_n (pc := 49) C dX12_couples_49 2 rfl ?_
      refine mg_aload_n (pc := 50) C dX12_couples_50 0 rfl ?_
      refine mg_iconst (pc := 51) (v := 1) C dX12_couples_51 (by decide) ?_
      refine mg_iload (pc := 52) C dX12_couples_52 3 rfl ?_
      refine mg_ishl (pc := 54) C dX12_couples_54 ?_
      refine mg_iconst (pc := 55) (v := 1) C dX12_couples_55 (by decide) ?_
      refine mg_iload (pc := 56) C dX12_couples_56 4 rfl ?_
      refine mg_ishl (pc := 58) C dX12_couples_58 ?_
      refine mg_ior (pc := 59) C dX12_couples_59 ?_
      refine mg_cvI (pc := 60) C (fun ad => [.int ((1 <<< (y4 &&& 31)) ||| (1 <<< (y5 &&& 31)))]) (met_timesOf ((1 <<< (y4 &&& 31)) ||| (1 <<< (y5 &&& 31)))) gX12_couples_X12_timesOf rfl ⟨rfl, rfl⟩ nd_timesOf ⟨Nat.le_of_ble_eq_true rfl, Nat.le_of_ble_eq_true rfl⟩ rfl rfl (Nat.le_of_ble_eq_true rfl) dX12_couples_60 hF (fun r8 h7 hF => ?_)
      refine mg_iload_n (pc := 63) C dX12_couples_63 1 rfl ?_
      refine mg_csI (pc := 64) C (fun ad => [.int r8, .int x2]) (met_has r8 x2) gX12_couples_X12_has rfl ⟨rfl, rfl⟩ nd_has.2 ⟨Nat.le_of_ble_eq_true rfl, Nat.le_of_ble_eq_true rfl⟩ rfl rfl (Nat.le_of_ble_eq_true rfl) dX12_couples_64 hF (fun r10 h9 hF => ?_)
      refine mg_if_eq (pc := 67) 74 C dX12_couples_67 (by decide) (fun hc => ?_) (fun hc => ?_)
      · have hF := hF.1 hc
        refine mg_iconst (pc := 74) (v := 0) C dX12_couples_74 (by decide) ?_
        refine mg_sub (lv2 := [(0, .ref (mg_ad X 0)), (2, .int x2), (4, .int y4), (5, .int y5)]) [0, 1, 3, 4] rfl ?_
        exact hF
      · have hF := hF.2 hc
        refine mg_iconst (pc := 70) (v := 1) C dX12_couples_70 (by decide) ?_
        refine mg_goto (pc := 71) 75 C dX12_couples_71 (by decide) ?_
        refine mg_sub (lv2 := [(0, .ref (mg_ad X 0)), (2, .int x2), (4, .int y4), (5, .int y5)]) [0, 1, 3, 4] rfl ?_
        exact hF
  · intro y4 y5 s0 s1 h hF
    refine mg_iadd (pc := 75) C dX12_couples_75 ?_
    refine mg_topi (pc := 76) (fun z11 ez11 => ?_)
    have hF := hF z11 ez11
    refine mg_istore_n (pc := 76) (lv2 := [(3, .int z11), (0, .ref (mg_ad X 0)), (2, .int x2), (4, .int y4), (5, .int y5)]) C dX12_couples_76 6 hnL (by decide) rfl ?_
    obtain ⟨z12, ez12⟩ : ∃ y : Int32, y = y5 + 1 := ⟨_, rfl⟩
    have hF := hF z12 ez12
    refine mg_iinc (pc := 77) (v := z12) (lv2 := [(5, .int z12), (3, .int z11), (0, .ref (mg_ad X 0)), (2, .int x2), (4, .int y4)]) C dX12_couples_77 4 rfl (by rw [ez12]; rfl) 6 hnL (by decide) rfl ?_
    refine mg_goto (pc := 80) 42 C dX12_couples_80 (by decide) ?_
    refine mg_sub (lv2 := [(0, .ref (mg_ad X 0)), (2, .int x2), (3, .int z11), (4, .int y4), (5, .int z12)]) [2, 3, 1, 4, 0] rfl ?_
    exact hF
  · skip
    refine mg_aload_n (pc := 0) C dX12_couples_0 0 rfl ?_
    refine mg_iconst (pc := 1) (v := 0) C dX12_couples_1 (by decide) ?_
    refine mg_puti (pc := 2) C inm_couples 0 (by decide) rfl (by decide) dX12_couples_2 (List.mem_of_getElem? (i := 1) rfl) rfl (tyX12_ok 0 (by decide)) (fun h1 eh1 => ?_)
    have hF := hF h1 eh1
    refine mg_iload_n (pc := 5) C dX12_couples_5 2 rfl ?_
    refine mg_iconst (pc := 6) (v := 1) C dX12_couples_6 (by decide) ?_
    refine mg_bipush (pc := 7) (v := 30) C dX12_couples_7 (by decide) ?_
    refine mg_csI (pc := 9) C (fun ad => [.int x2, .int 1, .int 30]) (met_in x2 1 30) gX12_couples_X12_in rfl ⟨rfl, rfl⟩ nd_in.2 ⟨Nat.le_of_ble_eq_true rfl, Nat.le_of_ble_eq_true rfl⟩ rfl rfl (Nat.le_of_ble_eq_true rfl) dX12_couples_9 hF (fun r3 h2 hF => ?_)
    refine mg_if_eq (pc := 12) 23 C dX12_couples_12 (by decide) (fun hc => ?_) (fun hc => ?_)
    · have hF := hF.1 hc
      refine mg_iconst (pc := 23) (v := (-1)) C dX12_couples_23 (by decide) ?_
      exact mg_retI (pc := 24) C E dX12_couples_24 hF
    · have hF := hF.2 hc
      refine mg_aload_n (pc := 15) C dX12_couples_15 0 rfl ?_
      refine mg_iload_n (pc := 16) C dX12_couples_16 1 rfl ?_
      refine mg_cvI (pc := 17) C (fun ad => [.int x1]) (met_hand x1) gX12_couples_X12_hand rfl ⟨rfl, rfl⟩ nd_hand ⟨Nat.le_of_ble_eq_true rfl, Nat.le_of_ble_eq_true rfl⟩ rfl rfl (Nat.le_of_ble_eq_true rfl) dX12_couples_17 hF (fun r5 h4 hF => ?_)
      refine mg_if_ne (pc := 20) 25 C dX12_couples_20 (by decide) (fun hc => ?_) (fun hc => ?_)
      · have hF := hF.1 hc
        refine mg_iconst (pc := 25) (v := 0) C dX12_couples_25 (by decide) ?_
        refine mg_istore_n (pc := 26) (lv2 := [(3, .int 0), (0, .ref (mg_ad X 0)), (1, .int x1), (2, .int x2)]) C dX12_couples_26 6 hnL (by decide) rfl ?_
        refine mg_iconst (pc := 27) (v := 0) C dX12_couples_27 (by decide) ?_
        refine mg_istore (pc := 28) (lv2 := [(4, .int 0), (3, .int 0), (0, .ref (mg_ad X 0)), (1, .int x1), (2, .int x2)]) C dX12_couples_28 6 hnL (by decide) rfl ?_
        refine mg_sub (lv2 := [(0, .ref (mg_ad X 0)), (2, .int x2), (3, .int 0), (4, .int 0)]) [2, 4, 1, 0] rfl ?_
        exact hF
      · have hF := hF.2 hc
        refine mg_iconst (pc := 23) (v := (-1)) C dX12_couples_23 (by decide) ?_
        exact mg_retI (pc := 24) C E dX12_couples_24 hF
def rm_crowd : Room := { frames := 4, cells := 0, slots := 0, locals := 96 }
theorem nd_crowd : yX12_crowd.cls = RX12 ∧ yX12_crowd.cls ≠ "java/lang/invoke/MethodHandle" ∧ yX12_crowd.cls ≠ "java/lang/invoke/VarHandle" ∧ (parseMethodDescriptor yX12_crowd.desc).map (fun d => d.parameters.length) = some 2 := by decide +kernel
theorem inm_crowd : ∀ w ∈ wsX120, w ∈ wsX12_crowd := fun _ h9 => List.mem_cons_of_mem _ (List.mem_append_right _ h9)
set_option maxHeartbeats 4000000 in
set_option maxRecDepth 100000 in
theorem met_crowd (x1 : Int32) (x2 : Int32) : mg_MI yX12_crowd wsX12_crowd rm_crowd (fun ad => [.ref (ad 0), .int x1, .int x2]) (fun Q h => wp_crowd Q x1 x2 h) := by
  refine mg_startI (cc := cX12_crowd) (maxL := 5) (by decide) rfl rfl (fun ad => Nat.le_of_ble_eq_true rfl) (fun X Q h C hnL E hw => ?_)
  unfold wp_crowd at hw
  refine mg_sub (lv2 := [(0, .ref (mg_ad X 0)), (1, .int x1), (2, .int x2)]) [0, 1, 2] rfl ?_
  refine mg_use (hw (fun (y3 : Int32) (y4 : Int32) (h : mg_H) => mg_W X 35 [(0, .ref (mg_ad X 0)), (2, .int x2), (3, .int y3), (4, .int y4)] [] h) (fun (y4 : Int32) (s0 : Int32) (s1 : Int32) (h : mg_H) => mg_W X 66 [(0, .ref (mg_ad X 0)), (2, .int x2), (4, .int y4)] [.int s0, .int s1] h) ?_ ?_) (fun hF => ?_)
  · intro y3 y4 h hF
    refine mg_iload (pc := 35) C dX12_crowd_35 3 rfl ?_
    refine mg_sipush (pc := 37) (v := 4096) C dX12_crowd_37 (by decide) ?_
    refine mg_icmp_ge (pc := 40) 74 C dX12_crowd_40 (by decide) (fun hc => ?_) (fun hc => ?_)
    · have hF := hF.1 hc
      refine mg_iload_n (pc := 74) C dX12_crowd_74 2 rfl ?_
      exact mg_retI (pc := 75) C E dX12_crowd_75 hF
    · have hF := hF.2 hc
      refine mg_iload_n (pc := 43) C dX12_crowd_43 2 rfl ?_
      refine mg_aload_n (pc := 44) C dX12_crowd_44 0 rfl ?_
      refine mg_getr (pc := 45) C inm_crowd 40 (by decide) (by decide) dX12_crowd_45 (List.mem_of_getElem? (i := 2) rfl) ?_
      refine mg_sipush (pc := 48) (v := 4096) C dX12_crowd_48 (by decide) ?_
      refine mg_iload_n (pc := 51) C dX12_crowd_51 1 rfl ?_
      refine mg_imul (pc := 52) C dX12_crowd_52 ?_
      refine mg_iload (pc := 53) C dX12_crowd_53 3 rfl ?_
      refine mg_iadd (pc := 55) C dX12_crowd_55 ?_
      obtain ⟨hi, hF⟩ := hF
      refine mg_iald (pc := 56) C (by decide) rfl hi dX12_crowd_56 ?_
      refine mg_iconst (pc := 57) (v := (-1)) C dX12_crowd_57 (by decide) ?_
      refine mg_icmp_eq (pc := 58) 65 C dX12_crowd_58 (by decide) (fun hc => ?_) (fun hc => ?_)
      · have hF := hF.1 hc
        refine mg_iconst (pc := 65) (v := 0) C dX12_crowd_65 (by decide) ?_
        refine mg_sub (lv2 := [(0, .ref (mg_ad X 0)), (2, .int x2), (4, .int y4)]) [0, 1, 3] rfl ?_
        exact hF
      · have hF := hF.2 hc
        refine mg_iconst (pc := 61) (v := 1) C dX12_crowd_61 (by decide) ?_
        refine mg_goto (pc := 62) 66 C dX12_crowd_62 (by decide) ?_
        refine mg_sub (lv2 := [(0, .ref (mg_ad X 0)), (2, .int x2), (4, .int y4)]) [0, 1, 3] rfl ?_
        exact hF
  · intro y4 s0 s1 h hF
    refine mg_iadd (pc := 66) C dX12_crowd_66 ?_
    refine mg_topi (pc := 67) (fun z7 ez7 => ?_)
    have hF := hF z7 ez7
    refine mg_istore_n (pc := 67) (lv2 := [(3, .int z7), (0, .ref (mg_ad X 0)), (2, .int x2), (4, .int y4)]) C dX12_crowd_67 5 hnL (by decide) rfl ?_
    obtain ⟨z8, ez8⟩ : ∃ y : Int32, y = y4 + 1 := ⟨_, rfl⟩
    have hF := hF z8 ez8
    refine mg_iinc (pc := 68) (v := z8) (lv2 := [(4, .int z8), (3, .int z7), (0, .ref (mg_ad X 0)), (2, .int x2)]) C dX12_crowd_68 3 rfl (by rw [ez8]; rfl) 5 hnL (by decide) rfl ?_
    refine mg_goto (pc := 71) 35 C dX12_crowd_71 (by decide) ?_
    refine mg_sub (lv2 := [(0, .ref (mg_ad X 0)), (2, .int x2), (3, .int z7), (4, .int z8)]) [2, 3, 1, 0] rfl ?_
    exact hF
  · skip
    refine mg_aload_n (pc := 0) C dX12_crowd_0 0 rfl ?_
    refine mg_iconst (pc := 1) (v := 0) C dX12_crowd_1 (by decide) ?_
    refine mg_puti (pc := 2) C inm_crowd 0 (by decide) rfl (by decide) dX12_crowd_2 (List.mem_of_getElem? (i := 1) rfl) rfl (tyX12_ok 0 (by decide)) (fun h1 eh1 => ?_)
    have hF := hF h1 eh1
    refine mg_iload_n (pc := 5) C dX12_crowd_5 2 rfl ?_
    refine mg_iconst (pc := 6) (v := 0) C dX12_crowd_6 (by decide) ?_
    refine mg_bipush (pc := 7) (v := 30) C dX12_crowd_7 (by decide) ?_
    refine mg_csI (pc := 9) C (fun ad => [.int x2, .int 0, .int 30]) (met_in x2 0 30) gX12_crowd_X12_in rfl ⟨rfl, rfl⟩ nd_in.2 ⟨Nat.le_of_ble_eq_true rfl, Nat.le_of_ble_eq_true rfl⟩ rfl rfl (Nat.le_of_ble_eq_true rfl) dX12_crowd_9 hF (fun r3 h2 hF => ?_)
    refine mg_if_eq (pc := 12) 23 C dX12_crowd_12 (by decide) (fun hc => ?_) (fun hc => ?_)
    · have hF := hF.1 hc
      refine mg_iconst (pc := 23) (v := (-1)) C dX12_crowd_23 (by decide) ?_
      exact mg_retI (pc := 24) C E dX12_crowd_24 hF
    · have hF := hF.2 hc
      refine mg_aload_n (pc := 15) C dX12_crowd_15 0 rfl ?_
      refine mg_iload_n (pc := 16) C dX12_crowd_16 1 rfl ?_
      refine mg_cvI (pc := 17) C (fun ad => [.int x1]) (met_hand x1) gX12_crowd_X12_hand rfl ⟨rfl, rfl⟩ nd_hand ⟨Nat.le_of_ble_eq_true rfl, Nat.le_of_ble_eq_true rfl⟩ rfl rfl (Nat.le_of_ble_eq_true rfl) dX12_crowd_17 hF (fun r5 h4 hF => ?_)
      refine mg_if_ne (pc := 20) 25 C dX12_crowd_20 (by decide) (fun hc => ?_) (fun hc => ?_)
      · have hF := hF.1 hc
        refine mg_aload_n (pc := 25) C dX12_crowd_25 0 rfl ?_
        refine mg_iconst (pc := 26) (v := 0) C dX12_crowd_26 (by decide) ?_
        refine mg_cvV (pc := 27) C (fun ad => [.int 0]) (met_layOut 0) gX12_crowd_X12_layOut rfl ⟨rfl, rfl⟩ nd_layOut ⟨Nat.le_of_ble_eq_true rfl, Nat.le_of_ble_eq_true rfl⟩ rfl rfl (Nat.le_of_ble_eq_true rfl) dX12_crowd_27 hF (fun h6 hF => ?_)
        refine mg_iconst (pc := 30) (v := 0) C dX12_crowd_30 (by decide) ?_
        refine mg_istore_n (pc := 31) (lv2 := [(3, .int 0), (0, .ref (mg_ad X 0)), (1, .int x1), (2, .int x2)]) C dX12_crowd_31 5 hnL (by decide) rfl ?_
        refine mg_iconst (pc := 32) (v := 0) C dX12_crowd_32 (by decide) ?_
        refine mg_istore (pc := 33) (lv2 := [(4, .int 0), (3, .int 0), (0, .ref (mg_ad X 0)), (1, .int x1), (2, .int x2)]) C dX12_crowd_33 5 hnL (by decide) rfl ?_
        refine mg_sub (lv2 := [(0, .ref (mg_ad X 0)), (2, .int x2), (3, .int 0), (4, .int 0)]) [2, 4, 1, 0] rfl ?_
        exact hF
      · have hF := hF.2 hc
        refine mg_iconst (pc := 23) (v := (-1)) C dX12_crowd_23 (by decide) ?_
        exact mg_retI (pc := 24) C E dX12_crowd_24 hF
def rm_same : Room := { frames := 3, cells := 0, slots := 0, locals := 65 }
theorem nd_same : yX12_same.cls = RX12 ∧ yX12_same.cls ≠ "java/lang/invoke/MethodHandle" ∧ yX12_same.cls ≠ "java/lang/invoke/VarHandle" ∧ (parseMethodDescriptor yX12_same.desc).map (fun d => d.parameters.length) = some 2 := by decide +kernel
theorem inm_same : ∀ w ∈ wsX120, w ∈ wsX12_same := fun _ h9 => List.mem_cons_of_mem _ (List.mem_append_right _ h9)
set_option maxHeartbeats 4000000 in
set_option maxRecDepth 100000 in
theorem met_same (x1 : Int32) (x2 : Int32) : mg_MI yX12_same wsX12_same rm_same (fun ad => [.ref (ad 0), .int x1, .int x2]) (fun Q h => wp_same Q x1 x2 h) := by
  refine mg_startI (cc := cX12_same) (maxL := 6) (by decide) rfl rfl (fun ad => Nat.le_of_ble_eq_true rfl) (fun X Q h C hnL E hw => ?_)
  unfold wp_same at hw
  refine mg_sub (lv2 := [(0, .ref (mg_ad X 0)), (1, .int x1), (2, .int x2)]) [0, 1, 2] rfl ?_
  refine mg_use (hw (fun (y3 : Int32) (y4 : Int32) (h : mg_H) => mg_W X 33 [(0, .ref (mg_ad X 0)), (2, .int x2), (3, .int y3), (4, .int y4)] [] h) ?_) (fun hF => ?_)
  · intro y3 y4 h hF
    refine mg_iload_n (pc := 33) C dX12_same_33 2 rfl ?_
    refine mg_iload_n (pc := 34) C dX12_same_34 1 rfl ?_
    refine mg_icmp_ge (pc := 35) 71 C dX12_same_35 (by decide) (fun hc => ?_) (fun hc => ?_)
    · have hF := hF.1 hc
      refine mg_iload_n (pc := 71) C dX12_same_71 2 rfl ?_
      refine mg_iload_n (pc := 72) C dX12_same_72 1 rfl ?_
      refine mg_icmp_ne (pc := 73) 80 C dX12_same_73 (by decide) (fun hc => ?_) (fun hc => ?_)
      · have hF := hF.1 hc
        refine mg_iconst (pc := 80) (v := 0) C dX12_same_80 (by decide) ?_
        exact mg_retI (pc := 81) C E dX12_same_81 hF
      · have hF := hF.2 hc
        refine mg_iconst (pc := 76) (v := 1) C dX12_same_76 (by decide) ?_
        refine mg_goto (pc := 77) 81 C dX12_same_77 (by decide) ?_
        exact mg_retI (pc := 81) C E dX12_same_81 hF
    · have hF := hF.2 hc
      refine mg_aload_n (pc := 38) C dX12_same_38 0 rfl ?_
      refine mg_iload (pc := 39) C dX12_same_39 3 rfl ?_
      refine mg_aload_n (pc := 41) C dX12_same_41 0 rfl ?_
      refine mg_geti (pc := 42) C inm_same 25 (by decide) rfl (by decide) dX12_same_42 (List.mem_of_getElem? (i := 3) rfl) ?_
      refine mg_cvI (pc := 45) C (fun ad => [.int y4, .int (mg_i h 0 25)]) (met_next y4 (mg_i h 0 25)) gX12_same_X12_next rfl ⟨rfl, rfl⟩ nd_next ⟨Nat.le_of_ble_eq_true rfl, Nat.le_of_ble_eq_true rfl⟩ rfl rfl (Nat.le_of_ble_eq_true rfl) dX12_same_45 hF (fun r8 h7 hF => ?_)
      refine mg_istore (pc := 48) (lv2 := [(5, .int r8), (0, .ref (mg_ad X 0)), (2, .int x2), (3, .int y3), (4, .int y4)]) C dX12_same_48 6 hnL (by decide) rfl ?_
      refine mg_iload (pc := 50) C dX12_same_50 0 rfl ?_
      refine mg_if_ne (pc := 52) 57 C dX12_same_52 (by decide) (fun hc => ?_) (fun hc => ?_)
      · have hF := hF.1 hc
        refine mg_iload_n (pc := 57) C dX12_same_57 3 rfl ?_
        refine mg_iload (pc := 58) C dX12_same_58 0 rfl ?_
        refine mg_iadd (pc := 60) C dX12_same_60 ?_
        refine mg_topi (pc := 61) (fun z9 ez9 => ?_)
        have hF := hF z9 ez9
        refine mg_istore_n (pc := 61) (lv2 := [(3, .int z9), (5, .int r8), (0, .ref (mg_ad X 0)), (2, .int x2), (4, .int y4)]) C dX12_same_61 6 hnL (by decide) rfl ?_
        refine mg_aload_n (pc := 62) C dX12_same_62 2 rfl ?_
        refine mg_geti (pc := 63) C inm_same 39 (by decide) rfl (by decide) dX12_same_63 (List.mem_of_getElem? (i := 4) rfl) ?_
        refine mg_topi (pc := 66) (fun z10 ez10 => ?_)
        have hF := hF z10 ez10
        refine mg_istore (pc := 66) (lv2 := [(4, .int z10), (3, .int z9), (5, .int r8), (0, .ref (mg_ad X 0)), (2, .int x2)]) C dX12_same_66 6 hnL (by decide) rfl ?_
        refine mg_goto (pc := 68) 33 C dX12_same_68 (by decide) ?_
        refine mg_sub (lv2 := [(0, .ref (mg_ad X 0)), (2, .int x2), (3, .int z9), (4, .int z10)]) [3, 4, 1, 0] rfl ?_
        exact hF
      · have hF := hF.2 hc
        refine mg_iconst (pc := 55) (v := 0) C dX12_same_55 (by decide) ?_
        exact mg_retI (pc := 56) C E dX12_same_56 hF
  · skip
    refine mg_aload_n (pc := 0) C dX12_same_0 0 rfl ?_
    refine mg_iconst (pc := 1) (v := 0) C dX12_same_1 (by decide) ?_
    refine mg_puti (pc := 2) C inm_same 0 (by decide) rfl (by decide) dX12_same_2 (List.mem_of_getElem? (i := 1) rfl) rfl (tyX12_ok 0 (by decide)) (fun h1 eh1 => ?_)
    have hF := hF h1 eh1
    refine mg_iload_n (pc := 5) C dX12_same_5 2 rfl ?_
    refine mg_iconst (pc := 6) (v := 1) C dX12_same_6 (by decide) ?_
    refine mg_bipush (pc := 7) (v := 30) C dX12_same_7 (by decide) ?_
    refine mg_csI (pc := 9) C (fun ad => [.int x2, .int 1, .int 30]) (met_in x2 1 30) gX12_same_X12_in rfl ⟨rfl, rfl⟩ nd_in.2 ⟨Nat.le_of_ble_eq_true rfl, Nat.le_of_ble_eq_true rfl⟩ rfl rfl (Nat.le_of_ble_eq_true rfl) dX12_same_9 hF (fun r3 h2 hF => ?_)
    refine mg_if_eq (pc := 12) 23 C dX12_same_12 (by decide) (fun hc => ?_) (fun hc => ?_)
    · have hF := hF.1 hc
      refine mg_iconst (pc := 23) (v := (-1)) C dX12_same_23 (by decide) ?_
      exact mg_retI (pc := 24) C E dX12_same_24 hF
    · have hF := hF.2 hc
      refine mg_aload_n (pc := 15) C dX12_same_15 0 rfl ?_
      refine mg_iload_n (pc := 16) C dX12_same_16 1 rfl ?_
      refine mg_cvI (pc := 17) C (fun ad => [.int x1]) (met_hand x1) gX12_same_X12_hand rfl ⟨rfl, rfl⟩ nd_hand ⟨Nat.le_of_ble_eq_true rfl, Nat.le_of_ble_eq_true rfl⟩ rfl rfl (Nat.le_of_ble_eq_true rfl) dX12_same_17 hF (fun r5 h4 hF => ?_)
      refine mg_if_ne (pc := 20) 25 C dX12_same_20 (by decide) (fun hc => ?_) (fun hc => ?_)
      · have hF := hF.1 hc
        refine mg_iconst (pc := 25) (v := 0) C dX12_same_25 (by decide) ?_
        refine mg_istore_n (pc := 26) (lv2 := [(3, .int 0), (0, .ref (mg_ad X 0)), (1, .int x1), (2, .int x2)]) C dX12_same_26 6 hnL (by decide) rfl ?_
        refine mg_aload_n (pc := 27) C dX12_same_27 1 rfl ?_
        refine mg_geti (pc := 28) C inm_same 26 (by decide) rfl (by decide) dX12_same_28 (List.mem_of_getElem? (i := 2) rfl) ?_
        refine mg_topi (pc := 31) (fun z6 ez6 => ?_)
        have hF := hF z6 ez6
        refine mg_istore (pc := 31) (lv2 := [(4, .int z6), (3, .int 0), (0, .ref (mg_ad X 0)), (1, .int x1), (2, .int x2)]) C dX12_same_31 6 hnL (by decide) rfl ?_
        refine mg_sub (lv2 := [(0, .ref (mg_ad X 0)), (2, .int x2), (3, .int 0), (4, .int z6)]) [2, 4, 1, 0] rfl ?_
        exact hF
      · have hF := hF.2 hc
        refine mg_iconst (pc := 23) (v := (-1)) C dX12_same_23 (by decide) ?_
        exact mg_retI (pc := 24) C E dX12_same_24 hF
def rm_early : Room := { frames := 3, cells := 0, slots := 0, locals := 65 }
theorem nd_early : yX12_early.cls = RX12 ∧ yX12_early.cls ≠ "java/lang/invoke/MethodHandle" ∧ yX12_early.cls ≠ "java/lang/invoke/VarHandle" ∧ (parseMethodDescriptor yX12_early.desc).map (fun d => d.parameters.length) = some 3 := by decide +kernel
theorem inm_early : ∀ w ∈ wsX120, w ∈ wsX12_early := fun _ h9 => List.mem_cons_of_mem _ (List.mem_append_right _ h9)
set_option maxHeartbeats 4000000 in
set_option maxRecDepth 100000 in
theorem met_early (x1 : Int32) (x2 : Int32) (x3 : Int32) : mg_MI yX12_early wsX12_early rm_early (fun ad => [.ref (ad 0), .int x1, .int x2, .int x3]) (fun Q h => wp_early Q x1 x2 x3 h) := by
  refine mg_startI (cc := cX12_early) (maxL := 7) (by decide) rfl rfl (fun ad => Nat.le_of_ble_eq_true rfl) (fun X Q h C hnL E hw => ?_)
  unfold wp_early at hw
  refine mg_sub (lv2 := [(0, .ref (mg_ad X 0)), (1, .int x1), (2, .int x2), (3, .int x3)]) [0, 1, 2, 3] rfl ?_
  refine mg_use (hw (fun (y4 : Int32) (h : mg_H) => mg_W X 28 [(0, .ref (mg_ad X 0)), (2, .int x2), (3, .int x3), (4, .int y4)] [] h) (fun (y4 : Int32) (h : mg_H) => mg_W X 62 [(0, .ref (mg_ad X 0)), (2, .int x2), (3, .int x3), (4, .int y4)] [] h) (fun (y4 : Int32) (y5 : Int32) (h : mg_H) => mg_W X 178 [(0, .ref (mg_ad X 0)), (2, .int x2), (3, .int x3), (4, .int y4), (5, .int y5)] [] h) (fun (y4 : Int32) (y5 : Int32) (h : mg_H) => mg_W X 73 [(0, .ref (mg_ad X 0)), (2, .int x2), (3, .int x3), (4, .int y4), (5, .int y5)] [] h) (fun (y4 : Int32) (y5 : Int32) (h : mg_H) => mg_W X 218 [(0, .ref (mg_ad X 0)), (2, .int x2), (3, .int x3), (4, .int y4), (5, .int y5)] [] h) (fun (y5 : Int32) (h : mg_H) => mg_W X 209 [(0, .ref (mg_ad X 0)), (2, .int x2), (3, .int x3), (5, .int y5)] [] h) (fun (y4 : Int32) (h : mg_H) => mg_W X 166 [(0, .ref (mg_ad X 0)), (2, .int x2), (3, .int x3), (4, .int y4)] [] h) (fun (y4 : Int32) (y5 : Int32) (h : mg_H) => mg_W X 160 [(0, .ref (mg_ad X 0)), (2, .int x2), (3, .int x3), (4, .int y4), (5, .int y5)] [] h) (fun (y5 : Int32) (s0 : Int32) (h : mg_H) => mg_W X 220 [(0, .ref (mg_ad X 0)), (2, .int x2), (3, .int x3), (5, .int y5)] [.int s0] h) ?_ ?_ ?_ ?_ ?_ ?_ ?_ ?_ ?_) (fun hF => ?_)
  · intro y4 h hF
    refine mg_iload (pc := 28) C dX12_early_28 3 rfl ?_
    refine mg_ldc (pc := 30) (v := 126976) C dX12_early_30 (List.mem_of_getElem? (i := 2) rfl) ?_
    refine mg_icmp_ge (pc := 32) 49 C dX12_early_32 (by decide) (fun hc => ?_) (fun hc => ?_)
    · have hF := hF.1 hc
      refine mg_aload_n (pc := 49) C dX12_early_49 0 rfl ?_
      refine mg_getr (pc := 50) C inm_early 44 (by decide) (by decide) dX12_early_50 (List.mem_of_getElem? (i := 3) rfl) ?_
      refine mg_aload_n (pc := 53) C dX12_early_53 0 rfl ?_
      refine mg_geti (pc := 54) C inm_early 26 (by decide) rfl (by decide) dX12_early_54 (List.mem_of_getElem? (i := 4) rfl) ?_
      refine mg_iconst (pc := 57) (v := 1) C dX12_early_57 (by decide) ?_
      obtain ⟨hi, hF⟩ := hF
      refine mg_iast (pc := 58) C (by decide) rfl hi dX12_early_58 (fun h6 eh6 => ?_)
      have hF := hF h6 eh6
      refine mg_iconst (pc := 59) (v := 0) C dX12_early_59 (by decide) ?_
      refine mg_istore (pc := 60) (lv2 := [(4, .int 0), (0, .ref (mg_ad X 0)), (2, .int x2), (3, .int x3)]) C dX12_early_60 7 hnL (by decide) rfl ?_
      refine mg_sub (lv2 := [(0, .ref (mg_ad X 0)), (2, .int x2), (3, .int x3), (4, .int 0)]) [1, 2, 3, 0] rfl ?_
      exact hF
    · have hF := hF.2 hc
      refine mg_aload_n (pc := 35) C dX12_early_35 0 rfl ?_
      refine mg_getr (pc := 36) C inm_early 44 (by decide) (by decide) dX12_early_36 (List.mem_of_getElem? (i := 3) rfl) ?_
      refine mg_iload (pc := 39) C dX12_early_39 3 rfl ?_
      refine mg_iconst (pc := 41) (v := 0) C dX12_early_41 (by decide) ?_
      obtain ⟨hi, hF⟩ := hF
      refine mg_iast (pc := 42) C (by decide) rfl hi dX12_early_42 (fun h7 eh7 => ?_)
      have hF := hF h7 eh7
      obtain ⟨z8, ez8⟩ : ∃ y : Int32, y = y4 + 1 := ⟨_, rfl⟩
      have hF := hF z8 ez8
      refine mg_iinc (pc := 43) (v := z8) (lv2 := [(4, .int z8), (0, .ref (mg_ad X 0)), (2, .int x2), (3, .int x3)]) C dX12_early_43 3 rfl (by rw [ez8]; rfl) 7 hnL (by decide) rfl ?_
      refine mg_goto (pc := 46) 28 C dX12_early_46 (by decide) ?_
      refine mg_sub (lv2 := [(0, .ref (mg_ad X 0)), (2, .int x2), (3, .int x3), (4, .int z8)]) [1, 2, 3, 0] rfl ?_
      exact hF
  · intro y4 h hF
    refine mg_iload (pc := 62) C dX12_early_62 3 rfl ?_
    refine mg_ldcw (pc := 64) (v := 122880) C dX12_early_64 (List.mem_of_getElem? (i := 5) rfl) ?_
    refine mg_icmp_ge (pc := 67) 172 C dX12_early_67 (by decide) (fun hc => ?_) (fun hc => ?_)
    · have hF := hF.1 hc
      refine mg_iconst (pc := 172) (v := (-1)) C dX12_early_172 (by decide) ?_
      refine mg_istore (pc := 173) (lv2 := [(4, .int (-1)), (0, .ref (mg_ad X 0)), (2, .int x2), (3, .int x3)]) C dX12_early_173 7 hnL (by decide) rfl ?_
      refine mg_iconst (pc := 175) (v := 0) C dX12_early_175 (by decide) ?_
      refine mg_istore (pc := 176) (lv2 := [(5, .int 0), (4, .int (-1)), (0, .ref (mg_ad X 0)), (2, .int x2), (3, .int x3)]) C dX12_early_176 7 hnL (by decide) rfl ?_
      refine mg_sub (lv2 := [(0, .ref (mg_ad X 0)), (2, .int x2), (3, .int x3), (4, .int (-1)), (5, .int 0)]) [2, 3, 4, 1, 0] rfl ?_
      exact hF
    · have hF := hF.2 hc
      refine mg_iconst (pc := 70) (v := 0) C dX12_early_70 (by decide) ?_
      refine mg_istore (pc := 71) (lv2 := [(5, .int 0), (0, .ref (mg_ad X 0)), (2, .int x2), (3, .int x3), (4, .int y4)]) C dX12_early_71 7 hnL (by decide) rfl ?_
      refine mg_sub (lv2 := [(0, .ref (mg_ad X 0)), (2, .int x2), (3, .int x3), (4, .int y4), (5, .int 0)]) [1, 2, 3, 4, 0] rfl ?_
      exact hF
  · intro y4 y5 h hF
    refine mg_iload (pc := 178) C dX12_early_178 4 rfl ?_
    refine mg_ldc (pc := 180) (v := 126976) C dX12_early_180 (List.mem_of_getElem? (i := 2) rfl) ?_
    refine mg_icmp_ge (pc := 182) 228 C dX12_early_182 (by decide) (fun hc => ?_) (fun hc => ?_)
    · have hF := hF.1 hc
      refine mg_iload (pc := 228) C dX12_early_228 3 rfl ?_
      exact mg_retI (pc := 230) C E dX12_early_230 hF
    · have hF := hF.2 hc
      refine mg_aload_n (pc := 185) C dX12_early_185 0 rfl ?_
      refine mg_getr (pc := 186) C inm_early 44 (by decide) (by decide) dX12_early_186 (List.mem_of_getElem? (i := 3) rfl) ?_
      refine mg_iload (pc := 189) C dX12_early_189 4 rfl ?_
      obtain ⟨hi, hF⟩ := hF
      refine mg_iald (pc := 191) C (by decide) rfl hi dX12_early_191 ?_
      refine mg_iload_n (pc := 192) C dX12_early_192 1 rfl ?_
      refine mg_csI (pc := 193) C (fun ad => [.int (mg_i h 44 y5.toNatClampNeg), .int x2]) (met_has (mg_i h 44 y5.toNatClampNeg) x2) gX12_early_X12_has rfl ⟨rfl, rfl⟩ nd_has.2 ⟨Nat.le_of_ble_eq_true rfl, Nat.le_of_ble_eq_true rfl⟩ rfl rfl (Nat.le_of_ble_eq_true rfl) dX12_early_193 hF (fun r10 h9 hF => ?_)
      refine mg_if_eq (pc := 196) 218 C dX12_early_196 (by decide) (fun hc => ?_) (fun hc => ?_)
      · have hF := hF.1 hc
        exact hF
      · have hF := hF.2 hc
        refine mg_iload_n (pc := 199) C dX12_early_199 2 rfl ?_
        refine mg_if_ne (pc := 200) 209 C dX12_early_200 (by decide) (fun hc => ?_) (fun hc => ?_)
        · have hF := hF.1 hc
          refine mg_sub (lv2 := [(0, .ref (mg_ad X 0)), (2, .int x2), (3, .int x3), (5, .int y5)]) [0, 1, 2, 4] rfl ?_
          exact hF
        · have hF := hF.2 hc
          refine mg_iload (pc := 203) C dX12_early_203 3 rfl ?_
          refine mg_iconst (pc := 205) (v := (-1)) C dX12_early_205 (by decide) ?_
          refine mg_icmp_ne (pc := 206) 218 C dX12_early_206 (by decide) (fun hc => ?_) (fun hc => ?_)
          · have hF := hF.1 hc
            exact hF
          · have hF := hF.2 hc
            refine mg_sub (lv2 := [(0, .ref (mg_ad X 0)), (2, .int x2), (3, .int x3), (5, .int y5)]) [0, 1, 2, 4] rfl ?_
            exact hF
  · intro y4 y5 h hF
    refine mg_iload (pc := 73) C dX12_early_73 4 rfl ?_
    refine mg_aload_n (pc := 75) C dX12_early_75 0 rfl ?_
    refine mg_geti (pc := 76) C inm_early 25 (by decide) rfl (by decide) dX12_early_76 (List.mem_of_getElem? (i := 6) rfl) ?_
    refine mg_icmp_gt (pc := 79) 166 C dX12_early_79 (by decide) (fun hc => ?_) (fun hc => ?_)
    · have hF := hF.1 hc
      refine mg_sub (lv2 := [(0, .ref (mg_ad X 0)), (2, .int x2), (3, .int x3), (4, .int y4)]) [0, 1, 2, 3] rfl ?_
      exact hF
    · have hF := hF.2 hc
      refine mg_aload_n (pc := 82) C dX12_early_82 0 rfl ?_
      refine mg_getr (pc := 83) C inm_early 44 (by decide) (by decide) dX12_early_83 (List.mem_of_getElem? (i := 3) rfl) ?_
      refine mg_iload (pc := 86) C dX12_early_86 3 rfl ?_
      obtain ⟨hi, hF⟩ := hF
      refine mg_iald (pc := 88) C (by decide) rfl hi dX12_early_88 ?_
      refine mg_if_eq (pc := 89) 166 C dX12_early_89 (by decide) (fun hc => ?_) (fun hc => ?_)
      · have hF := hF.1 hc
        refine mg_sub (lv2 := [(0, .ref (mg_ad X 0)), (2, .int x2), (3, .int x3), (4, .int y4)]) [0, 1, 2, 3] rfl ?_
        exact hF
      · have hF := hF.2 hc
        refine mg_aload_n (pc := 92) C dX12_early_92 0 rfl ?_
        refine mg_iload (pc := 93) C dX12_early_93 3 rfl ?_
        refine mg_sipush (pc := 95) (v := 4096) C dX12_early_95 (by decide) ?_
        refine mg_irem (pc := 98) C dX12_early_98 (by decide) ?_
        refine mg_iload (pc := 99) C dX12_early_99 4 rfl ?_
        refine mg_cvI (pc := 101) C (fun ad => [.int (y4 - y4 / 4096 * 4096), .int y5]) (met_next (y4 - y4 / 4096 * 4096) y5) gX12_early_X12_next rfl ⟨rfl, rfl⟩ nd_next ⟨Nat.le_of_ble_eq_true rfl, Nat.le_of_ble_eq_true rfl⟩ rfl rfl (Nat.le_of_ble_eq_true rfl) dX12_early_101 hF (fun r12 h11 hF => ?_)
        refine mg_istore (pc := 104) (lv2 := [(6, .int r12), (0, .ref (mg_ad X 0)), (2, .int x2), (3, .int x3), (4, .int y4), (5, .int y5)]) C dX12_early_104 7 hnL (by decide) rfl ?_
        refine mg_iload (pc := 106) C dX12_early_106 0 rfl ?_
        refine mg_if_le (pc := 108) 160 C dX12_early_108 (by decide) (fun hc => ?_) (fun hc => ?_)
        · have hF := hF.1 hc
          refine mg_sub (lv2 := [(0, .ref (mg_ad X 0)), (2, .int x2), (3, .int x3), (4, .int y4), (5, .int y5)]) [1, 2, 3, 4, 5] rfl ?_
          exact hF
        · have hF := hF.2 hc
          refine mg_iload (pc := 111) C dX12_early_111 4 rfl ?_
          refine mg_sipush (pc := 113) (v := 4096) C dX12_early_113 (by decide) ?_
          refine mg_idiv (pc := 116) C dX12_early_116 (by decide) ?_
          refine mg_iload (pc := 117) C dX12_early_117 0 rfl ?_
          refine mg_iadd (pc := 119) C dX12_early_119 ?_
          refine mg_bipush (pc := 120) (v := 30) C dX12_early_120 (by decide) ?_
          refine mg_icmp_gt (pc := 122) 160 C dX12_early_122 (by decide) (fun hc => ?_) (fun hc => ?_)
          · have hF := hF.1 hc
            refine mg_sub (lv2 := [(0, .ref (mg_ad X 0)), (2, .int x2), (3, .int x3), (4, .int y4), (5, .int y5)]) [1, 2, 3, 4, 5] rfl ?_
            exact hF
          · have hF := hF.2 hc
            refine mg_aload_n (pc := 125) C dX12_early_125 1 rfl ?_
            refine mg_getr (pc := 126) C inm_early 44 (by decide) (by decide) dX12_early_126 (List.mem_of_getElem? (i := 3) rfl) ?_
            refine mg_sipush (pc := 129) (v := 4096) C dX12_early_129 (by decide) ?_
            refine mg_iload (pc := 132) C dX12_early_132 4 rfl ?_
            refine mg_sipush (pc := 134) (v := 4096) C dX12_early_134 (by decide) ?_
            refine mg_idiv (pc := 137) C dX12_early_137 (by decide) ?_
            refine mg_iload (pc := 138) C dX12_early_138 0 rfl ?_
            refine mg_iadd (pc := 140) C dX12_early_140 ?_
            refine mg_imul (pc := 141) C dX12_early_141 ?_
            refine mg_aload_n (pc := 142) C dX12_early_142 1 rfl ?_
            refine mg_geti (pc := 143) C inm_early 39 (by decide) rfl (by decide) dX12_early_143 (List.mem_of_getElem? (i := 7) rfl) ?_
            refine mg_iadd (pc := 146) C dX12_early_146 ?_
            refine mg_dup2 (pc := 147) C dX12_early_147 rfl rfl ?_
            obtain ⟨hi, hF⟩ := hF
            refine mg_iald (pc := 148) C (by decide) rfl hi dX12_early_148 ?_
            refine mg_aload_n (pc := 149) C dX12_early_149 1 rfl ?_
            refine mg_getr (pc := 150) C inm_early 44 (by decide) (by decide) dX12_early_150 (List.mem_of_getElem? (i := 3) rfl) ?_
            refine mg_iload (pc := 153) C dX12_early_153 4 rfl ?_
            obtain ⟨hi, hF⟩ := hF
            refine mg_iald (pc := 155) C (by decide) rfl hi dX12_early_155 ?_
            refine mg_iconst (pc := 156) (v := 1) C dX12_early_156 (by decide) ?_
            refine mg_ishl (pc := 157) C dX12_early_157 ?_
            refine mg_ior (pc := 158) C dX12_early_158 ?_
            obtain ⟨hi, hF⟩ := hF
            refine mg_iast (pc := 159) C (by decide) rfl hi dX12_early_159 (fun h13 eh13 => ?_)
            have hF := hF h13 eh13
            refine mg_sub (lv2 := [(0, .ref (mg_ad X 0)), (2, .int x2), (3, .int x3), (4, .int y4), (5, .int y5)]) [1, 2, 3, 4, 5] rfl ?_
            exact hF
  · intro y4 y5 h hF
    refine mg_iload (pc := 218) C dX12_early_218 3 rfl ?_
    refine mg_sub (lv2 := [(0, .ref (mg_ad X 0)), (2, .int x2), (3, .int x3), (5, .int y5)]) [0, 1, 2, 4] rfl ?_
    exact hF
  · intro y5 h hF
    refine mg_iload (pc := 209) C dX12_early_209 3 rfl ?_
    refine mg_sipush (pc := 211) (v := 4096) C dX12_early_211 (by decide) ?_
    refine mg_idiv (pc := 214) C dX12_early_214 (by decide) ?_
    refine mg_goto (pc := 215) 220 C dX12_early_215 (by decide) ?_
    exact hF
  · intro y4 h hF
    obtain ⟨z14, ez14⟩ : ∃ y : Int32, y = y4 + 1 := ⟨_, rfl⟩
    have hF := hF z14 ez14
    refine mg_iinc (pc := 166) (v := z14) (lv2 := [(4, .int z14), (0, .ref (mg_ad X 0)), (2, .int x2), (3, .int x3)]) C dX12_early_166 3 rfl (by rw [ez14]; rfl) 7 hnL (by decide) rfl ?_
    refine mg_goto (pc := 169) 62 C dX12_early_169 (by decide) ?_
    refine mg_sub (lv2 := [(0, .ref (mg_ad X 0)), (2, .int x2), (3, .int x3), (4, .int z14)]) [1, 2, 3, 0] rfl ?_
    exact hF
  · intro y4 y5 h hF
    obtain ⟨z15, ez15⟩ : ∃ y : Int32, y = y5 + 1 := ⟨_, rfl⟩
    have hF := hF z15 ez15
    refine mg_iinc (pc := 160) (v := z15) (lv2 := [(5, .int z15), (0, .ref (mg_ad X 0)), (2, .int x2), (3, .int x3), (4, .int y4)]) C dX12_early_160 4 rfl (by rw [ez15]; rfl) 7 hnL (by decide) rfl ?_
    refine mg_goto (pc := 163) 73 C dX12_early_163 (by decide) ?_
    refine mg_sub (lv2 := [(0, .ref (mg_ad X 0)), (2, .int x2), (3, .int x3), (4, .int y4), (5, .int z15)]) [1, 2, 3, 4, 0] rfl ?_
    exact hF
  · intro y5 s0 h hF
    refine mg_istore (pc := 220) (lv2 := [(4, .int s0), (0, .ref (mg_ad X 0)), (2, .int x2), (3, .int x3), (5, .int y5)]) C dX12_early_220 7 hnL (by decide) rfl ?_
    obtain ⟨z16, ez16⟩ : ∃ y : Int32, y = y5 + 1 := ⟨_, rfl⟩
    have hF := hF z16 ez16
    refine mg_iinc (pc := 222) (v := z16) (lv2 := [(5, .int z16), (4, .int s0), (0, .ref (mg_ad X 0)), (2, .int x2), (3, .int x3)]) C dX12_early_222 4 rfl (by rw [ez16]; rfl) 7 hnL (by decide) rfl ?_
    refine mg_goto (pc := 225) 178 C dX12_early_225 (by decide) ?_
    refine mg_sub (lv2 := [(0, .ref (mg_ad X 0)), (2, .int x2), (3, .int x3), (4, .int s0), (5, .int z16)]) [2, 3, 4, 1, 0] rfl ?_
    exact hF
  · skip
    refine mg_aload_n (pc := 0) C dX12_early_0 0 rfl ?_
    refine mg_iconst (pc := 1) (v := 0) C dX12_early_1 (by decide) ?_
    refine mg_puti (pc := 2) C inm_early 0 (by decide) rfl (by decide) dX12_early_2 (List.mem_of_getElem? (i := 1) rfl) rfl (tyX12_ok 0 (by decide)) (fun h1 eh1 => ?_)
    have hF := hF h1 eh1
    refine mg_iload_n (pc := 5) C dX12_early_5 2 rfl ?_
    refine mg_iconst (pc := 6) (v := 0) C dX12_early_6 (by decide) ?_
    refine mg_bipush (pc := 7) (v := 20) C dX12_early_7 (by decide) ?_
    refine mg_csI (pc := 9) C (fun ad => [.int x2, .int 0, .int 20]) (met_in x2 0 20) gX12_early_X12_in rfl ⟨rfl, rfl⟩ nd_in.2 ⟨Nat.le_of_ble_eq_true rfl, Nat.le_of_ble_eq_true rfl⟩ rfl rfl (Nat.le_of_ble_eq_true rfl) dX12_early_9 hF (fun r3 h2 hF => ?_)
    refine mg_if_eq (pc := 12) 23 C dX12_early_12 (by decide) (fun hc => ?_) (fun hc => ?_)
    · have hF := hF.1 hc
      refine mg_iconst (pc := 23) (v := (-1)) C dX12_early_23 (by decide) ?_
      exact mg_retI (pc := 24) C E dX12_early_24 hF
    · have hF := hF.2 hc
      refine mg_aload_n (pc := 15) C dX12_early_15 0 rfl ?_
      refine mg_iload_n (pc := 16) C dX12_early_16 1 rfl ?_
      refine mg_cvI (pc := 17) C (fun ad => [.int x1]) (met_hand x1) gX12_early_X12_hand rfl ⟨rfl, rfl⟩ nd_hand ⟨Nat.le_of_ble_eq_true rfl, Nat.le_of_ble_eq_true rfl⟩ rfl rfl (Nat.le_of_ble_eq_true rfl) dX12_early_17 hF (fun r5 h4 hF => ?_)
      refine mg_if_ne (pc := 20) 25 C dX12_early_20 (by decide) (fun hc => ?_) (fun hc => ?_)
      · have hF := hF.1 hc
        refine mg_iconst (pc := 25) (v := 0) C dX12_early_25 (by decide) ?_
        refine mg_istore (pc := 26) (lv2 := [(4, .int 0), (0, .ref (mg_ad X 0)), (1, .int x1), (2, .int x2), (3, .int x3)]) C dX12_early_26 7 hnL (by decide) rfl ?_
        refine mg_sub (lv2 := [(0, .ref (mg_ad X 0)), (2, .int x2), (3, .int x3), (4, .int 0)]) [1, 3, 4, 0] rfl ?_
        exact hF
      · have hF := hF.2 hc
        refine mg_iconst (pc := 23) (v := (-1)) C dX12_early_23 (by decide) ?_
        exact mg_retI (pc := 24) C E dX12_early_24 hF
def rm_after : Room := { frames := 7, cells := 0, slots := 0, locals := 152 }
theorem nd_after : yX12_after.cls = RX12 ∧ yX12_after.cls ≠ "java/lang/invoke/MethodHandle" ∧ yX12_after.cls ≠ "java/lang/invoke/VarHandle" ∧ (parseMethodDescriptor yX12_after.desc).map (fun d => d.parameters.length) = some 3 := by decide +kernel
theorem inm_after : ∀ w ∈ wsX120, w ∈ wsX12_after := fun _ h9 => List.mem_cons_of_mem _ (List.mem_append_right _ h9)
set_option maxHeartbeats 4000000 in
set_option maxRecDepth 100000 in
theorem met_after (x1 : Int32) (x2 : Int32) (x3 : Int32) : mg_MI yX12_after wsX12_after rm_after (fun ad => [.ref (ad 0), .int x1, .int x2, .int x3]) (fun Q h => wp_after Q x1 x2 x3 h) := by
  refine mg_startI (cc := cX12_after) (maxL := 6) (by decide) rfl rfl (fun ad => Nat.le_of_ble_eq_true rfl) (fun X Q h C hnL E hw => ?_)
  unfold wp_after at hw
  refine mg_sub (lv2 := [(0, .ref (mg_ad X 0)), (1, .int x1), (2, .int x2), (3, .int x3)]) [0, 1, 2, 3] rfl ?_
  refine mg_use (hw (fun (y4 : Int32) (y5 : Int32) (h : mg_H) => mg_W X 41 [(0, .ref (mg_ad X 0)), (3, .int x3), (4, .int y4), (5, .int y5)] [] h) (fun (y4 : Int32) (y5 : Int32) (s0 : Int32) (s1 : Int32) (h : mg_H) => mg_W X 74 [(0, .ref (mg_ad X 0)), (3, .int x3), (4, .int y4), (5, .int y5)] [.int s0, .int s1] h) (fun (y5 : Int32) (s0 : Int32) (h : mg_H) => mg_W X 84 [(0, .ref (mg_ad X 0)), (3, .int x3), (5, .int y5)] [.int s0] h) ?_ ?_ ?_) (fun hF => ?_)
  · intro y4 y5 h hF
    refine mg_iload (pc := 41) C dX12_after_41 3 rfl ?_
    refine mg_aload_n (pc := 43) C dX12_after_43 0 rfl ?_
    refine mg_geti (pc := 44) C inm_after 24 (by decide) rfl (by decide) dX12_after_44 (List.mem_of_getElem? (i := 2) rfl) ?_
    refine mg_icmp_ge (pc := 47) 92 C dX12_after_47 (by decide) (fun hc => ?_) (fun hc => ?_)
    · have hF := hF.1 hc
      refine mg_iload_n (pc := 92) C dX12_after_92 1 rfl ?_
      by_cases hs0 : x3 = 0
      · have hF := hF.1 hs0
        refine mg_tabIn (pc := 93) 128 C dX12_after_93 (by rw [hs0]; decide) (by rw [hs0]; decide) (off := 35) (by rw [hs0]; rfl) (by decide) ?_
        refine mg_aload_n (pc := 128) C dX12_after_128 0 rfl ?_
        refine mg_geti (pc := 129) C inm_after 32 (by decide) rfl (by decide) dX12_after_129 (List.mem_of_getElem? (i := 4) rfl) ?_
        exact mg_retI (pc := 132) C E dX12_after_132 hF
      have hF := hF.2
      by_cases hs1 : x3 = 1
      · have hF := hF.1 hs1
        refine mg_tabIn (pc := 93) 133 C dX12_after_93 (by rw [hs1]; decide) (by rw [hs1]; decide) (off := 40) (by rw [hs1]; rfl) (by decide) ?_
        refine mg_aload_n (pc := 133) C dX12_after_133 0 rfl ?_
        refine mg_geti (pc := 134) C inm_after 34 (by decide) rfl (by decide) dX12_after_134 (List.mem_of_getElem? (i := 5) rfl) ?_
        exact mg_retI (pc := 137) C E dX12_after_137 hF
      have hF := hF.2
      by_cases hs2 : x3 = 2
      · have hF := hF.1 hs2
        refine mg_tabIn (pc := 93) 138 C dX12_after_93 (by rw [hs2]; decide) (by rw [hs2]; decide) (off := 45) (by rw [hs2]; rfl) (by decide) ?_
        refine mg_aload_n (pc := 138) C dX12_after_138 0 rfl ?_
        refine mg_geti (pc := 139) C inm_after 35 (by decide) rfl (by decide) dX12_after_139 (List.mem_of_getElem? (i := 6) rfl) ?_
        exact mg_retI (pc := 142) C E dX12_after_142 hF
      have hF := hF.2
      by_cases hs3 : x3 = 3
      · have hF := hF.1 hs3
        refine mg_tabIn (pc := 93) 143 C dX12_after_93 (by rw [hs3]; decide) (by rw [hs3]; decide) (off := 50) (by rw [hs3]; rfl) (by decide) ?_
        refine mg_aload_n (pc := 143) C dX12_after_143 0 rfl ?_
        refine mg_geti (pc := 144) C inm_after 36 (by decide) rfl (by decide) dX12_after_144 (List.mem_of_getElem? (i := 7) rfl) ?_
        exact mg_retI (pc := 147) C E dX12_after_147 hF
      have hF := hF.2
      by_cases hs4 : x3 = 4
      · have hF := hF.1 hs4
        refine mg_tabIn (pc := 93) 148 C dX12_after_93 (by rw [hs4]; decide) (by rw [hs4]; decide) (off := 55) (by rw [hs4]; rfl) (by decide) ?_
        refine mg_aload_n (pc := 148) C dX12_after_148 0 rfl ?_
        refine mg_geti (pc := 149) C inm_after 33 (by decide) rfl (by decide) dX12_after_149 (List.mem_of_getElem? (i := 8) rfl) ?_
        exact mg_retI (pc := 152) C E dX12_after_152 hF
      have hF := hF.2
      have hF := hF hs0 hs1 hs2 hs3 hs4
      refine mg_tabOut (pc := 93) 153 C dX12_after_93 (mg_swd x3 0 4 (fun v h1 h2 => ?_)) (by decide) ?_
      · rcases (show v = 0 ∨ v = 1 ∨ v = 2 ∨ v = 3 ∨ v = 4 by omega) with rfl | rfl | rfl | rfl | rfl
        · exact hs0
        · exact hs1
        · exact hs2
        · exact hs3
        · exact hs4
      refine mg_iload (pc := 153) C dX12_after_153 2 rfl ?_
      exact mg_retI (pc := 155) C E dX12_after_155 hF
    · have hF := hF.2 hc
      refine mg_aload_n (pc := 50) C dX12_after_50 0 rfl ?_
      refine mg_getr (pc := 51) C inm_after 37 (by decide) (by decide) dX12_after_51 (List.mem_of_getElem? (i := 3) rfl) ?_
      refine mg_iload (pc := 54) C dX12_after_54 3 rfl ?_
      obtain ⟨hi, hF⟩ := hF
      refine mg_iald (pc := 56) C (by decide) rfl hi dX12_after_56 ?_
      refine mg_iload (pc := 57) C dX12_after_57 2 rfl ?_
      refine mg_iconst (pc := 59) (v := (-1)) C dX12_after_59 (by decide) ?_
      refine mg_icmp_ne (pc := 60) 67 C dX12_after_60 (by decide) (fun hc => ?_) (fun hc => ?_)
      · have hF := hF.1 hc
        refine mg_aload_n (pc := 67) C dX12_after_67 0 rfl ?_
        refine mg_getr (pc := 68) C inm_after 37 (by decide) (by decide) dX12_after_68 (List.mem_of_getElem? (i := 3) rfl) ?_
        refine mg_iload (pc := 71) C dX12_after_71 2 rfl ?_
        obtain ⟨hi, hF⟩ := hF
        refine mg_iald (pc := 73) C (by decide) rfl hi dX12_after_73 ?_
        exact hF
      · have hF := hF.2 hc
        refine mg_iconst (pc := 63) (v := 0) C dX12_after_63 (by decide) ?_
        refine mg_goto (pc := 64) 74 C dX12_after_64 (by decide) ?_
        exact hF
  · intro y4 y5 s0 s1 h hF
    refine mg_icmp_le (pc := 74) 82 C dX12_after_74 (by decide) (fun hc => ?_) (fun hc => ?_)
    · have hF := hF.1 hc
      refine mg_iload (pc := 82) C dX12_after_82 2 rfl ?_
      refine mg_sub (lv2 := [(0, .ref (mg_ad X 0)), (3, .int x3), (5, .int y5)]) [0, 1, 3] rfl ?_
      exact hF
    · have hF := hF.2 hc
      refine mg_iload (pc := 77) C dX12_after_77 3 rfl ?_
      refine mg_goto (pc := 79) 84 C dX12_after_79 (by decide) ?_
      refine mg_sub (lv2 := [(0, .ref (mg_ad X 0)), (3, .int x3), (5, .int y5)]) [0, 1, 3] rfl ?_
      exact hF
  · intro y5 s0 h hF
    refine mg_istore (pc := 84) (lv2 := [(4, .int s0), (0, .ref (mg_ad X 0)), (3, .int x3), (5, .int y5)]) C dX12_after_84 6 hnL (by decide) rfl ?_
    obtain ⟨z10, ez10⟩ : ∃ y : Int32, y = y5 + 1 := ⟨_, rfl⟩
    have hF := hF z10 ez10
    refine mg_iinc (pc := 86) (v := z10) (lv2 := [(5, .int z10), (4, .int s0), (0, .ref (mg_ad X 0)), (3, .int x3)]) C dX12_after_86 3 rfl (by rw [ez10]; rfl) 6 hnL (by decide) rfl ?_
    refine mg_goto (pc := 89) 41 C dX12_after_89 (by decide) ?_
    refine mg_sub (lv2 := [(0, .ref (mg_ad X 0)), (3, .int x3), (4, .int s0), (5, .int z10)]) [2, 3, 1, 0] rfl ?_
    exact hF
  · skip
    refine mg_aload_n (pc := 0) C dX12_after_0 0 rfl ?_
    refine mg_iconst (pc := 1) (v := 0) C dX12_after_1 (by decide) ?_
    refine mg_puti (pc := 2) C inm_after 0 (by decide) rfl (by decide) dX12_after_2 (List.mem_of_getElem? (i := 1) rfl) rfl (tyX12_ok 0 (by decide)) (fun h1 eh1 => ?_)
    have hF := hF h1 eh1
    refine mg_aload_n (pc := 5) C dX12_after_5 0 rfl ?_
    refine mg_iload_n (pc := 6) C dX12_after_6 1 rfl ?_
    refine mg_iload_n (pc := 7) C dX12_after_7 2 rfl ?_
    refine mg_cvI (pc := 8) C (fun ad => [.int x1, .int x2]) (met_layAll x1 x2) gX12_after_X12_layAll rfl ⟨rfl, rfl⟩ nd_layAll ⟨Nat.le_of_ble_eq_true rfl, Nat.le_of_ble_eq_true rfl⟩ rfl rfl (Nat.le_of_ble_eq_true rfl) dX12_after_8 hF (fun r3 h2 hF => ?_)
    refine mg_if_eq (pc := 11) 23 C dX12_after_11 (by decide) (fun hc => ?_) (fun hc => ?_)
    · have hF := hF.1 hc
      refine mg_bipush (pc := 23) (v := (-2)) C dX12_after_23 (by decide) ?_
      exact mg_retI (pc := 25) C E dX12_after_25 hF
    · have hF := hF.2 hc
      refine mg_iload_n (pc := 14) C dX12_after_14 3 rfl ?_
      refine mg_iconst (pc := 15) (v := 0) C dX12_after_15 (by decide) ?_
      refine mg_iconst (pc := 16) (v := 5) C dX12_after_16 (by decide) ?_
      refine mg_csI (pc := 17) C (fun ad => [.int x3, .int 0, .int 5]) (met_in x3 0 5) gX12_after_X12_in rfl ⟨rfl, rfl⟩ nd_in.2 ⟨Nat.le_of_ble_eq_true rfl, Nat.le_of_ble_eq_true rfl⟩ rfl rfl (Nat.le_of_ble_eq_true rfl) dX12_after_17 hF (fun r5 h4 hF => ?_)
      refine mg_if_ne (pc := 20) 26 C dX12_after_20 (by decide) (fun hc => ?_) (fun hc => ?_)
      · have hF := hF.1 hc
        refine mg_aload_n (pc := 26) C dX12_after_26 0 rfl ?_
        refine mg_aload_n (pc := 27) C dX12_after_27 0 rfl ?_
        refine mg_cvI (pc := 28) C (fun ad => []) (met_deeds) gX12_after_X12_deeds rfl ⟨rfl, rfl⟩ nd_deeds ⟨Nat.le_of_ble_eq_true rfl, Nat.le_of_ble_eq_true rfl⟩ rfl rfl (Nat.le_of_ble_eq_true rfl) dX12_after_28 hF (fun r7 h6 hF => ?_)
        refine mg_cvI (pc := 31) C (fun ad => [.int r7]) (met_play r7) gX12_after_X12_play rfl ⟨rfl, rfl⟩ nd_play ⟨Nat.le_of_ble_eq_true rfl, Nat.le_of_ble_eq_true rfl⟩ rfl rfl (Nat.le_of_ble_eq_true rfl) dX12_after_31 hF (fun r9 h8 hF => ?_)
        refine mg_pop (pc := 34) C dX12_after_34 rfl ?_
        refine mg_iconst (pc := 35) (v := (-1)) C dX12_after_35 (by decide) ?_
        refine mg_istore (pc := 36) (lv2 := [(4, .int (-1)), (0, .ref (mg_ad X 0)), (1, .int x1), (2, .int x2), (3, .int x3)]) C dX12_after_36 6 hnL (by decide) rfl ?_
        refine mg_iconst (pc := 38) (v := 0) C dX12_after_38 (by decide) ?_
        refine mg_istore (pc := 39) (lv2 := [(5, .int 0), (4, .int (-1)), (0, .ref (mg_ad X 0)), (1, .int x1), (2, .int x2), (3, .int x3)]) C dX12_after_39 6 hnL (by decide) rfl ?_
        refine mg_sub (lv2 := [(0, .ref (mg_ad X 0)), (3, .int x3), (4, .int (-1)), (5, .int 0)]) [2, 5, 1, 0] rfl ?_
        exact hF
      · have hF := hF.2 hc
        refine mg_bipush (pc := 23) (v := (-2)) C dX12_after_23 (by decide) ?_
        exact mg_retI (pc := 25) C E dX12_after_25 hF
def rm_count : Room := { frames := 1, cells := 0, slots := 0, locals := 22 }
theorem nd_count : yX12_count.cls = RX12 ∧ yX12_count.cls ≠ "java/lang/invoke/MethodHandle" ∧ yX12_count.cls ≠ "java/lang/invoke/VarHandle" ∧ (parseMethodDescriptor yX12_count.desc).map (fun d => d.parameters.length) = some 1 := by decide +kernel
theorem inm_count : ∀ w ∈ wsX120, w ∈ wsX12_count := fun _ h9 => List.mem_cons_of_mem _ (List.mem_append_right _ h9)
set_option maxHeartbeats 4000000 in
set_option maxRecDepth 100000 in
theorem met_count (x1 : Int32) : mg_MI yX12_count wsX12_count rm_count (fun ad => [.ref (ad 0), .int x1]) (fun Q h => wp_count Q x1 h) := by
  refine mg_startI (cc := cX12_count) (maxL := 2) (by decide) rfl rfl (fun ad => Nat.le_of_ble_eq_true rfl) (fun X Q h C hnL E hw => ?_)
  unfold wp_count at hw
  refine mg_sub (lv2 := [(0, .ref (mg_ad X 0)), (1, .int x1)]) [0, 1] rfl ?_
  have hF := hw
  refine mg_aload_n (pc := 0) C dX12_count_0 0 rfl ?_
  refine mg_iconst (pc := 1) (v := 0) C dX12_count_1 (by decide) ?_
  refine mg_puti (pc := 2) C inm_count 0 (by decide) rfl (by decide) dX12_count_2 (List.mem_of_getElem? (i := 1) rfl) rfl (tyX12_ok 0 (by decide)) (fun h1 eh1 => ?_)
  have hF := hF h1 eh1
  refine mg_iload_n (pc := 5) C dX12_count_5 1 rfl ?_
  refine mg_iconst (pc := 6) (v := 0) C dX12_count_6 (by decide) ?_
  refine mg_iconst (pc := 7) (v := 3) C dX12_count_7 (by decide) ?_
  refine mg_csI (pc := 8) C (fun ad => [.int x1, .int 0, .int 3]) (met_in x1 0 3) gX12_count_X12_in rfl ⟨rfl, rfl⟩ nd_in.2 ⟨Nat.le_of_ble_eq_true rfl, Nat.le_of_ble_eq_true rfl⟩ rfl rfl (Nat.le_of_ble_eq_true rfl) dX12_count_8 hF (fun r3 h2 hF => ?_)
  refine mg_if_eq (pc := 11) 23 C dX12_count_11 (by decide) (fun hc => ?_) (fun hc => ?_)
  · have hF := hF.1 hc
    refine mg_bipush (pc := 23) (v := (-2)) C dX12_count_23 (by decide) ?_
    exact mg_retI (pc := 25) C E dX12_count_25 hF
  · have hF := hF.2 hc
    refine mg_aload_n (pc := 14) C dX12_count_14 0 rfl ?_
    refine mg_getr (pc := 15) C inm_count 5 (by decide) (by decide) dX12_count_15 (List.mem_of_getElem? (i := 2) rfl) ?_
    refine mg_iload_n (pc := 18) C dX12_count_18 1 rfl ?_
    obtain ⟨hi, hF⟩ := hF
    refine mg_iald (pc := 19) C (by decide) rfl hi dX12_count_19 ?_
    refine mg_goto (pc := 20) 25 C dX12_count_20 (by decide) ?_
    exact mg_retI (pc := 25) C E dX12_count_25 hF
def rm_image : Room := { frames := 2, cells := 0, slots := 0, locals := 47 }
theorem nd_image : yX12_image.cls = RX12 ∧ yX12_image.cls ≠ "java/lang/invoke/MethodHandle" ∧ yX12_image.cls ≠ "java/lang/invoke/VarHandle" ∧ (parseMethodDescriptor yX12_image.desc).map (fun d => d.parameters.length) = some 1 := by decide +kernel
theorem inm_image : ∀ w ∈ wsX120, w ∈ wsX12_image := fun _ h9 => List.mem_cons_of_mem _ (List.mem_append_right _ h9)
set_option maxHeartbeats 4000000 in
set_option maxRecDepth 100000 in
theorem met_image (x1 : Int32) : mg_MI yX12_image wsX12_image rm_image (fun ad => [.ref (ad 0), .int x1]) (fun Q h => wp_image Q x1 h) := by
  refine mg_startI (cc := cX12_image) (maxL := 2) (by decide) rfl rfl (fun ad => Nat.le_of_ble_eq_true rfl) (fun X Q h C hnL E hw => ?_)
  unfold wp_image at hw
  refine mg_sub (lv2 := [(0, .ref (mg_ad X 0)), (1, .int x1)]) [0, 1] rfl ?_
  have hF := hw
  refine mg_aload_n (pc := 0) C dX12_image_0 0 rfl ?_
  refine mg_iconst (pc := 1) (v := 0) C dX12_image_1 (by decide) ?_
  refine mg_puti (pc := 2) C inm_image 0 (by decide) rfl (by decide) dX12_image_2 (List.mem_of_getElem? (i := 1) rfl) rfl (tyX12_ok 0 (by decide)) (fun h1 eh1 => ?_)
  have hF := hF h1 eh1
  refine mg_iload_n (pc := 5) C dX12_image_5 1 rfl ?_
  refine mg_iconst (pc := 6) (v := 0) C dX12_image_6 (by decide) ?_
  refine mg_iconst (pc := 7) (v := 2) C dX12_image_7 (by decide) ?_
  refine mg_csI (pc := 8) C (fun ad => [.int x1, .int 0, .int 2]) (met_in x1 0 2) gX12_image_X12_in rfl ⟨rfl, rfl⟩ nd_in.2 ⟨Nat.le_of_ble_eq_true rfl, Nat.le_of_ble_eq_true rfl⟩ rfl rfl (Nat.le_of_ble_eq_true rfl) dX12_image_8 hF (fun r3 h2 hF => ?_)
  refine mg_if_ne (pc := 11) 16 C dX12_image_11 (by decide) (fun hc => ?_) (fun hc => ?_)
  · have hF := hF.1 hc
    refine mg_aload_n (pc := 16) C dX12_image_16 0 rfl ?_
    refine mg_iconst (pc := 17) (v := 0) C dX12_image_17 (by decide) ?_
    refine mg_iload_n (pc := 18) C dX12_image_18 1 rfl ?_
    refine mg_iconst (pc := 19) (v := 1) C dX12_image_19 (by decide) ?_
    refine mg_iadd (pc := 20) C dX12_image_20 ?_
    refine mg_cvV (pc := 21) C (fun ad => [.int 0, .int (x1 + 1)]) (met_copyAll 0 (x1 + 1)) gX12_image_X12_copyAll rfl ⟨rfl, rfl⟩ nd_copyAll ⟨Nat.le_of_ble_eq_true rfl, Nat.le_of_ble_eq_true rfl⟩ rfl rfl (Nat.le_of_ble_eq_true rfl) dX12_image_21 hF (fun h4 hF => ?_)
    refine mg_aload_n (pc := 24) C dX12_image_24 0 rfl ?_
    refine mg_getr (pc := 25) C inm_image 60 (by decide) (by decide) dX12_image_25 (List.mem_of_getElem? (i := 2) rfl) ?_
    refine mg_iload_n (pc := 28) C dX12_image_28 1 rfl ?_
    refine mg_iconst (pc := 29) (v := 1) C dX12_image_29 (by decide) ?_
    obtain ⟨hi, hF⟩ := hF
    refine mg_zast (pc := 30) C (by decide) rfl hi dX12_image_30 (fun h5 eh5 => ?_)
    have hF := hF h5 eh5
    refine mg_iconst (pc := 31) (v := 1) C dX12_image_31 (by decide) ?_
    exact mg_retZ (pc := 32) C E (Or.inr rfl) dX12_image_32 hF
  · have hF := hF.2 hc
    refine mg_iconst (pc := 14) (v := 0) C dX12_image_14 (by decide) ?_
    exact mg_retZ (pc := 15) C E (Or.inl rfl) dX12_image_15 hF
def rm_again : Room := { frames := 2, cells := 0, slots := 0, locals := 47 }
theorem nd_again : yX12_again.cls = RX12 ∧ yX12_again.cls ≠ "java/lang/invoke/MethodHandle" ∧ yX12_again.cls ≠ "java/lang/invoke/VarHandle" ∧ (parseMethodDescriptor yX12_again.desc).map (fun d => d.parameters.length) = some 1 := by decide +kernel
theorem inm_again : ∀ w ∈ wsX120, w ∈ wsX12_again := fun _ h9 => List.mem_cons_of_mem _ (List.mem_append_right _ h9)
set_option maxHeartbeats 4000000 in
set_option maxRecDepth 100000 in
theorem met_again (x1 : Int32) : mg_MI yX12_again wsX12_again rm_again (fun ad => [.ref (ad 0), .int x1]) (fun Q h => wp_again Q x1 h) := by
  refine mg_startI (cc := cX12_again) (maxL := 2) (by decide) rfl rfl (fun ad => Nat.le_of_ble_eq_true rfl) (fun X Q h C hnL E hw => ?_)
  unfold wp_again at hw
  refine mg_sub (lv2 := [(0, .ref (mg_ad X 0)), (1, .int x1)]) [0, 1] rfl ?_
  have hF := hw
  refine mg_aload_n (pc := 0) C dX12_again_0 0 rfl ?_
  refine mg_iconst (pc := 1) (v := 0) C dX12_again_1 (by decide) ?_
  refine mg_puti (pc := 2) C inm_again 0 (by decide) rfl (by decide) dX12_again_2 (List.mem_of_getElem? (i := 1) rfl) rfl (tyX12_ok 0 (by decide)) (fun h1 eh1 => ?_)
  have hF := hF h1 eh1
  refine mg_iload_n (pc := 5) C dX12_again_5 1 rfl ?_
  refine mg_iconst (pc := 6) (v := 0) C dX12_again_6 (by decide) ?_
  refine mg_iconst (pc := 7) (v := 2) C dX12_again_7 (by decide) ?_
  refine mg_csI (pc := 8) C (fun ad => [.int x1, .int 0, .int 2]) (met_in x1 0 2) gX12_again_X12_in rfl ⟨rfl, rfl⟩ nd_in.2 ⟨Nat.le_of_ble_eq_true rfl, Nat.le_of_ble_eq_true rfl⟩ rfl rfl (Nat.le_of_ble_eq_true rfl) dX12_again_8 hF (fun r3 h2 hF => ?_)
  refine mg_if_eq (pc := 11) 23 C dX12_again_11 (by decide) (fun hc => ?_) (fun hc => ?_)
  · have hF := hF.1 hc
    refine mg_iconst (pc := 23) (v := 0) C dX12_again_23 (by decide) ?_
    exact mg_retZ (pc := 24) C E (Or.inl rfl) dX12_again_24 hF
  · have hF := hF.2 hc
    refine mg_aload_n (pc := 14) C dX12_again_14 0 rfl ?_
    refine mg_getr (pc := 15) C inm_again 60 (by decide) (by decide) dX12_again_15 (List.mem_of_getElem? (i := 2) rfl) ?_
    refine mg_iload_n (pc := 18) C dX12_again_18 1 rfl ?_
    obtain ⟨hi, hF⟩ := hF
    refine mg_zald (pc := 19) C (by decide) rfl hi dX12_again_19 ?_
    refine mg_if_ne (pc := 20) 25 C dX12_again_20 (by decide) (fun hc => ?_) (fun hc => ?_)
    · have hF := hF.1 hc
      refine mg_aload_n (pc := 25) C dX12_again_25 0 rfl ?_
      refine mg_iload_n (pc := 26) C dX12_again_26 1 rfl ?_
      refine mg_iconst (pc := 27) (v := 1) C dX12_again_27 (by decide) ?_
      refine mg_iadd (pc := 28) C dX12_again_28 ?_
      refine mg_iconst (pc := 29) (v := 0) C dX12_again_29 (by decide) ?_
      refine mg_cvV (pc := 30) C (fun ad => [.int (x1 + 1), .int 0]) (met_copyAll (x1 + 1) 0) gX12_again_X12_copyAll rfl ⟨rfl, rfl⟩ nd_copyAll ⟨Nat.le_of_ble_eq_true rfl, Nat.le_of_ble_eq_true rfl⟩ rfl rfl (Nat.le_of_ble_eq_true rfl) dX12_again_30 hF (fun h4 hF => ?_)
      refine mg_iconst (pc := 33) (v := 1) C dX12_again_33 (by decide) ?_
      exact mg_retZ (pc := 34) C E (Or.inr rfl) dX12_again_34 hF
    · have hF := hF.2 hc
      refine mg_iconst (pc := 23) (v := 0) C dX12_again_23 (by decide) ?_
      exact mg_retZ (pc := 24) C E (Or.inl rfl) dX12_again_24 hF
