def rm_X10_eventMinutes : Room := { frames := 0, cells := 0, slots := 0, locals := 0 }
theorem nd_X10_eventMinutes : yX10_eventMinutes.cls = RX10 ∧ yX10_eventMinutes.cls ≠ "java/lang/invoke/MethodHandle" ∧ yX10_eventMinutes.cls ≠ "java/lang/invoke/VarHandle" ∧ (parseMethodDescriptor yX10_eventMinutes.desc).map (fun d => d.parameters.length) = some 0 := by decide +kernel
theorem inm_X10_eventMinutes_10 : ∀ w ∈ u_ws RX10 TX10 (xg_N 10), w ∈ wsX10_eventMinutes := fun _ h9 => List.mem_cons_of_mem _ (List.mem_append_right _ h9)
set_option maxHeartbeats 4000000 in
set_option maxRecDepth 100000 in
theorem met_X10_eventMinutes (Y : xg_Y) (this : Nat) : xg_MI yX10_eventMinutes wsX10_eventMinutes rm_X10_eventMinutes Y (fun zs => [va_rf (some this)]) (fun Q h => wp_X10_eventMinutes Y Q this h) := by
  refine xg_startI (cc := cX10_eventMinutes) (maxL := 3) (own := RX10) (by decide) rfl rfl (fun zs => Nat.le_of_ble_eq_true rfl) (fun X Q h C hnL E hw => ?_)
  unfold wp_X10_eventMinutes at hw
  obtain ⟨hthis, hw⟩ := hw
  refine xg_sub (lv2 := [(0, va_rf (some this))]) [0] rfl ?_
  refine mg_use (hw (fun (y1 : Int32) (y2 : Int32) (h : xg_H) => xg_W X 0 0 Y 4 [(0, va_rf (some this)), (1, .int y1), (2, .int y2)] [] h) ?_) (fun hF => ?_)
  · intro y1 y2 h hF
    refine xg_iload_n (pc := 4) C dX10_eventMinutes_4 2 rfl ?_
    refine xg_bipush (pc := 5) (v := 30) C dX10_eventMinutes_5 (by decide) ?_
    refine xg_icmp_gt (pc := 7) 25 C dX10_eventMinutes_7 (by decide) (fun hc => ?_) (fun hc => ?_)
    · have hF := hF.1 hc
      refine xg_iload_n (pc := 25) C dX10_eventMinutes_25 1 rfl ?_
      exact xg_retI (pc := 26) C E dX10_eventMinutes_26 hF
    · have hF := hF.2 hc
      refine xg_iload_n (pc := 10) C dX10_eventMinutes_10 1 rfl ?_
      refine xg_aload_n (pc := 11) C dX10_eventMinutes_11 0 rfl ?_
      refine xg_getr (pc := 12) (C1 := RX10) (T1 := TX10) (ci := 10) (ref := "SandGlasses$Walk") C inm_X10_eventMinutes_10 rfl (by decide) 2 (by decide) rfl dX10_eventMinutes_12 (List.mem_of_getElem? (i := 1) rfl) rfl rfl hthis ?_
      refine xg_iload_n (pc := 15) C dX10_eventMinutes_15 2 rfl ?_
      obtain ⟨a1, ha1, hka1, hF⟩ := hF
      obtain ⟨hi, hF⟩ := hF
      refine xg_iald (pc := 16) C ha1 hka1 hi dX10_eventMinutes_16 ?_
      refine xg_ior (pc := 17) C dX10_eventMinutes_17 ?_
      refine xg_topi (pc := 18) (fun z2 ez2 => ?_)
      have hF := hF z2 ez2
      refine xg_istore_n (pc := 18) (lv2 := [(1, .int z2), (0, va_rf (some this)), (2, .int y2)]) C dX10_eventMinutes_18 3 hnL (by decide) rfl ?_
      obtain ⟨z3, ez3⟩ : ∃ y : Int32, y = y2 + 1 := ⟨_, rfl⟩
      have hF := hF z3 ez3
      refine xg_iinc (pc := 19) (v := z3) (lv2 := [(2, .int z3), (1, .int z2), (0, va_rf (some this))]) C dX10_eventMinutes_19 2 rfl (by rw [ez3]; rfl) 3 hnL (by decide) rfl ?_
      refine xg_goto (pc := 22) 4 C dX10_eventMinutes_22 (by decide) ?_
      refine xg_sub (lv2 := [(0, va_rf (some this)), (1, .int z2), (2, .int z3)]) [2, 1, 0] rfl ?_
      exact hF
  · skip
    refine xg_iconst (pc := 0) (v := 0) C dX10_eventMinutes_0 (by decide) ?_
    refine xg_istore_n (pc := 1) (lv2 := [(1, .int 0), (0, va_rf (some this))]) C dX10_eventMinutes_1 3 hnL (by decide) rfl ?_
    refine xg_iconst (pc := 2) (v := 1) C dX10_eventMinutes_2 (by decide) ?_
    refine xg_istore_n (pc := 3) (lv2 := [(2, .int 1), (1, .int 0), (0, va_rf (some this))]) C dX10_eventMinutes_3 3 hnL (by decide) rfl ?_
    refine xg_sub (lv2 := [(0, va_rf (some this)), (1, .int 0), (2, .int 1)]) [2, 1, 0] rfl ?_
    exact hF
def rm_X11_turned : Room := { frames := 0, cells := 0, slots := 0, locals := 0 }
theorem nd_X11_turned : yX11_turned.cls = RX11 ∧ yX11_turned.cls ≠ "java/lang/invoke/MethodHandle" ∧ yX11_turned.cls ≠ "java/lang/invoke/VarHandle" ∧ (parseMethodDescriptor yX11_turned.desc).map (fun d => d.parameters.length) = some 3 := by decide +kernel
set_option maxHeartbeats 4000000 in
set_option maxRecDepth 100000 in
theorem met_X11_turned (Y : xg_Y) (x0 : Int32) (x1 : Int32) (x2 : Int32) : xg_MI yX11_turned wsX11_turned rm_X11_turned Y (fun zs => [.int x0, .int x1, .int x2]) (fun Q h => wp_X11_turned Y Q x0 x1 x2 h) := by
  refine xg_startI (cc := cX11_turned) (maxL := 4) (own := RX11) (by decide) rfl rfl (fun zs => Nat.le_of_ble_eq_true rfl) (fun X Q h C hnL E hw => ?_)
  unfold wp_X11_turned at hw
  refine xg_sub (lv2 := [(0, .int x0), (1, .int x1), (2, .int x2)]) [0, 1, 2] rfl ?_
  have hF := hw
  refine xg_gets (pc := 0) (ref := "SandGlasses") C 2 (by decide) dX11_turned_0 (List.mem_of_getElem? (i := 1) rfl) rfl ?_
  refine xg_iload_n (pc := 3) C dX11_turned_3 2 rfl ?_
  refine xg_bipush (pc := 4) (v := 15) C dX11_turned_4 (by decide) ?_
  refine xg_iand (pc := 6) C dX11_turned_6 ?_
  obtain ⟨hi, hF⟩ := hF
  refine xg_sld (pc := 7) C 2 (by decide) hi dX11_turned_7 ?_
  refine xg_topi (pc := 8) (fun z1 ez1 => ?_)
  have hF := hF z1 ez1
  refine xg_istore_n (pc := 8) (lv2 := [(3, .int z1), (0, .int x0), (1, .int x1), (2, .int x2)]) C dX11_turned_8 4 hnL (by decide) rfl ?_
  refine xg_iload_n (pc := 9) C dX11_turned_9 2 rfl ?_
  refine xg_iload_n (pc := 10) C dX11_turned_10 0 rfl ?_
  refine xg_iconst (pc := 11) (v := (-1)) C dX11_turned_11 (by decide) ?_
  refine xg_ixor (pc := 12) C dX11_turned_12 ?_
  refine xg_iand (pc := 13) C dX11_turned_13 ?_
  refine xg_iload_n (pc := 14) C dX11_turned_14 1 rfl ?_
  refine xg_iload_n (pc := 15) C dX11_turned_15 2 rfl ?_
  refine xg_isub (pc := 16) C dX11_turned_16 ?_
  refine xg_iload_n (pc := 17) C dX11_turned_17 0 rfl ?_
  refine xg_iand (pc := 18) C dX11_turned_18 ?_
  refine xg_ior (pc := 19) C dX11_turned_19 ?_
  exact xg_retI (pc := 20) C E dX11_turned_20 hF
def rm_X7_workOut : Room := { frames := 1, cells := 0, slots := 0, locals := 24 }
theorem nd_X7_workOut : yX7_workOut.cls = RX7 ∧ yX7_workOut.cls ≠ "java/lang/invoke/MethodHandle" ∧ yX7_workOut.cls ≠ "java/lang/invoke/VarHandle" ∧ (parseMethodDescriptor yX7_workOut.desc).map (fun d => d.parameters.length) = some 1 := by decide +kernel
set_option maxHeartbeats 4000000 in
set_option maxRecDepth 100000 in
theorem met_X7_workOut (Y : xg_Y) (x0 : Int32) : xg_MI yX7_workOut wsX7_workOut rm_X7_workOut Y (fun zs => [.int x0]) (fun Q h => wp_X7_workOut Y Q x0 h) := by
  refine xg_startI (cc := cX7_workOut) (maxL := 4) (own := RX7) (by decide) rfl rfl (fun zs => Nat.le_of_ble_eq_true rfl) (fun X Q h C hnL E hw => ?_)
  unfold wp_X7_workOut at hw
  refine xg_sub (lv2 := [(0, .int x0)]) [0] rfl ?_
  refine mg_use (hw (fun (y1 : Int32) (y2 : Int32) (h : xg_H) => xg_W X 0 0 Y 5 [(0, .int x0), (1, .int y1), (2, .int y2)] [] h) (fun (y1 : Int32) (y2 : Int32) (y3 : Int32) (h : xg_H) => xg_W X 0 0 Y 47 [(0, .int x0), (1, .int y1), (2, .int y2), (3, .int y3)] [] h) (fun (y1 : Int32) (y2 : Int32) (h : xg_H) => xg_W X 0 0 Y 29 [(0, .int x0), (1, .int y1), (2, .int y2)] [] h) ?_ ?_ ?_) (fun hF => ?_)
  · intro y1 y2 h hF
    refine xg_iload_n (pc := 5) C dX7_workOut_5 2 rfl ?_
    refine xg_bipush (pc := 6) (v := 12) C dX7_workOut_6 (by decide) ?_
    refine xg_icmp_ge (pc := 8) 35 C dX7_workOut_8 (by decide) (fun hc => ?_) (fun hc => ?_)
    · have hF := hF.1 hc
      refine xg_iload_n (pc := 35) C dX7_workOut_35 1 rfl ?_
      refine xg_bipush (pc := 36) (v := 8) C dX7_workOut_36 (by decide) ?_
      refine xg_icmp_ne (pc := 38) 43 C dX7_workOut_38 (by decide) (fun hc => ?_) (fun hc => ?_)
      · have hF := hF.1 hc
        refine xg_iconst (pc := 43) (v := 0) C dX7_workOut_43 (by decide) ?_
        refine xg_istore_n (pc := 44) (lv2 := [(2, .int 0), (0, .int x0), (1, .int y1)]) C dX7_workOut_44 4 hnL (by decide) rfl ?_
        refine xg_iconst (pc := 45) (v := 0) C dX7_workOut_45 (by decide) ?_
        refine xg_istore_n (pc := 46) (lv2 := [(3, .int 0), (2, .int 0), (0, .int x0), (1, .int y1)]) C dX7_workOut_46 4 hnL (by decide) rfl ?_
        refine xg_sub (lv2 := [(0, .int x0), (1, .int y1), (2, .int 0), (3, .int 0)]) [2, 3, 1, 0] rfl ?_
        exact hF
      · have hF := hF.2 hc
        refine xg_iconst (pc := 41) (v := 0) C dX7_workOut_41 (by decide) ?_
        exact xg_retI (pc := 42) C E dX7_workOut_42 hF
    · have hF := hF.2 hc
      refine xg_iload_n (pc := 11) C dX7_workOut_11 0 rfl ?_
      refine xg_iload_n (pc := 12) C dX7_workOut_12 2 rfl ?_
      refine xg_ishr (pc := 13) C dX7_workOut_13 ?_
      refine xg_bipush (pc := 14) (v := 7) C dX7_workOut_14 (by decide) ?_
      refine xg_iand (pc := 16) C dX7_workOut_16 ?_
      refine xg_topi (pc := 17) (fun z1 ez1 => ?_)
      have hF := hF z1 ez1
      refine xg_istore_n (pc := 17) (lv2 := [(3, .int z1), (0, .int x0), (1, .int y1), (2, .int y2)]) C dX7_workOut_17 4 hnL (by decide) rfl ?_
      refine xg_iload_n (pc := 18) C dX7_workOut_18 0 rfl ?_
      refine xg_if_le (pc := 19) 29 C dX7_workOut_19 (by decide) (fun hc => ?_) (fun hc => ?_)
      · have hF := hF.1 hc
        refine xg_sub (lv2 := [(0, .int x0), (1, .int y1), (2, .int y2)]) [1, 2, 3] rfl ?_
        exact hF
      · have hF := hF.2 hc
        refine xg_iload_n (pc := 22) C dX7_workOut_22 0 rfl ?_
        refine xg_iload_n (pc := 23) C dX7_workOut_23 2 rfl ?_
        refine xg_icmp_ge (pc := 24) 29 C dX7_workOut_24 (by decide) (fun hc => ?_) (fun hc => ?_)
        · have hF := hF.1 hc
          refine xg_sub (lv2 := [(0, .int x0), (1, .int y1), (2, .int y2)]) [1, 2, 3] rfl ?_
          exact hF
        · have hF := hF.2 hc
          refine xg_iload_n (pc := 27) C dX7_workOut_27 0 rfl ?_
          refine xg_istore_n (pc := 28) (lv2 := [(1, .int z1), (3, .int z1), (0, .int x0), (2, .int y2)]) C dX7_workOut_28 4 hnL (by decide) rfl ?_
          refine xg_sub (lv2 := [(0, .int x0), (1, .int z1), (2, .int y2)]) [2, 0, 3] rfl ?_
          exact hF
  · intro y1 y2 y3 h hF
    refine xg_iload_n (pc := 47) C dX7_workOut_47 3 rfl ?_
    refine xg_bipush (pc := 48) (v := 12) C dX7_workOut_48 (by decide) ?_
    refine xg_icmp_ge (pc := 50) 76 C dX7_workOut_50 (by decide) (fun hc => ?_) (fun hc => ?_)
    · have hF := hF.1 hc
      refine xg_iload_n (pc := 76) C dX7_workOut_76 1 rfl ?_
      refine xg_bipush (pc := 77) (v := 12) C dX7_workOut_77 (by decide) ?_
      refine xg_ishl (pc := 79) C dX7_workOut_79 ?_
      refine xg_iload_n (pc := 80) C dX7_workOut_80 2 rfl ?_
      refine xg_ior (pc := 81) C dX7_workOut_81 ?_
      exact xg_retI (pc := 82) C E dX7_workOut_82 hF
    · have hF := hF.2 hc
      refine xg_iload_n (pc := 53) C dX7_workOut_53 2 rfl ?_
      refine xg_iconst (pc := 54) (v := 0) C dX7_workOut_54 (by decide) ?_
      refine xg_iload_n (pc := 55) C dX7_workOut_55 0 rfl ?_
      refine xg_iload_n (pc := 56) C dX7_workOut_56 3 rfl ?_
      refine xg_ishr (pc := 57) C dX7_workOut_57 ?_
      refine xg_bipush (pc := 58) (v := 7) C dX7_workOut_58 (by decide) ?_
      refine xg_iand (pc := 60) C dX7_workOut_60 ?_
      refine xg_iload_n (pc := 61) C dX7_workOut_61 1 rfl ?_
      refine xg_isub (pc := 62) C dX7_workOut_62 ?_
      refine xg_mmax (pc := 63) C (List.mem_of_getElem? (i := 1) rfl) (List.mem_of_getElem? (i := 2) rfl) (List.mem_of_getElem? (i := 3) rfl) (List.mem_of_getElem? (i := 4) rfl) (Nat.le_of_ble_eq_true rfl) (Nat.le_of_ble_eq_true rfl) (Nat.zero_le _) (Nat.zero_le _) dX7_workOut_63 ?_
      refine xg_topi (pc := 66) (fun z2 ez2 => ?_)
      have hF := hF z2 ez2
      refine xg_iload_n (pc := 66) C dX7_workOut_66 3 rfl ?_
      refine xg_ishl (pc := 67) C dX7_workOut_67 ?_
      refine xg_ior (pc := 68) C dX7_workOut_68 ?_
      refine xg_topi (pc := 69) (fun z3 ez3 => ?_)
      have hF := hF z3 ez3
      refine xg_istore_n (pc := 69) (lv2 := [(2, .int z3), (0, .int x0), (1, .int y1), (3, .int y3)]) C dX7_workOut_69 4 hnL (by decide) rfl ?_
      obtain ⟨z4, ez4⟩ : ∃ y : Int32, y = y3 + 3 := ⟨_, rfl⟩
      have hF := hF z4 ez4
      refine xg_iinc (pc := 70) (v := z4) (lv2 := [(3, .int z4), (2, .int z3), (0, .int x0), (1, .int y1)]) C dX7_workOut_70 3 rfl (by rw [ez4]; rfl) 4 hnL (by decide) rfl ?_
      refine xg_goto (pc := 73) 47 C dX7_workOut_73 (by decide) ?_
      refine xg_sub (lv2 := [(0, .int x0), (1, .int y1), (2, .int z3), (3, .int z4)]) [2, 3, 1, 0] rfl ?_
      exact hF
  · intro y1 y2 h hF
    obtain ⟨z5, ez5⟩ : ∃ y : Int32, y = y2 + 3 := ⟨_, rfl⟩
    have hF := hF z5 ez5
    refine xg_iinc (pc := 29) (v := z5) (lv2 := [(2, .int z5), (0, .int x0), (1, .int y1)]) C dX7_workOut_29 2 rfl (by rw [ez5]; rfl) 4 hnL (by decide) rfl ?_
    refine xg_goto (pc := 32) 5 C dX7_workOut_32 (by decide) ?_
    refine xg_sub (lv2 := [(0, .int x0), (1, .int y1), (2, .int z5)]) [1, 2, 0] rfl ?_
    exact hF
  · skip
    refine xg_bipush (pc := 0) (v := 8) C dX7_workOut_0 (by decide) ?_
    refine xg_istore_n (pc := 2) (lv2 := [(1, .int 8), (0, .int x0)]) C dX7_workOut_2 4 hnL (by decide) rfl ?_
    refine xg_iconst (pc := 3) (v := 0) C dX7_workOut_3 (by decide) ?_
    refine xg_istore_n (pc := 4) (lv2 := [(2, .int 0), (1, .int 8), (0, .int x0)]) C dX7_workOut_4 4 hnL (by decide) rfl ?_
    refine xg_sub (lv2 := [(0, .int x0), (1, .int 8), (2, .int 0)]) [2, 1, 0] rfl ?_
    exact hF
def rm_X7_from : Room := { frames := 2, cells := 0, slots := 0, locals := 47 }
theorem nd_X7_from : yX7_from.cls = RX7 ∧ yX7_from.cls ≠ "java/lang/invoke/MethodHandle" ∧ yX7_from.cls ≠ "java/lang/invoke/VarHandle" ∧ (parseMethodDescriptor yX7_from.desc).map (fun d => d.parameters.length) = some 1 := by decide +kernel
theorem inm_X7_from_7 : ∀ w ∈ u_ws RX7 TX7 (xg_N 7), w ∈ wsX7_from := fun _ h9 => List.mem_cons_of_mem _ (List.mem_append_right _ h9)
set_option maxHeartbeats 4000000 in
set_option maxRecDepth 100000 in
theorem met_X7_from (Y : xg_Y) (this : Nat) (x1 : Int32) : xg_MI yX7_from wsX7_from rm_X7_from Y (fun zs => [va_rf (some this), .int x1]) (fun Q h => wp_X7_from Y Q this x1 h) := by
  refine xg_startI (cc := cX7_from) (maxL := 3) (own := RX7) (by decide) rfl rfl (fun zs => Nat.le_of_ble_eq_true rfl) (fun X Q h C hnL E hw => ?_)
  unfold wp_X7_from at hw
  obtain ⟨hthis, hw⟩ := hw
  refine xg_sub (lv2 := [(0, va_rf (some this)), (1, .int x1)]) [0, 1] rfl ?_
  refine mg_use (hw (fun (y2 : Int32) (h : xg_H) => xg_W X 0 0 Y 25 [(0, va_rf (some this)), (2, .int y2)] [] h) ?_) (fun hF => ?_)
  · intro y2 h hF
    refine xg_aload_n (pc := 25) C dX7_from_25 0 rfl ?_
    refine xg_getr (pc := 26) (C1 := RX7) (T1 := TX7) (ci := 7) (ref := "SandGlasses$Steps") C inm_X7_from_7 rfl (by decide) 1 (by decide) rfl dX7_from_26 (List.mem_of_getElem? (i := 1) rfl) rfl rfl hthis ?_
    refine xg_iload_n (pc := 29) C dX7_from_29 1 rfl ?_
    obtain ⟨a6, ha6, hka6, hF⟩ := hF
    obtain ⟨hi, hF⟩ := hF
    refine xg_iald (pc := 30) C ha6 hka6 hi dX7_from_30 ?_
    exact xg_retI (pc := 31) C E dX7_from_31 hF
  · skip
    refine xg_iload_n (pc := 0) C dX7_from_0 1 rfl ?_
    refine xg_sipush (pc := 1) (v := 4095) C dX7_from_1 (by decide) ?_
    refine xg_iand (pc := 4) C dX7_from_4 ?_
    refine xg_topi (pc := 5) (fun z1 ez1 => ?_)
    have hF := hF z1 ez1
    refine xg_istore_n (pc := 5) (lv2 := [(2, .int z1), (0, va_rf (some this)), (1, .int x1)]) C dX7_from_5 3 hnL (by decide) rfl ?_
    refine xg_aload_n (pc := 6) C dX7_from_6 1 rfl ?_
    refine xg_getr (pc := 7) (C1 := RX7) (T1 := TX7) (ci := 7) (ref := "SandGlasses$Steps") C inm_X7_from_7 rfl (by decide) 1 (by decide) rfl dX7_from_7 (List.mem_of_getElem? (i := 1) rfl) rfl rfl hthis ?_
    refine xg_iload_n (pc := 10) C dX7_from_10 0 rfl ?_
    obtain ⟨a2, ha2, hka2, hF⟩ := hF
    obtain ⟨hi, hF⟩ := hF
    refine xg_iald (pc := 11) C ha2 hka2 hi dX7_from_11 ?_
    refine xg_if_ne (pc := 12) 25 C dX7_from_12 (by decide) (fun hc => ?_) (fun hc => ?_)
    · have hF := hF.1 hc
      refine xg_sub (lv2 := [(0, va_rf (some this)), (2, .int z1)]) [1, 0] rfl ?_
      exact hF
    · have hF := hF.2 hc
      refine xg_aload_n (pc := 15) C dX7_from_15 1 rfl ?_
      refine xg_getr (pc := 16) (C1 := RX7) (T1 := TX7) (ci := 7) (ref := "SandGlasses$Steps") C inm_X7_from_7 rfl (by decide) 1 (by decide) rfl dX7_from_16 (List.mem_of_getElem? (i := 1) rfl) rfl rfl hthis ?_
      refine xg_iload_n (pc := 19) C dX7_from_19 0 rfl ?_
      refine xg_iload_n (pc := 20) C dX7_from_20 0 rfl ?_
      refine xg_csI (pc := 21) C (fun zs => [.int z1]) (met_X7_workOut Y z1) gX7_from_X7_workOut rfl ⟨rfl, rfl⟩ nd_X7_workOut.2 ⟨Nat.le_of_ble_eq_true rfl, Nat.le_of_ble_eq_true rfl⟩ rfl rfl (by simp [xg_rf_cat, xg_cat_i, xg_cat_l, xg_cat_a]) ⟨Nat.zero_le _, Nat.zero_le _⟩ dX7_from_21 hF (fun r4 h3 hF => ?_)
      obtain ⟨hi, hF⟩ := hF
      refine xg_iast (pc := 24) C ha2 hka2 hi dX7_from_24 (fun h5 eh5 => ?_)
      have hF := hF h5 eh5
      refine xg_sub (lv2 := [(0, va_rf (some this)), (2, .int z1)]) [1, 0] rfl ?_
      exact hF
def rm_X10_passOn : Room := { frames := 0, cells := 0, slots := 0, locals := 0 }
theorem nd_X10_passOn : yX10_passOn.cls = RX10 ∧ yX10_passOn.cls ≠ "java/lang/invoke/MethodHandle" ∧ yX10_passOn.cls ≠ "java/lang/invoke/VarHandle" ∧ (parseMethodDescriptor yX10_passOn.desc).map (fun d => d.parameters.length) = some 1 := by decide +kernel
theorem inm_X10_passOn_10 : ∀ w ∈ u_ws RX10 TX10 (xg_N 10), w ∈ wsX10_passOn := fun _ h9 => List.mem_cons_of_mem _ (List.mem_append_right _ h9)
set_option maxHeartbeats 4000000 in
set_option maxRecDepth 100000 in
theorem met_X10_passOn (Y : xg_Y) (this : Nat) (x1 : Int32) : xg_MV yX10_passOn wsX10_passOn rm_X10_passOn Y (fun zs => [va_rf (some this), .int x1]) (fun Q h => wp_X10_passOn Y Q this x1 h) := by
  refine xg_startV (cc := cX10_passOn) (maxL := 5) (own := RX10) (by decide) rfl rfl (fun zs => Nat.le_of_ble_eq_true rfl) (fun X Q h C hnL E hw => ?_)
  unfold wp_X10_passOn at hw
  obtain ⟨hthis, hw⟩ := hw
  refine xg_sub (lv2 := [(0, va_rf (some this)), (1, .int x1)]) [0, 1] rfl ?_
  refine mg_use (hw (fun (y2 : Int32) (h : xg_H) => xg_W X 0 0 Y 2 [(0, va_rf (some this)), (1, .int x1), (2, .int y2)] [] h) (fun (y2 : Int32) (h : xg_H) => xg_W X 0 0 Y 66 [(0, va_rf (some this)), (1, .int x1), (2, .int y2)] [] h) ?_ ?_) (fun hF => ?_)
  · intro y2 h hF
    refine xg_iload_n (pc := 2) C dX10_passOn_2 2 rfl ?_
    refine xg_aload_n (pc := 3) C dX10_passOn_3 0 rfl ?_
    refine xg_geti (pc := 4) (C1 := RX10) (T1 := TX10) (ci := 10) (ref := "SandGlasses$Walk") C inm_X10_passOn_10 rfl (by decide) 5 (by decide) rfl dX10_passOn_4 (List.mem_of_getElem? (i := 1) rfl) rfl rfl hthis ?_
    refine xg_icmp_ge (pc := 7) 72 C dX10_passOn_7 (by decide) (fun hc => ?_) (fun hc => ?_)
    · have hF := hF.1 hc
      exact xg_retV (pc := 72) C E dX10_passOn_72 hF
    · have hF := hF.2 hc
      refine xg_aload_n (pc := 10) C dX10_passOn_10 0 rfl ?_
      refine xg_getr (pc := 11) (C1 := RX10) (T1 := TX10) (ci := 10) (ref := "SandGlasses$Walk") C inm_X10_passOn_10 rfl (by decide) 3 (by decide) rfl dX10_passOn_11 (List.mem_of_getElem? (i := 2) rfl) rfl rfl hthis ?_
      refine xg_iload_n (pc := 14) C dX10_passOn_14 1 rfl ?_
      refine xg_bipush (pc := 15) (v := 16) C dX10_passOn_15 (by decide) ?_
      refine xg_imul (pc := 17) C dX10_passOn_17 ?_
      refine xg_iload_n (pc := 18) C dX10_passOn_18 2 rfl ?_
      refine xg_iadd (pc := 19) C dX10_passOn_19 ?_
      obtain ⟨a1, ha1, hka1, hF⟩ := hF
      obtain ⟨hi, hF⟩ := hF
      refine xg_iald (pc := 20) C ha1 hka1 hi dX10_passOn_20 ?_
      refine xg_topi (pc := 21) (fun z2 ez2 => ?_)
      have hF := hF z2 ez2
      refine xg_istore_n (pc := 21) (lv2 := [(3, .int z2), (0, va_rf (some this)), (1, .int x1), (2, .int y2)]) C dX10_passOn_21 5 hnL (by decide) rfl ?_
      refine xg_iload_n (pc := 22) C dX10_passOn_22 0 rfl ?_
      refine xg_sipush (pc := 23) (v := 4095) C dX10_passOn_23 (by decide) ?_
      refine xg_iand (pc := 26) C dX10_passOn_26 ?_
      refine xg_topi (pc := 27) (fun z3 ez3 => ?_)
      have hF := hF z3 ez3
      refine xg_istore (pc := 27) (lv2 := [(4, .int z3), (3, .int z2), (0, va_rf (some this)), (1, .int x1), (2, .int y2)]) C dX10_passOn_27 5 hnL (by decide) rfl ?_
      refine xg_iload_n (pc := 29) C dX10_passOn_29 1 rfl ?_
      refine xg_if_eq (pc := 30) 66 C dX10_passOn_30 (by decide) (fun hc => ?_) (fun hc => ?_)
      · have hF := hF.1 hc
        refine xg_sub (lv2 := [(0, va_rf (some this)), (1, .int x1), (2, .int y2)]) [2, 3, 4] rfl ?_
        exact hF
      · have hF := hF.2 hc
        refine xg_iload (pc := 33) C dX10_passOn_33 0 rfl ?_
        refine xg_aload_n (pc := 35) C dX10_passOn_35 2 rfl ?_
        refine xg_geti (pc := 36) (C1 := RX10) (T1 := TX10) (ci := 10) (ref := "SandGlasses$Walk") C inm_X10_passOn_10 rfl (by decide) 4 (by decide) rfl dX10_passOn_36 (List.mem_of_getElem? (i := 3) rfl) rfl rfl hthis ?_
        refine xg_icmp_ge (pc := 39) 66 C dX10_passOn_39 (by decide) (fun hc => ?_) (fun hc => ?_)
        · have hF := hF.1 hc
          refine xg_sub (lv2 := [(0, va_rf (some this)), (1, .int x1), (2, .int y2)]) [2, 3, 4] rfl ?_
          exact hF
        · have hF := hF.2 hc
          refine xg_aload_n (pc := 42) C dX10_passOn_42 2 rfl ?_
          refine xg_getr (pc := 43) (C1 := RX10) (T1 := TX10) (ci := 10) (ref := "SandGlasses$Walk") C inm_X10_passOn_10 rfl (by decide) 8 (by decide) rfl dX10_passOn_43 (List.mem_of_getElem? (i := 4) rfl) rfl rfl hthis ?_
          refine xg_iload (pc := 46) C dX10_passOn_46 0 rfl ?_
          refine xg_dup2 (pc := 48) C dX10_passOn_48 rfl (xg_rf_cat _) ?_
          obtain ⟨a4, ha4, hka4, hF⟩ := hF
          obtain ⟨hi, hF⟩ := hF
          refine xg_iald (pc := 49) C ha4 hka4 hi dX10_passOn_49 ?_
          refine xg_aload_n (pc := 50) C dX10_passOn_50 2 rfl ?_
          refine xg_getr (pc := 51) (C1 := RX10) (T1 := TX10) (ci := 10) (ref := "SandGlasses$Walk") C inm_X10_passOn_10 rfl (by decide) 7 (by decide) rfl dX10_passOn_51 (List.mem_of_getElem? (i := 5) rfl) rfl rfl hthis ?_
          refine xg_iload_n (pc := 54) C dX10_passOn_54 3 rfl ?_
          obtain ⟨a5, ha5, hka5, hF⟩ := hF
          obtain ⟨hi, hF⟩ := hF
          refine xg_iald (pc := 55) C ha5 hka5 hi dX10_passOn_55 ?_
          refine xg_iload_n (pc := 56) C dX10_passOn_56 1 rfl ?_
          refine xg_bipush (pc := 57) (v := 12) C dX10_passOn_57 (by decide) ?_
          refine xg_ishr (pc := 59) C dX10_passOn_59 ?_
          refine xg_ishl (pc := 60) C dX10_passOn_60 ?_
          refine xg_ldc (pc := 61) (v := 2147483647) C dX10_passOn_61 (List.mem_of_getElem? (i := 6) rfl) ?_
          refine xg_iand (pc := 63) C dX10_passOn_63 ?_
          refine xg_ior (pc := 64) C dX10_passOn_64 ?_
          obtain ⟨hi, hF⟩ := hF
          refine xg_iast (pc := 65) C ha4 hka4 hi dX10_passOn_65 (fun h6 eh6 => ?_)
          have hF := hF h6 eh6
          refine xg_sub (lv2 := [(0, va_rf (some this)), (1, .int x1), (2, .int y2)]) [2, 3, 4] rfl ?_
          exact hF
  · intro y2 h hF
    obtain ⟨z7, ez7⟩ : ∃ y : Int32, y = y2 + 1 := ⟨_, rfl⟩
    have hF := hF z7 ez7
    refine xg_iinc (pc := 66) (v := z7) (lv2 := [(2, .int z7), (0, va_rf (some this)), (1, .int x1)]) C dX10_passOn_66 2 rfl (by rw [ez7]; rfl) 5 hnL (by decide) rfl ?_
    refine xg_goto (pc := 69) 2 C dX10_passOn_69 (by decide) ?_
    refine xg_sub (lv2 := [(0, va_rf (some this)), (1, .int x1), (2, .int z7)]) [1, 2, 0] rfl ?_
    exact hF
  · skip
    refine xg_iconst (pc := 0) (v := 0) C dX10_passOn_0 (by decide) ?_
    refine xg_istore_n (pc := 1) (lv2 := [(2, .int 0), (0, va_rf (some this)), (1, .int x1)]) C dX10_passOn_1 5 hnL (by decide) rfl ?_
    refine xg_sub (lv2 := [(0, va_rf (some this)), (1, .int x1), (2, .int 0)]) [1, 2, 0] rfl ?_
    exact hF
def rm_X10_findMinutes : Room := { frames := 2, cells := 0, slots := 0, locals := 46 }
theorem nd_X10_findMinutes : yX10_findMinutes.cls = RX10 ∧ yX10_findMinutes.cls ≠ "java/lang/invoke/MethodHandle" ∧ yX10_findMinutes.cls ≠ "java/lang/invoke/VarHandle" ∧ (parseMethodDescriptor yX10_findMinutes.desc).map (fun d => d.parameters.length) = some 0 := by decide +kernel
theorem inm_X10_findMinutes_10 : ∀ w ∈ u_ws RX10 TX10 (xg_N 10), w ∈ wsX10_findMinutes := fun _ h9 => List.mem_cons_of_mem _ (List.mem_append_right _ h9)
set_option maxHeartbeats 4000000 in
set_option maxRecDepth 100000 in
theorem met_X10_findMinutes (Y : xg_Y) (this : Nat) : xg_MV yX10_findMinutes wsX10_findMinutes rm_X10_findMinutes Y (fun zs => [va_rf (some this)]) (fun Q h => wp_X10_findMinutes Y Q this h) := by
  refine xg_startV (cc := cX10_findMinutes) (maxL := 3) (own := RX10) (by decide) rfl rfl (fun zs => Nat.le_of_ble_eq_true rfl) (fun X Q h C hnL E hw => ?_)
  unfold wp_X10_findMinutes at hw
  obtain ⟨hthis, hw⟩ := hw
  refine xg_sub (lv2 := [(0, va_rf (some this))]) [0] rfl ?_
  refine mg_use (hw (fun (y1 : Int32) (h : xg_H) => xg_W X 0 0 Y 57 [(0, va_rf (some this)), (1, .int y1)] [] h) (fun (y1 : Int32) (y2 : Int32) (h : xg_H) => xg_W X 0 0 Y 89 [(0, va_rf (some this)), (1, .int y1), (2, .int y2)] [] h) (fun (y1 : Int32) (y2 : Int32) (h : xg_H) => xg_W X 0 0 Y 119 [(0, va_rf (some this)), (1, .int y1), (2, .int y2)] [] h) (fun (y1 : Int32) (y2 : Int32) (h : xg_H) => xg_W X 0 0 Y 111 [(0, va_rf (some this)), (1, .int y1), (2, .int y2)] [] h) ?_ ?_ ?_ ?_) (fun hF => ?_)
  · intro y1 h hF
    refine xg_iload_n (pc := 57) C dX10_findMinutes_57 1 rfl ?_
    refine xg_bipush (pc := 58) (v := 30) C dX10_findMinutes_58 (by decide) ?_
    refine xg_icmp_gt (pc := 60) 181 C dX10_findMinutes_60 (by decide) (fun hc => ?_) (fun hc => ?_)
    · have hF := hF.1 hc
      exact xg_retV (pc := 181) C E dX10_findMinutes_181 hF
    · have hF := hF.2 hc
      refine xg_aload_n (pc := 63) C dX10_findMinutes_63 0 rfl ?_
      refine xg_getr (pc := 64) (C1 := RX10) (T1 := TX10) (ci := 10) (ref := "SandGlasses$Walk") C inm_X10_findMinutes_10 rfl (by decide) 2 (by decide) rfl dX10_findMinutes_64 (List.mem_of_getElem? (i := 1) rfl) rfl rfl hthis ?_
      refine xg_iload_n (pc := 67) C dX10_findMinutes_67 1 rfl ?_
      refine xg_iconst (pc := 68) (v := 1) C dX10_findMinutes_68 (by decide) ?_
      refine xg_isub (pc := 69) C dX10_findMinutes_69 ?_
      obtain ⟨a10, ha10, hka10, hF⟩ := hF
      obtain ⟨hi, hF⟩ := hF
      refine xg_iald (pc := 70) C ha10 hka10 hi dX10_findMinutes_70 ?_
      refine xg_if_eq (pc := 71) 181 C dX10_findMinutes_71 (by decide) (fun hc => ?_) (fun hc => ?_)
      · have hF := hF.1 hc
        exact xg_retV (pc := 181) C E dX10_findMinutes_181 hF
      · have hF := hF.2 hc
        refine xg_aload_n (pc := 74) C dX10_findMinutes_74 0 rfl ?_
        refine xg_getr (pc := 75) (C1 := RX10) (T1 := TX10) (ci := 10) (ref := "SandGlasses$Walk") C inm_X10_findMinutes_10 rfl (by decide) 8 (by decide) rfl dX10_findMinutes_75 (List.mem_of_getElem? (i := 5) rfl) rfl rfl hthis ?_
        refine xg_iconst (pc := 78) (v := 0) C dX10_findMinutes_78 (by decide) ?_
        refine xg_aload_n (pc := 79) C dX10_findMinutes_79 0 rfl ?_
        refine xg_geti (pc := 80) (C1 := RX10) (T1 := TX10) (ci := 10) (ref := "SandGlasses$Walk") C inm_X10_findMinutes_10 rfl (by decide) 4 (by decide) rfl dX10_findMinutes_80 (List.mem_of_getElem? (i := 3) rfl) rfl rfl hthis ?_
        refine xg_iconst (pc := 83) (v := 0) C dX10_findMinutes_83 (by decide) ?_
        refine xg_csV (pc := 84) C (fun zs => [va_rf (xg_o h this 8), .int 0, .int (xg_i h this 4), .int 0]) (met_J7_fill_fda19 Y (xg_o h this 8) 0 (xg_i h this 4) 0) gX10_findMinutes_J7_fill_fda19 rfl ⟨rfl, rfl⟩ nd_J7_fill_fda19.2 ⟨Nat.le_of_ble_eq_true rfl, Nat.le_of_ble_eq_true rfl⟩ rfl rfl (Nat.le_of_ble_eq_true rfl) ⟨Nat.zero_le _, Nat.zero_le _⟩ dX10_findMinutes_84 hF (fun h11 hF => ?_)
        refine xg_iconst (pc := 87) (v := 0) C dX10_findMinutes_87 (by decide) ?_
        refine xg_istore_n (pc := 88) (lv2 := [(2, .int 0), (0, va_rf (some this)), (1, .int y1)]) C dX10_findMinutes_88 3 hnL (by decide) rfl ?_
        refine xg_sub (lv2 := [(0, va_rf (some this)), (1, .int y1), (2, .int 0)]) [1, 2, 0] rfl ?_
        exact hF
  · intro y1 y2 h hF
    refine xg_iload_n (pc := 89) C dX10_findMinutes_89 2 rfl ?_
    refine xg_aload_n (pc := 90) C dX10_findMinutes_90 0 rfl ?_
    refine xg_geti (pc := 91) (C1 := RX10) (T1 := TX10) (ci := 10) (ref := "SandGlasses$Walk") C inm_X10_findMinutes_10 rfl (by decide) 4 (by decide) rfl dX10_findMinutes_91 (List.mem_of_getElem? (i := 3) rfl) rfl rfl hthis ?_
    refine xg_icmp_ge (pc := 94) 117 C dX10_findMinutes_94 (by decide) (fun hc => ?_) (fun hc => ?_)
    · have hF := hF.1 hc
      refine xg_iconst (pc := 117) (v := 0) C dX10_findMinutes_117 (by decide) ?_
      refine xg_istore_n (pc := 118) (lv2 := [(2, .int 0), (0, va_rf (some this)), (1, .int y1)]) C dX10_findMinutes_118 3 hnL (by decide) rfl ?_
      refine xg_sub (lv2 := [(0, va_rf (some this)), (1, .int y1), (2, .int 0)]) [1, 2, 0] rfl ?_
      exact hF
    · have hF := hF.2 hc
      refine xg_aload_n (pc := 97) C dX10_findMinutes_97 0 rfl ?_
      refine xg_getr (pc := 98) (C1 := RX10) (T1 := TX10) (ci := 10) (ref := "SandGlasses$Walk") C inm_X10_findMinutes_10 rfl (by decide) 7 (by decide) rfl dX10_findMinutes_98 (List.mem_of_getElem? (i := 4) rfl) rfl rfl hthis ?_
      refine xg_iload_n (pc := 101) C dX10_findMinutes_101 2 rfl ?_
      obtain ⟨a12, ha12, hka12, hF⟩ := hF
      obtain ⟨hi, hF⟩ := hF
      refine xg_iald (pc := 102) C ha12 hka12 hi dX10_findMinutes_102 ?_
      refine xg_if_eq (pc := 103) 111 C dX10_findMinutes_103 (by decide) (fun hc => ?_) (fun hc => ?_)
      · have hF := hF.1 hc
        exact hF
      · have hF := hF.2 hc
        refine xg_aload_n (pc := 106) C dX10_findMinutes_106 0 rfl ?_
        refine xg_iload_n (pc := 107) C dX10_findMinutes_107 2 rfl ?_
        refine xg_cvV (pc := 108) (C1 := RX10) (T1 := TX10) (ci := 10) C (fun zs => [.int y2]) rfl hthis (by decide) rfl (met_X10_passOn Y this y2) gX10_findMinutes_X10_passOn rfl ⟨rfl, rfl⟩ nd_X10_passOn ⟨Nat.le_of_ble_eq_true rfl, Nat.le_of_ble_eq_true rfl⟩ rfl rfl (Nat.le_of_ble_eq_true rfl) ⟨Nat.zero_le _, Nat.zero_le _⟩ dX10_findMinutes_108 hF (fun h13 hF => ?_)
        exact hF
  · intro y1 y2 h hF
    refine xg_iload_n (pc := 119) C dX10_findMinutes_119 2 rfl ?_
    refine xg_aload_n (pc := 120) C dX10_findMinutes_120 0 rfl ?_
    refine xg_geti (pc := 121) (C1 := RX10) (T1 := TX10) (ci := 10) (ref := "SandGlasses$Walk") C inm_X10_findMinutes_10 rfl (by decide) 4 (by decide) rfl dX10_findMinutes_121 (List.mem_of_getElem? (i := 3) rfl) rfl rfl hthis ?_
    refine xg_icmp_ge (pc := 124) 175 C dX10_findMinutes_124 (by decide) (fun hc => ?_) (fun hc => ?_)
    · have hF := hF.1 hc
      obtain ⟨z14, ez14⟩ : ∃ y : Int32, y = y1 + 1 := ⟨_, rfl⟩
      have hF := hF z14 ez14
      refine xg_iinc (pc := 175) (v := z14) (lv2 := [(1, .int z14), (0, va_rf (some this)), (2, .int y2)]) C dX10_findMinutes_175 1 rfl (by rw [ez14]; rfl) 3 hnL (by decide) rfl ?_
      refine xg_goto (pc := 178) 57 C dX10_findMinutes_178 (by decide) ?_
      refine xg_sub (lv2 := [(0, va_rf (some this)), (1, .int z14)]) [1, 0] rfl ?_
      exact hF
    · have hF := hF.2 hc
      refine xg_aload_n (pc := 127) C dX10_findMinutes_127 0 rfl ?_
      refine xg_getr (pc := 128) (C1 := RX10) (T1 := TX10) (ci := 10) (ref := "SandGlasses$Walk") C inm_X10_findMinutes_10 rfl (by decide) 7 (by decide) rfl dX10_findMinutes_128 (List.mem_of_getElem? (i := 4) rfl) rfl rfl hthis ?_
      refine xg_iload_n (pc := 131) C dX10_findMinutes_131 2 rfl ?_
      refine xg_aload_n (pc := 132) C dX10_findMinutes_132 0 rfl ?_
      refine xg_getr (pc := 133) (C1 := RX10) (T1 := TX10) (ci := 10) (ref := "SandGlasses$Walk") C inm_X10_findMinutes_10 rfl (by decide) 8 (by decide) rfl dX10_findMinutes_133 (List.mem_of_getElem? (i := 5) rfl) rfl rfl hthis ?_
      refine xg_iload_n (pc := 136) C dX10_findMinutes_136 2 rfl ?_
      obtain ⟨a15, ha15, hka15, hF⟩ := hF
      obtain ⟨hi, hF⟩ := hF
      refine xg_iald (pc := 137) C ha15 hka15 hi dX10_findMinutes_137 ?_
      obtain ⟨a16, ha16, hka16, hF⟩ := hF
      obtain ⟨hi, hF⟩ := hF
      refine xg_iast (pc := 138) C ha16 hka16 hi dX10_findMinutes_138 (fun h17 eh17 => ?_)
      have hF := hF h17 eh17
      refine xg_aload_n (pc := 139) C dX10_findMinutes_139 0 rfl ?_
      refine xg_getr (pc := 140) (C1 := RX10) (T1 := TX10) (ci := 10) (ref := "SandGlasses$Walk") C inm_X10_findMinutes_10 rfl (by decide) 1 (by decide) rfl dX10_findMinutes_140 (List.mem_of_getElem? (i := 2) rfl) rfl rfl hthis ?_
      refine xg_iload_n (pc := 143) C dX10_findMinutes_143 2 rfl ?_
      refine xg_dup2 (pc := 144) C dX10_findMinutes_144 rfl (xg_rf_cat _) ?_
      obtain ⟨a18, ha18, hka18, hF⟩ := hF
      obtain ⟨hi, hF⟩ := hF
      refine xg_iald (pc := 145) C ha18 hka18 hi dX10_findMinutes_145 ?_
      refine xg_aload_n (pc := 146) C dX10_findMinutes_146 0 rfl ?_
      refine xg_getr (pc := 147) (C1 := RX10) (T1 := TX10) (ci := 10) (ref := "SandGlasses$Walk") C inm_X10_findMinutes_10 rfl (by decide) 7 (by decide) rfl dX10_findMinutes_147 (List.mem_of_getElem? (i := 4) rfl) rfl rfl hthis ?_
      refine xg_iload_n (pc := 150) C dX10_findMinutes_150 2 rfl ?_
      obtain ⟨a19, ha19, hka19, hF⟩ := hF
      obtain ⟨hi, hF⟩ := hF
      refine xg_iald (pc := 151) C ha19 hka19 hi dX10_findMinutes_151 ?_
      refine xg_ior (pc := 152) C dX10_findMinutes_152 ?_
      obtain ⟨hi, hF⟩ := hF
      refine xg_iast (pc := 153) C ha18 hka18 hi dX10_findMinutes_153 (fun h20 eh20 => ?_)
      have hF := hF h20 eh20
      refine xg_aload_n (pc := 154) C dX10_findMinutes_154 0 rfl ?_
      refine xg_getr (pc := 155) (C1 := RX10) (T1 := TX10) (ci := 10) (ref := "SandGlasses$Walk") C inm_X10_findMinutes_10 rfl (by decide) 2 (by decide) rfl dX10_findMinutes_155 (List.mem_of_getElem? (i := 1) rfl) rfl rfl hthis ?_
      refine xg_iload_n (pc := 158) C dX10_findMinutes_158 1 rfl ?_
      refine xg_dup2 (pc := 159) C dX10_findMinutes_159 rfl (xg_rf_cat _) ?_
      obtain ⟨a21, ha21, hka21, hF⟩ := hF
      obtain ⟨hi, hF⟩ := hF
      refine xg_iald (pc := 160) C ha21 hka21 hi dX10_findMinutes_160 ?_
      refine xg_aload_n (pc := 161) C dX10_findMinutes_161 0 rfl ?_
      refine xg_getr (pc := 162) (C1 := RX10) (T1 := TX10) (ci := 10) (ref := "SandGlasses$Walk") C inm_X10_findMinutes_10 rfl (by decide) 7 (by decide) rfl dX10_findMinutes_162 (List.mem_of_getElem? (i := 4) rfl) rfl rfl hthis ?_
      refine xg_iload_n (pc := 165) C dX10_findMinutes_165 2 rfl ?_
      obtain ⟨a22, ha22, hka22, hF⟩ := hF
      obtain ⟨hi, hF⟩ := hF
      refine xg_iald (pc := 166) C ha22 hka22 hi dX10_findMinutes_166 ?_
      refine xg_ior (pc := 167) C dX10_findMinutes_167 ?_
      obtain ⟨hi, hF⟩ := hF
      refine xg_iast (pc := 168) C ha21 hka21 hi dX10_findMinutes_168 (fun h23 eh23 => ?_)
      have hF := hF h23 eh23
      obtain ⟨z24, ez24⟩ : ∃ y : Int32, y = y2 + 1 := ⟨_, rfl⟩
      have hF := hF z24 ez24
      refine xg_iinc (pc := 169) (v := z24) (lv2 := [(2, .int z24), (0, va_rf (some this)), (1, .int y1)]) C dX10_findMinutes_169 2 rfl (by rw [ez24]; rfl) 3 hnL (by decide) rfl ?_
      refine xg_goto (pc := 172) 119 C dX10_findMinutes_172 (by decide) ?_
      refine xg_sub (lv2 := [(0, va_rf (some this)), (1, .int y1), (2, .int z24)]) [1, 2, 0] rfl ?_
      exact hF
  · intro y1 y2 h hF
    obtain ⟨z25, ez25⟩ : ∃ y : Int32, y = y2 + 1 := ⟨_, rfl⟩
    have hF := hF z25 ez25
    refine xg_iinc (pc := 111) (v := z25) (lv2 := [(2, .int z25), (0, va_rf (some this)), (1, .int y1)]) C dX10_findMinutes_111 2 rfl (by rw [ez25]; rfl) 3 hnL (by decide) rfl ?_
    refine xg_goto (pc := 114) 89 C dX10_findMinutes_114 (by decide) ?_
    refine xg_sub (lv2 := [(0, va_rf (some this)), (1, .int y1), (2, .int z25)]) [1, 2, 0] rfl ?_
    exact hF
  · skip
    refine xg_aload_n (pc := 0) C dX10_findMinutes_0 0 rfl ?_
    refine xg_getr (pc := 1) (C1 := RX10) (T1 := TX10) (ci := 10) (ref := "SandGlasses$Walk") C inm_X10_findMinutes_10 rfl (by decide) 2 (by decide) rfl dX10_findMinutes_1 (List.mem_of_getElem? (i := 1) rfl) rfl rfl hthis ?_
    refine xg_iconst (pc := 4) (v := 0) C dX10_findMinutes_4 (by decide) ?_
    refine xg_csV (pc := 5) C (fun zs => [va_rf (xg_o h this 2), .int 0]) (met_J7_fill_53178 Y (xg_o h this 2) 0) gX10_findMinutes_J7_fill_53178 rfl ⟨rfl, rfl⟩ nd_J7_fill_53178.2 ⟨Nat.le_of_ble_eq_true rfl, Nat.le_of_ble_eq_true rfl⟩ rfl rfl (Nat.le_of_ble_eq_true rfl) ⟨Nat.zero_le _, Nat.zero_le _⟩ dX10_findMinutes_5 hF (fun h1 hF => ?_)
    refine xg_aload_n (pc := 8) C dX10_findMinutes_8 0 rfl ?_
    refine xg_getr (pc := 9) (C1 := RX10) (T1 := TX10) (ci := 10) (ref := "SandGlasses$Walk") C inm_X10_findMinutes_10 rfl (by decide) 1 (by decide) rfl dX10_findMinutes_9 (List.mem_of_getElem? (i := 2) rfl) rfl rfl hthis ?_
    refine xg_iconst (pc := 12) (v := 0) C dX10_findMinutes_12 (by decide) ?_
    refine xg_aload_n (pc := 13) C dX10_findMinutes_13 0 rfl ?_
    refine xg_geti (pc := 14) (C1 := RX10) (T1 := TX10) (ci := 10) (ref := "SandGlasses$Walk") C inm_X10_findMinutes_10 rfl (by decide) 4 (by decide) rfl dX10_findMinutes_14 (List.mem_of_getElem? (i := 3) rfl) rfl rfl hthis ?_
    refine xg_iconst (pc := 17) (v := 0) C dX10_findMinutes_17 (by decide) ?_
    refine xg_csV (pc := 18) C (fun zs => [va_rf (xg_o h1 this 1), .int 0, .int (xg_i h1 this 4), .int 0]) (met_J7_fill_fda19 Y (xg_o h1 this 1) 0 (xg_i h1 this 4) 0) gX10_findMinutes_J7_fill_fda19 rfl ⟨rfl, rfl⟩ nd_J7_fill_fda19.2 ⟨Nat.le_of_ble_eq_true rfl, Nat.le_of_ble_eq_true rfl⟩ rfl rfl (Nat.le_of_ble_eq_true rfl) ⟨Nat.zero_le _, Nat.zero_le _⟩ dX10_findMinutes_18 hF (fun h2 hF => ?_)
    refine xg_aload_n (pc := 21) C dX10_findMinutes_21 0 rfl ?_
    refine xg_getr (pc := 22) (C1 := RX10) (T1 := TX10) (ci := 10) (ref := "SandGlasses$Walk") C inm_X10_findMinutes_10 rfl (by decide) 7 (by decide) rfl dX10_findMinutes_22 (List.mem_of_getElem? (i := 4) rfl) rfl rfl hthis ?_
    refine xg_iconst (pc := 25) (v := 0) C dX10_findMinutes_25 (by decide) ?_
    refine xg_aload_n (pc := 26) C dX10_findMinutes_26 0 rfl ?_
    refine xg_geti (pc := 27) (C1 := RX10) (T1 := TX10) (ci := 10) (ref := "SandGlasses$Walk") C inm_X10_findMinutes_10 rfl (by decide) 4 (by decide) rfl dX10_findMinutes_27 (List.mem_of_getElem? (i := 3) rfl) rfl rfl hthis ?_
    refine xg_iconst (pc := 30) (v := 0) C dX10_findMinutes_30 (by decide) ?_
    refine xg_csV (pc := 31) C (fun zs => [va_rf (xg_o h2 this 7), .int 0, .int (xg_i h2 this 4), .int 0]) (met_J7_fill_fda19 Y (xg_o h2 this 7) 0 (xg_i h2 this 4) 0) gX10_findMinutes_J7_fill_fda19 rfl ⟨rfl, rfl⟩ nd_J7_fill_fda19.2 ⟨Nat.le_of_ble_eq_true rfl, Nat.le_of_ble_eq_true rfl⟩ rfl rfl (Nat.le_of_ble_eq_true rfl) ⟨Nat.zero_le _, Nat.zero_le _⟩ dX10_findMinutes_31 hF (fun h3 hF => ?_)
    refine xg_aload_n (pc := 34) C dX10_findMinutes_34 0 rfl ?_
    refine xg_getr (pc := 35) (C1 := RX10) (T1 := TX10) (ci := 10) (ref := "SandGlasses$Walk") C inm_X10_findMinutes_10 rfl (by decide) 7 (by decide) rfl dX10_findMinutes_35 (List.mem_of_getElem? (i := 4) rfl) rfl rfl hthis ?_
    refine xg_iconst (pc := 38) (v := 0) C dX10_findMinutes_38 (by decide) ?_
    refine xg_iconst (pc := 39) (v := 1) C dX10_findMinutes_39 (by decide) ?_
    obtain ⟨a4, ha4, hka4, hF⟩ := hF
    obtain ⟨hi, hF⟩ := hF
    refine xg_iast (pc := 40) C ha4 hka4 hi dX10_findMinutes_40 (fun h5 eh5 => ?_)
    have hF := hF h5 eh5
    refine xg_aload_n (pc := 41) C dX10_findMinutes_41 0 rfl ?_
    refine xg_getr (pc := 42) (C1 := RX10) (T1 := TX10) (ci := 10) (ref := "SandGlasses$Walk") C inm_X10_findMinutes_10 rfl (by decide) 1 (by decide) rfl dX10_findMinutes_42 (List.mem_of_getElem? (i := 2) rfl) rfl rfl hthis ?_
    refine xg_iconst (pc := 45) (v := 0) C dX10_findMinutes_45 (by decide) ?_
    refine xg_iconst (pc := 46) (v := 1) C dX10_findMinutes_46 (by decide) ?_
    obtain ⟨a6, ha6, hka6, hF⟩ := hF
    obtain ⟨hi, hF⟩ := hF
    refine xg_iast (pc := 47) C ha6 hka6 hi dX10_findMinutes_47 (fun h7 eh7 => ?_)
    have hF := hF h7 eh7
    refine xg_aload_n (pc := 48) C dX10_findMinutes_48 0 rfl ?_
    refine xg_getr (pc := 49) (C1 := RX10) (T1 := TX10) (ci := 10) (ref := "SandGlasses$Walk") C inm_X10_findMinutes_10 rfl (by decide) 2 (by decide) rfl dX10_findMinutes_49 (List.mem_of_getElem? (i := 1) rfl) rfl rfl hthis ?_
    refine xg_iconst (pc := 52) (v := 0) C dX10_findMinutes_52 (by decide) ?_
    refine xg_iconst (pc := 53) (v := 1) C dX10_findMinutes_53 (by decide) ?_
    obtain ⟨a8, ha8, hka8, hF⟩ := hF
    obtain ⟨hi, hF⟩ := hF
    refine xg_iast (pc := 54) C ha8 hka8 hi dX10_findMinutes_54 (fun h9 eh9 => ?_)
    have hF := hF h9 eh9
    refine xg_iconst (pc := 55) (v := 1) C dX10_findMinutes_55 (by decide) ?_
    refine xg_istore_n (pc := 56) (lv2 := [(1, .int 1), (0, va_rf (some this))]) C dX10_findMinutes_56 3 hnL (by decide) rfl ?_
    refine xg_sub (lv2 := [(0, va_rf (some this)), (1, .int 1)]) [1, 0] rfl ?_
    exact hF
def rm_X10_explore : Room := { frames := 3, cells := 0, slots := 0, locals := 69 }
theorem nd_X10_explore : yX10_explore.cls = RX10 ∧ yX10_explore.cls ≠ "java/lang/invoke/MethodHandle" ∧ yX10_explore.cls ≠ "java/lang/invoke/VarHandle" ∧ (parseMethodDescriptor yX10_explore.desc).map (fun d => d.parameters.length) = some 3 := by decide +kernel
theorem inm_X10_explore_7 : ∀ w ∈ u_ws RX7 TX7 (xg_N 7), w ∈ wsX10_explore := fun _ h9 => List.mem_cons_of_mem _ (List.mem_append_right _ h9)
theorem inm_X10_explore_10 : ∀ w ∈ u_ws RX10 TX10 (xg_N 10), w ∈ wsX10_explore := fun _ h9 => List.mem_cons_of_mem _ (List.mem_append_left _ (List.mem_append_right _ h9))
set_option maxHeartbeats 4000000 in
set_option maxRecDepth 100000 in
theorem met_X10_explore (Y : xg_Y) (this : Nat) (x1 : Int32) (x2 : Int32) (x3 : Int32) : xg_MV yX10_explore wsX10_explore rm_X10_explore Y (fun zs => [va_rf (some this), .int x1, .int x2, .int x3]) (fun Q h => wp_X10_explore Y Q this x1 x2 x3 h) := by
  refine xg_startV (cc := cX10_explore) (maxL := 8) (own := RX10) (by decide) rfl rfl (fun zs => Nat.le_of_ble_eq_true rfl) (fun X Q h C hnL E hw => ?_)
  unfold wp_X10_explore at hw
  obtain ⟨hthis, hw⟩ := hw
  refine xg_sub (lv2 := [(0, va_rf (some this)), (1, .int x1), (2, .int x2), (3, .int x3)]) [0, 1, 2, 3] rfl ?_
  refine mg_use (hw (fun (y4 : Int32) (h : xg_H) => xg_W X 0 0 Y 26 [(0, va_rf (some this)), (1, .int x1), (3, .int x3), (4, .int y4)] [] h) (fun (h : xg_H) => xg_W X 0 0 Y 149 [(0, va_rf (some this))] [] h) (fun (y4 : Int32) (y5 : Int32) (h : xg_H) => xg_W X 0 0 Y 48 [(0, va_rf (some this)), (1, .int x1), (3, .int x3), (4, .int y4), (5, .int y5)] [] h) (fun (y4 : Int32) (h : xg_H) => xg_W X 0 0 Y 152 [(0, va_rf (some this)), (4, .int y4)] [] h) (fun (y4 : Int32) (y5 : Int32) (s0 : Int32) (h : xg_H) => xg_W X 0 0 Y 90 [(0, va_rf (some this)), (1, .int x1), (3, .int x3), (4, .int y4), (5, .int y5)] [.int s0] h) (fun (y4 : Int32) (y5 : Int32) (y6 : Int32) (s0 : Int32) (h : xg_H) => xg_W X 0 0 Y 111 [(0, va_rf (some this)), (1, .int x1), (3, .int x3), (4, .int y4), (5, .int y5), (6, .int y6)] [.int s0] h) ?_ ?_ ?_ ?_ ?_ ?_) (fun hF => ?_)
  · intro y4 h hF
    refine xg_iload (pc := 26) C dX10_explore_26 3 rfl ?_
    refine xg_aload_n (pc := 28) C dX10_explore_28 0 rfl ?_
    refine xg_geti (pc := 29) (C1 := RX10) (T1 := TX10) (ci := 10) (ref := "SandGlasses$Walk") C inm_X10_explore_10 rfl (by decide) 4 (by decide) rfl dX10_explore_29 (List.mem_of_getElem? (i := 1) rfl) rfl rfl hthis ?_
    refine xg_icmp_ge (pc := 32) 149 C dX10_explore_32 (by decide) (fun hc => ?_) (fun hc => ?_)
    · have hF := hF.1 hc
      refine xg_sub (lv2 := [(0, va_rf (some this))]) [0] rfl ?_
      exact hF
    · have hF := hF.2 hc
      refine xg_iload (pc := 35) C dX10_explore_35 3 rfl ?_
      refine xg_aload_n (pc := 37) C dX10_explore_37 0 rfl ?_
      refine xg_getr (pc := 38) (C1 := RX10) (T1 := TX10) (ci := 10) (ref := "SandGlasses$Walk") C inm_X10_explore_10 rfl (by decide) 0 (by decide) rfl dX10_explore_38 (List.mem_of_getElem? (i := 7) rfl) rfl rfl hthis ?_
      obtain ⟨a6, ha6, hka6, hF⟩ := hF
      refine xg_alen (pc := 41) (c9 := 22) C ha6 hka6 (by decide) dX10_explore_41 ?_
      refine xg_icmp_ge (pc := 42) 149 C dX10_explore_42 (by decide) (fun hc => ?_) (fun hc => ?_)
      · have hF := hF.1 hc
        refine xg_sub (lv2 := [(0, va_rf (some this))]) [0] rfl ?_
        exact hF
      · have hF := hF.2 hc
        refine xg_iconst (pc := 45) (v := 0) C dX10_explore_45 (by decide) ?_
        refine xg_istore (pc := 46) (lv2 := [(5, .int 0), (0, va_rf (some this)), (1, .int x1), (3, .int x3), (4, .int y4)]) C dX10_explore_46 8 hnL (by decide) rfl ?_
        refine xg_sub (lv2 := [(0, va_rf (some this)), (1, .int x1), (3, .int x3), (4, .int y4), (5, .int 0)]) [1, 2, 3, 4, 0] rfl ?_
        exact hF
  · intro h hF
    refine xg_iconst (pc := 149) (v := 0) C dX10_explore_149 (by decide) ?_
    refine xg_istore (pc := 150) (lv2 := [(4, .int 0), (0, va_rf (some this))]) C dX10_explore_150 8 hnL (by decide) rfl ?_
    refine xg_sub (lv2 := [(0, va_rf (some this)), (4, .int 0)]) [1, 0] rfl ?_
    exact hF
  · intro y4 y5 h hF
    refine xg_iload (pc := 48) C dX10_explore_48 4 rfl ?_
    refine xg_aload_n (pc := 50) C dX10_explore_50 0 rfl ?_
    refine xg_geti (pc := 51) (C1 := RX10) (T1 := TX10) (ci := 10) (ref := "SandGlasses$Walk") C inm_X10_explore_10 rfl (by decide) 5 (by decide) rfl dX10_explore_51 (List.mem_of_getElem? (i := 6) rfl) rfl rfl hthis ?_
    refine xg_icmp_ge (pc := 54) 143 C dX10_explore_54 (by decide) (fun hc => ?_) (fun hc => ?_)
    · have hF := hF.1 hc
      obtain ⟨z7, ez7⟩ : ∃ y : Int32, y = y4 + 1 := ⟨_, rfl⟩
      have hF := hF z7 ez7
      refine xg_iinc (pc := 143) (v := z7) (lv2 := [(4, .int z7), (0, va_rf (some this)), (1, .int x1), (3, .int x3), (5, .int y5)]) C dX10_explore_143 3 rfl (by rw [ez7]; rfl) 8 hnL (by decide) rfl ?_
      refine xg_goto (pc := 146) 26 C dX10_explore_146 (by decide) ?_
      refine xg_sub (lv2 := [(0, va_rf (some this)), (1, .int x1), (3, .int x3), (4, .int z7)]) [1, 2, 3, 0] rfl ?_
      exact hF
    · have hF := hF.2 hc
      refine xg_iload (pc := 57) C dX10_explore_57 4 rfl ?_
      refine xg_iload_n (pc := 59) C dX10_explore_59 2 rfl ?_
      refine xg_iconst (pc := 60) (v := (-1)) C dX10_explore_60 (by decide) ?_
      refine xg_ixor (pc := 61) C dX10_explore_61 ?_
      refine xg_iand (pc := 62) C dX10_explore_62 ?_
      refine xg_if_ne (pc := 63) 89 C dX10_explore_63 (by decide) (fun hc => ?_) (fun hc => ?_)
      · have hF := hF.1 hc
        refine xg_iconst (pc := 89) (v := 0) C dX10_explore_89 (by decide) ?_
        exact hF
      · have hF := hF.2 hc
        refine xg_aload_n (pc := 66) C dX10_explore_66 0 rfl ?_
        refine xg_getr (pc := 67) (C1 := RX10) (T1 := TX10) (ci := 10) (ref := "SandGlasses$Walk") C inm_X10_explore_10 rfl (by decide) 6 (by decide) rfl dX10_explore_67 (List.mem_of_getElem? (i := 8) rfl) rfl rfl hthis ?_
        refine xg_iload_n (pc := 70) C dX10_explore_70 1 rfl ?_
        refine xg_aload_n (pc := 71) C dX10_explore_71 0 rfl ?_
        refine xg_getr (pc := 72) (C1 := RX10) (T1 := TX10) (ci := 10) (ref := "SandGlasses$Walk") C inm_X10_explore_10 rfl (by decide) 0 (by decide) rfl dX10_explore_72 (List.mem_of_getElem? (i := 7) rfl) rfl rfl hthis ?_
        refine xg_iload (pc := 75) C dX10_explore_75 3 rfl ?_
        obtain ⟨a8, ha8, hka8, hF⟩ := hF
        obtain ⟨hi, hF⟩ := hF
        refine xg_iald (pc := 77) C ha8 hka8 hi dX10_explore_77 ?_
        refine xg_iload (pc := 78) C dX10_explore_78 4 rfl ?_
        refine xg_cnI (pc := 80) (host := "SandGlasses") C (fun zs => [.int x1, .int (xg_i h a8 y4.toNatClampNeg), .int y5]) (by decide +kernel) (List.mem_of_getElem? (i := 20) rfl) (List.mem_of_getElem? (i := 19) rfl) (met_X11_turned Y x1 (xg_i h a8 y4.toNatClampNeg) y5) gX10_explore_X11_turned_n57 rfl ⟨rfl, rfl⟩ nd_X11_turned.2 ⟨Nat.le_of_ble_eq_true rfl, Nat.le_of_ble_eq_true rfl⟩ rfl rfl (by simp [xg_rf_cat, xg_cat_i, xg_cat_l, xg_cat_a]) ⟨Nat.zero_le _, Nat.zero_le _⟩ dX10_explore_80 hF (fun r10 h9 hF => ?_)
        obtain ⟨a11, ha11, hka11, hF⟩ := hF
        refine xg_cvI (pc := 83) (C1 := RX7) (T1 := TX7) (ci := 7) C (fun zs => [.int r10]) ha11 hka11 (by decide) rfl (met_X7_from Y a11 r10) gX10_explore_X7_from rfl ⟨rfl, rfl⟩ nd_X7_from ⟨Nat.le_of_ble_eq_true rfl, Nat.le_of_ble_eq_true rfl⟩ rfl rfl (Nat.le_of_ble_eq_true rfl) ⟨Nat.zero_le _, Nat.zero_le _⟩ dX10_explore_83 hF (fun r13 h12 hF => ?_)
        refine xg_goto (pc := 86) 90 C dX10_explore_86 (by decide) ?_
        exact hF
  · intro y4 h hF
    refine xg_iload (pc := 152) C dX10_explore_152 1 rfl ?_
    refine xg_aload_n (pc := 154) C dX10_explore_154 0 rfl ?_
    refine xg_geti (pc := 155) (C1 := RX10) (T1 := TX10) (ci := 10) (ref := "SandGlasses$Walk") C inm_X10_explore_10 rfl (by decide) 4 (by decide) rfl dX10_explore_155 (List.mem_of_getElem? (i := 1) rfl) rfl rfl hthis ?_
    refine xg_icmp_ge (pc := 158) 187 C dX10_explore_158 (by decide) (fun hc => ?_) (fun hc => ?_)
    · have hF := hF.1 hc
      refine xg_aload_n (pc := 187) C dX10_explore_187 0 rfl ?_
      refine xg_cvV (pc := 188) (C1 := RX10) (T1 := TX10) (ci := 10) C (fun zs => []) rfl hthis (by decide) rfl (met_X10_findMinutes Y this) gX10_explore_X10_findMinutes rfl ⟨rfl, rfl⟩ nd_X10_findMinutes ⟨Nat.le_of_ble_eq_true rfl, Nat.le_of_ble_eq_true rfl⟩ rfl rfl (Nat.le_of_ble_eq_true rfl) ⟨Nat.zero_le _, Nat.zero_le _⟩ dX10_explore_188 hF (fun h14 hF => ?_)
      exact xg_retV (pc := 191) C E dX10_explore_191 hF
    · have hF := hF.2 hc
      refine xg_aload_n (pc := 161) C dX10_explore_161 0 rfl ?_
      refine xg_getr (pc := 162) (C1 := RX10) (T1 := TX10) (ci := 10) (ref := "SandGlasses$Walk") C inm_X10_explore_10 rfl (by decide) 6 (by decide) rfl dX10_explore_162 (List.mem_of_getElem? (i := 8) rfl) rfl rfl hthis ?_
      obtain ⟨a15, ha15, hka15, hF⟩ := hF
      refine xg_getr (pc := 165) (C1 := RX7) (T1 := TX7) (ci := 7) (ref := "SandGlasses$Steps") C inm_X10_explore_7 rfl (by decide) 0 (by decide) rfl dX10_explore_165 (List.mem_of_getElem? (i := 10) rfl) rfl ha15 hka15 ?_
      refine xg_aload_n (pc := 168) C dX10_explore_168 0 rfl ?_
      refine xg_getr (pc := 169) (C1 := RX10) (T1 := TX10) (ci := 10) (ref := "SandGlasses$Walk") C inm_X10_explore_10 rfl (by decide) 0 (by decide) rfl dX10_explore_169 (List.mem_of_getElem? (i := 7) rfl) rfl rfl hthis ?_
      refine xg_iload (pc := 172) C dX10_explore_172 1 rfl ?_
      obtain ⟨a16, ha16, hka16, hF⟩ := hF
      obtain ⟨hi, hF⟩ := hF
      refine xg_iald (pc := 174) C ha16 hka16 hi dX10_explore_174 ?_
      refine xg_sipush (pc := 175) (v := 4095) C dX10_explore_175 (by decide) ?_
      refine xg_iand (pc := 178) C dX10_explore_178 ?_
      refine xg_iconst (pc := 179) (v := 0) C dX10_explore_179 (by decide) ?_
      obtain ⟨a17, ha17, hka17, hF⟩ := hF
      obtain ⟨hi, hF⟩ := hF
      refine xg_iast (pc := 180) C ha17 hka17 hi dX10_explore_180 (fun h18 eh18 => ?_)
      have hF := hF h18 eh18
      obtain ⟨z19, ez19⟩ : ∃ y : Int32, y = y4 + 1 := ⟨_, rfl⟩
      have hF := hF z19 ez19
      refine xg_iinc (pc := 181) (v := z19) (lv2 := [(4, .int z19), (0, va_rf (some this))]) C dX10_explore_181 1 rfl (by rw [ez19]; rfl) 8 hnL (by decide) rfl ?_
      refine xg_goto (pc := 184) 152 C dX10_explore_184 (by decide) ?_
      refine xg_sub (lv2 := [(0, va_rf (some this)), (4, .int z19)]) [1, 0] rfl ?_
      exact hF
  · intro y4 y5 s0 h hF
    refine xg_istore (pc := 90) (lv2 := [(6, .int s0), (0, va_rf (some this)), (1, .int x1), (3, .int x3), (4, .int y4), (5, .int y5)]) C dX10_explore_90 8 hnL (by decide) rfl ?_
    refine xg_iload (pc := 92) C dX10_explore_92 0 rfl ?_
    refine xg_if_ne (pc := 94) 101 C dX10_explore_94 (by decide) (fun hc => ?_) (fun hc => ?_)
    · have hF := hF.1 hc
      refine xg_aload_n (pc := 101) C dX10_explore_101 1 rfl ?_
      refine xg_iload (pc := 102) C dX10_explore_102 0 rfl ?_
      refine xg_sipush (pc := 104) (v := 4095) C dX10_explore_104 (by decide) ?_
      refine xg_iand (pc := 107) C dX10_explore_107 ?_
      refine xg_cvI (pc := 108) (C1 := RX10) (T1 := TX10) (ci := 10) C (fun zs => [.int (s0 &&& 4095)]) rfl hthis (by decide) rfl (met_X10_add Y this (s0 &&& 4095)) gX10_explore_X10_add rfl ⟨rfl, rfl⟩ nd_X10_add ⟨Nat.le_of_ble_eq_true rfl, Nat.le_of_ble_eq_true rfl⟩ rfl rfl (Nat.le_of_ble_eq_true rfl) ⟨Nat.zero_le _, Nat.zero_le _⟩ dX10_explore_108 hF (fun r21 h20 hF => ?_)
      refine xg_sub (lv2 := [(0, va_rf (some this)), (1, .int x1), (3, .int x3), (4, .int y4), (5, .int y5), (6, .int s0)]) [1, 2, 3, 4, 5, 0] rfl ?_
      exact hF
    · have hF := hF.2 hc
      refine xg_iconst (pc := 97) (v := 0) C dX10_explore_97 (by decide) ?_
      refine xg_goto (pc := 98) 111 C dX10_explore_98 (by decide) ?_
      refine xg_sub (lv2 := [(0, va_rf (some this)), (1, .int x1), (3, .int x3), (4, .int y4), (5, .int y5), (6, .int s0)]) [1, 2, 3, 4, 5, 0] rfl ?_
      exact hF
  · intro y4 y5 y6 s0 h hF
    refine xg_istore (pc := 111) (lv2 := [(7, .int s0), (0, va_rf (some this)), (1, .int x1), (3, .int x3), (4, .int y4), (5, .int y5), (6, .int y6)]) C dX10_explore_111 8 hnL (by decide) rfl ?_
    refine xg_aload_n (pc := 113) C dX10_explore_113 1 rfl ?_
    refine xg_getr (pc := 114) (C1 := RX10) (T1 := TX10) (ci := 10) (ref := "SandGlasses$Walk") C inm_X10_explore_10 rfl (by decide) 3 (by decide) rfl dX10_explore_114 (List.mem_of_getElem? (i := 9) rfl) rfl rfl hthis ?_
    refine xg_iload (pc := 117) C dX10_explore_117 4 rfl ?_
    refine xg_bipush (pc := 119) (v := 16) C dX10_explore_119 (by decide) ?_
    refine xg_imul (pc := 121) C dX10_explore_121 ?_
    refine xg_iload (pc := 122) C dX10_explore_122 5 rfl ?_
    refine xg_iadd (pc := 124) C dX10_explore_124 ?_
    refine xg_iload (pc := 125) C dX10_explore_125 6 rfl ?_
    refine xg_bipush (pc := 127) (v := 12) C dX10_explore_127 (by decide) ?_
    refine xg_ishr (pc := 129) C dX10_explore_129 ?_
    refine xg_bipush (pc := 130) (v := 12) C dX10_explore_130 (by decide) ?_
    refine xg_ishl (pc := 132) C dX10_explore_132 ?_
    refine xg_iload (pc := 133) C dX10_explore_133 0 rfl ?_
    refine xg_ior (pc := 135) C dX10_explore_135 ?_
    obtain ⟨a22, ha22, hka22, hF⟩ := hF
    obtain ⟨hi, hF⟩ := hF
    refine xg_iast (pc := 136) C ha22 hka22 hi dX10_explore_136 (fun h23 eh23 => ?_)
    have hF := hF h23 eh23
    obtain ⟨z24, ez24⟩ : ∃ y : Int32, y = y5 + 1 := ⟨_, rfl⟩
    have hF := hF z24 ez24
    refine xg_iinc (pc := 137) (v := z24) (lv2 := [(5, .int z24), (7, .int s0), (0, va_rf (some this)), (1, .int x1), (3, .int x3), (4, .int y4), (6, .int y6)]) C dX10_explore_137 5 rfl (by rw [ez24]; rfl) 8 hnL (by decide) rfl ?_
    refine xg_goto (pc := 140) 48 C dX10_explore_140 (by decide) ?_
    refine xg_sub (lv2 := [(0, va_rf (some this)), (1, .int x1), (3, .int x3), (4, .int y4), (5, .int z24)]) [2, 3, 4, 5, 0] rfl ?_
    exact hF
  · skip
    refine xg_aload_n (pc := 0) C dX10_explore_0 0 rfl ?_
    refine xg_iconst (pc := 1) (v := 0) C dX10_explore_1 (by decide) ?_
    refine xg_puti (pc := 2) (C1 := RX10) (T1 := TX10) (ci := 10) (ref := "SandGlasses$Walk") C inm_X10_explore_10 rfl (by decide) tyX10 tyX10_ok nmX10 4 (by decide) rfl dX10_explore_2 (List.mem_of_getElem? (i := 1) rfl) rfl rfl (tyX10_ok 4 (by decide)) rfl hthis (fun h1 eh1 => ?_)
    have hF := hF h1 eh1
    refine xg_aload_n (pc := 5) C dX10_explore_5 0 rfl ?_
    refine xg_bipush (pc := 6) (v := 16) C dX10_explore_6 (by decide) ?_
    refine xg_iload_n (pc := 8) C dX10_explore_8 3 rfl ?_
    refine xg_iconst (pc := 9) (v := 1) C dX10_explore_9 (by decide) ?_
    refine xg_iadd (pc := 10) C dX10_explore_10 ?_
    refine xg_mmin (pc := 11) C (List.mem_of_getElem? (i := 2) rfl) (List.mem_of_getElem? (i := 3) rfl) (List.mem_of_getElem? (i := 4) rfl) (List.mem_of_getElem? (i := 5) rfl) (Nat.le_of_ble_eq_true rfl) (Nat.le_of_ble_eq_true rfl) (Nat.zero_le _) (Nat.zero_le _) dX10_explore_11 ?_
    refine xg_topi (pc := 14) (fun z2 ez2 => ?_)
    have hF := hF z2 ez2
    refine xg_puti (pc := 14) (C1 := RX10) (T1 := TX10) (ci := 10) (ref := "SandGlasses$Walk") C inm_X10_explore_10 rfl (by decide) tyX10 tyX10_ok nmX10 5 (by decide) rfl dX10_explore_14 (List.mem_of_getElem? (i := 6) rfl) rfl rfl (tyX10_ok 5 (by decide)) rfl hthis (fun h3 eh3 => ?_)
    have hF := hF h3 eh3
    refine xg_aload_n (pc := 17) C dX10_explore_17 0 rfl ?_
    refine xg_iload_n (pc := 18) C dX10_explore_18 2 rfl ?_
    refine xg_cvI (pc := 19) (C1 := RX10) (T1 := TX10) (ci := 10) C (fun zs => [.int x2]) rfl hthis (by decide) rfl (met_X10_add Y this x2) gX10_explore_X10_add rfl ⟨rfl, rfl⟩ nd_X10_add ⟨Nat.le_of_ble_eq_true rfl, Nat.le_of_ble_eq_true rfl⟩ rfl rfl (Nat.le_of_ble_eq_true rfl) ⟨Nat.zero_le _, Nat.zero_le _⟩ dX10_explore_19 hF (fun r5 h4 hF => ?_)
    refine xg_pop (pc := 22) C dX10_explore_22 rfl ?_
    refine xg_iconst (pc := 23) (v := 0) C dX10_explore_23 (by decide) ?_
    refine xg_istore (pc := 24) (lv2 := [(4, .int 0), (0, va_rf (some this)), (1, .int x1), (2, .int x2), (3, .int x3)]) C dX10_explore_24 8 hnL (by decide) rfl ?_
    refine xg_sub (lv2 := [(0, va_rf (some this)), (1, .int x1), (3, .int x3), (4, .int 0)]) [1, 2, 4, 0] rfl ?_
    exact hF
def rm_X9_find : Room := { frames := 0, cells := 0, slots := 0, locals := 0 }
theorem nd_X9_find : yX9_find.cls = RX9 ∧ yX9_find.cls ≠ "java/lang/invoke/MethodHandle" ∧ yX9_find.cls ≠ "java/lang/invoke/VarHandle" ∧ (parseMethodDescriptor yX9_find.desc).map (fun d => d.parameters.length) = some 2 := by decide +kernel
theorem inm_X9_find_9 : ∀ w ∈ u_ws RX9 TX9 (xg_N 9), w ∈ wsX9_find := fun _ h9 => List.mem_cons_of_mem _ (List.mem_append_right _ h9)
set_option maxHeartbeats 4000000 in
set_option maxRecDepth 100000 in
theorem met_X9_find (Y : xg_Y) (this : Nat) (x1 : Int32) (x2 : Int32) : xg_MR yX9_find wsX9_find rm_X9_find Y (fun zs => [va_rf (some this), .int x1, .int x2]) (fun Q h => wp_X9_find Y Q this x1 x2 h) := by
  refine xg_startR (cc := cX9_find) (maxL := 3) (own := RX9) (by decide) rfl rfl (fun zs => Nat.le_of_ble_eq_true rfl) (fun X Q h C hnL E hw => ?_)
  unfold wp_X9_find at hw
  obtain ⟨hthis, hw⟩ := hw
  refine xg_sub (lv2 := [(0, va_rf (some this)), (1, .int x1), (2, .int x2)]) [0, 1, 2] rfl ?_
  have hF := hw
  refine xg_iload_n (pc := 0) C dX9_find_0 2 rfl ?_
  refine xg_if_lt (pc := 1) 31 C dX9_find_1 (by decide) (fun hc => ?_) (fun hc => ?_)
  · have hF := hF.1 hc
    refine xg_null (pc := 31) C dX9_find_31 ?_
    exact xg_retR (pc := 32) C E (Or.inl ⟨_, rfl⟩) dX9_find_32 hF
  · have hF := hF.2 hc
    refine xg_iload_n (pc := 4) C dX9_find_4 2 rfl ?_
    refine xg_aload_n (pc := 5) C dX9_find_5 0 rfl ?_
    refine xg_getr (pc := 6) (C1 := RX9) (T1 := TX9) (ci := 9) (ref := "SandGlasses$Told") C inm_X9_find_9 rfl (by decide) 4 (by decide) rfl dX9_find_6 (List.mem_of_getElem? (i := 1) rfl) rfl rfl hthis ?_
    refine xg_iload_n (pc := 9) C dX9_find_9 1 rfl ?_
    refine xg_iconst (pc := 10) (v := 3) C dX9_find_10 (by decide) ?_
    refine xg_iand (pc := 11) C dX9_find_11 ?_
    obtain ⟨a1, ha1, hka1, hF⟩ := hF
    obtain ⟨hi, hF⟩ := hF
    refine xg_iald (pc := 12) C ha1 hka1 hi dX9_find_12 ?_
    refine xg_icmp_ge (pc := 13) 31 C dX9_find_13 (by decide) (fun hc => ?_) (fun hc => ?_)
    · have hF := hF.1 hc
      refine xg_null (pc := 31) C dX9_find_31 ?_
      exact xg_retR (pc := 32) C E (Or.inl ⟨_, rfl⟩) dX9_find_32 hF
    · have hF := hF.2 hc
      refine xg_aload_n (pc := 16) C dX9_find_16 0 rfl ?_
      refine xg_getr (pc := 17) (C1 := RX9) (T1 := TX9) (ci := 9) (ref := "SandGlasses$Told") C inm_X9_find_9 rfl (by decide) 5 (by decide) rfl dX9_find_17 (List.mem_of_getElem? (i := 2) rfl) rfl rfl hthis ?_
      refine xg_iload_n (pc := 20) C dX9_find_20 1 rfl ?_
      refine xg_iconst (pc := 21) (v := 3) C dX9_find_21 (by decide) ?_
      refine xg_iand (pc := 22) C dX9_find_22 ?_
      refine xg_iconst (pc := 23) (v := 2) C dX9_find_23 (by decide) ?_
      refine xg_imul (pc := 24) C dX9_find_24 ?_
      refine xg_iload_n (pc := 25) C dX9_find_25 2 rfl ?_
      refine xg_iadd (pc := 26) C dX9_find_26 ?_
      obtain ⟨a2, ha2, hka2, hF⟩ := hF
      obtain ⟨hi, hF⟩ := hF
      refine xg_aald (pc := 27) (c9 := 27) (C9 := "SandGlasses$Text") C ha2 hka2 (by decide) rfl hi dX9_find_27 ?_
      refine xg_goto (pc := 28) 32 C dX9_find_28 (by decide) ?_
      exact xg_retR (pc := 32) C E (Or.inl ⟨_, rfl⟩) dX9_find_32 hF
def rm_X11_after : Room := { frames := 4, cells := 0, slots := 0, locals := 93 }
theorem nd_X11_after : yX11_after.cls = RX11 ∧ yX11_after.cls ≠ "java/lang/invoke/MethodHandle" ∧ yX11_after.cls ≠ "java/lang/invoke/VarHandle" ∧ (parseMethodDescriptor yX11_after.desc).map (fun d => d.parameters.length) = some 3 := by decide +kernel
theorem inm_X11_after_0 : ∀ w ∈ u_ws RX0 TX0 (xg_N 0), w ∈ wsX11_after := fun _ h9 => List.mem_cons_of_mem _ (List.mem_append_left _ (List.mem_append_left _ (List.mem_append_right _ h9)))
theorem inm_X11_after_8 : ∀ w ∈ u_ws RX8 TX8 (xg_N 8), w ∈ wsX11_after := fun _ h9 => List.mem_cons_of_mem _ (List.mem_append_left _ (List.mem_append_left _ (List.mem_append_left _ (List.mem_append_right _ h9))))
theorem inm_X11_after_11 : ∀ w ∈ u_ws RX11 TX11 (xg_N 11), w ∈ wsX11_after := fun _ h9 => List.mem_cons_of_mem _ (List.mem_append_left _ (List.mem_append_left _ (List.mem_append_left _ (List.mem_append_left _ (List.mem_append_right _ h9)))))
set_option maxHeartbeats 4000000 in
set_option maxRecDepth 100000 in
theorem met_X11_after (Y : xg_Y) (this : Nat) (x1 : Int32) (x2 : Int32) (x3 : Int32) : xg_MI yX11_after wsX11_after rm_X11_after Y (fun zs => [va_rf (some this), .int x1, .int x2, .int x3]) (fun Q h => wp_X11_after Y Q this x1 x2 x3 h) := by
  refine xg_startI (cc := cX11_after) (maxL := 6) (own := RX11) (by decide) rfl rfl (fun zs => Nat.le_of_ble_eq_true rfl) (fun X Q h C hnL E hw => ?_)
  unfold wp_X11_after at hw
  obtain ⟨hthis, hw⟩ := hw
  refine xg_sub (lv2 := [(0, va_rf (some this)), (1, .int x1), (2, .int x2), (3, .int x3)]) [0, 1, 2, 3] rfl ?_
  have hF := hw
  refine xg_aload_n (pc := 0) C dX11_after_0 0 rfl ?_
  refine xg_getr (pc := 1) (C1 := RX11) (T1 := TX11) (ci := 11) (ref := "SandGlasses") C inm_X11_after_11 rfl (by decide) 0 (by decide) rfl dX11_after_1 (List.mem_of_getElem? (i := 1) rfl) rfl rfl hthis ?_
  refine xg_iconst (pc := 4) (v := 0) C dX11_after_4 (by decide) ?_
  refine xg_iload_n (pc := 5) C dX11_after_5 1 rfl ?_
  obtain ⟨a1, ha1, hka1, hF⟩ := hF
  refine xg_cvR (pc := 6) (C1 := RX9) (T1 := TX9) (ci := 9) C (fun zs => [.int 0, .int x1]) ha1 hka1 (by decide) rfl (met_X9_find Y a1 0 x1) gX11_after_X9_find rfl ⟨rfl, rfl⟩ nd_X9_find ⟨Nat.le_of_ble_eq_true rfl, Nat.le_of_ble_eq_true rfl⟩ rfl rfl (Nat.le_of_ble_eq_true rfl) ⟨Nat.zero_le _, Nat.zero_le _⟩ dX11_after_6 hF (fun r3 h2 hF => ?_)
  refine xg_astore (pc := 9) (lv2 := [(4, va_rf r3), (0, va_rf (some this)), (1, .int x1), (2, .int x2), (3, .int x3)]) C dX11_after_9 6 hnL (by decide) rfl ?_
  refine xg_aload_n (pc := 11) C dX11_after_11 1 rfl ?_
  refine xg_getr (pc := 12) (C1 := RX11) (T1 := TX11) (ci := 11) (ref := "SandGlasses") C inm_X11_after_11 rfl (by decide) 0 (by decide) rfl dX11_after_12 (List.mem_of_getElem? (i := 1) rfl) rfl rfl hthis ?_
  refine xg_iconst (pc := 15) (v := 1) C dX11_after_15 (by decide) ?_
  refine xg_iload_n (pc := 16) C dX11_after_16 3 rfl ?_
  obtain ⟨a4, ha4, hka4, hF⟩ := hF
  refine xg_cvR (pc := 17) (C1 := RX9) (T1 := TX9) (ci := 9) C (fun zs => [.int 1, .int x2]) ha4 hka4 (by decide) rfl (met_X9_find Y a4 1 x2) gX11_after_X9_find rfl ⟨rfl, rfl⟩ nd_X9_find ⟨Nat.le_of_ble_eq_true rfl, Nat.le_of_ble_eq_true rfl⟩ rfl rfl (Nat.le_of_ble_eq_true rfl) ⟨Nat.zero_le _, Nat.zero_le _⟩ dX11_after_17 hF (fun r6 h5 hF => ?_)
  refine xg_astore (pc := 20) (lv2 := [(5, va_rf r6), (4, va_rf r3), (0, va_rf (some this)), (1, .int x1), (2, .int x2), (3, .int x3)]) C dX11_after_20 6 hnL (by decide) (by cases r3 <;> rfl) ?_
  refine xg_aload (pc := 22) C dX11_after_22 1 rfl ?_
  refine xg_ifnull (pc := 24) 32 C dX11_after_24 (by decide) (fun hc => ?_) (fun a7 ha7 => ?_)
  · have hF := hF.1 hc
    refine xg_bipush (pc := 32) (v := (-2)) C dX11_after_32 (by decide) ?_
    exact xg_retI (pc := 34) C E dX11_after_34 hF
  · have hF := hF.2 a7 ha7
    refine xg_aload (pc := 27) C dX11_after_27 0 rfl ?_
    refine xg_ifnonnull (pc := 29) 35 C dX11_after_29 (by decide) (fun a8 ha8 => ?_) (fun hc => ?_)
    · have hF := hF.2 a8 ha8
      refine xg_aload_n (pc := 35) C dX11_after_35 2 rfl ?_
      refine xg_getr (pc := 36) (C1 := RX11) (T1 := TX11) (ci := 11) (ref := "SandGlasses") C inm_X11_after_11 rfl (by decide) 3 (by decide) rfl dX11_after_36 (List.mem_of_getElem? (i := 2) rfl) rfl rfl hthis ?_
      refine xg_aload (pc := 39) C dX11_after_39 1 rfl ?_
      obtain ⟨a9, ha9, hka9, hF⟩ := hF
      refine xg_cvV (pc := 41) (C1 := RX0) (T1 := TX0) (ci := 0) C (fun zs => [va_rf r3]) ha9 hka9 (by decide) rfl (met_X0_begin Y a9 r3) gX11_after_X0_begin rfl ⟨rfl, rfl⟩ nd_X0_begin ⟨Nat.le_of_ble_eq_true rfl, Nat.le_of_ble_eq_true rfl⟩ rfl rfl (Nat.le_of_ble_eq_true rfl) ⟨Nat.zero_le _, Nat.zero_le _⟩ dX11_after_41 hF (fun h10 hF => ?_)
      refine xg_aload_n (pc := 44) C dX11_after_44 2 rfl ?_
      refine xg_getr (pc := 45) (C1 := RX11) (T1 := TX11) (ci := 11) (ref := "SandGlasses") C inm_X11_after_11 rfl (by decide) 3 (by decide) rfl dX11_after_45 (List.mem_of_getElem? (i := 2) rfl) rfl rfl hthis ?_
      refine xg_aload (pc := 48) C dX11_after_48 0 rfl ?_
      refine xg_aload (pc := 50) C dX11_after_50 0 rfl ?_
      obtain ⟨hk11, hF⟩ := hF
      refine xg_geti (pc := 52) (C1 := RX8) (T1 := TX8) (ci := 8) (ref := "SandGlasses$Text") C inm_X11_after_8 rfl (by decide) 0 (by decide) rfl dX11_after_52 (List.mem_of_getElem? (i := 3) rfl) rfl ha8 hk11 ?_
      obtain ⟨a12, ha12, hka12, hF⟩ := hF
      refine xg_cvI (pc := 55) (C1 := RX0) (T1 := TX0) (ci := 0) C (fun zs => [va_rf r6, .int (xg_i h10 a8 0)]) ha12 hka12 (by decide) rfl (met_X0_play Y a12 r6 (xg_i h10 a8 0)) gX11_after_X0_play rfl ⟨rfl, rfl⟩ nd_X0_play ⟨Nat.le_of_ble_eq_true rfl, Nat.le_of_ble_eq_true rfl⟩ rfl rfl (Nat.le_of_ble_eq_true rfl) ⟨Nat.zero_le _, Nat.zero_le _⟩ dX11_after_55 hF (fun r14 h13 hF => ?_)
      refine xg_pop (pc := 58) C dX11_after_58 rfl ?_
      refine xg_iload_n (pc := 59) C dX11_after_59 5 rfl ?_
      by_cases hs0 : x3 = 0
      · have hF := hF.1 hs0
        refine xg_tabIn (pc := 60) 100 C dX11_after_60 (by rw [hs0]; decide) (by rw [hs0]; decide) (off := 40) (by rw [hs0]; rfl) (by decide) ?_
        refine xg_aload_n (pc := 100) C dX11_after_100 2 rfl ?_
        refine xg_getr (pc := 101) (C1 := RX11) (T1 := TX11) (ci := 11) (ref := "SandGlasses") C inm_X11_after_11 rfl (by decide) 3 (by decide) rfl dX11_after_101 (List.mem_of_getElem? (i := 2) rfl) rfl rfl hthis ?_
        obtain ⟨a15, ha15, hka15, hF⟩ := hF
        refine xg_geti (pc := 104) (C1 := RX0) (T1 := TX0) (ci := 0) (ref := "SandGlasses$Bench") C inm_X11_after_0 rfl (by decide) 0 (by decide) rfl dX11_after_104 (List.mem_of_getElem? (i := 4) rfl) rfl ha15 hka15 ?_
        exact xg_retI (pc := 107) C E dX11_after_107 hF
      have hF := hF.2
      by_cases hs1 : x3 = 1
      · have hF := hF.1 hs1
        refine xg_tabIn (pc := 60) 108 C dX11_after_60 (by rw [hs1]; decide) (by rw [hs1]; decide) (off := 48) (by rw [hs1]; rfl) (by decide) ?_
        refine xg_aload_n (pc := 108) C dX11_after_108 2 rfl ?_
        refine xg_getr (pc := 109) (C1 := RX11) (T1 := TX11) (ci := 11) (ref := "SandGlasses") C inm_X11_after_11 rfl (by decide) 3 (by decide) rfl dX11_after_109 (List.mem_of_getElem? (i := 2) rfl) rfl rfl hthis ?_
        obtain ⟨a16, ha16, hka16, hF⟩ := hF
        refine xg_geti (pc := 112) (C1 := RX0) (T1 := TX0) (ci := 0) (ref := "SandGlasses$Bench") C inm_X11_after_0 rfl (by decide) 1 (by decide) rfl dX11_after_112 (List.mem_of_getElem? (i := 5) rfl) rfl ha16 hka16 ?_
        exact xg_retI (pc := 115) C E dX11_after_115 hF
      have hF := hF.2
      by_cases hs2 : x3 = 2
      · have hF := hF.1 hs2
        refine xg_tabIn (pc := 60) 116 C dX11_after_60 (by rw [hs2]; decide) (by rw [hs2]; decide) (off := 56) (by rw [hs2]; rfl) (by decide) ?_
        refine xg_aload_n (pc := 116) C dX11_after_116 2 rfl ?_
        refine xg_getr (pc := 117) (C1 := RX11) (T1 := TX11) (ci := 11) (ref := "SandGlasses") C inm_X11_after_11 rfl (by decide) 3 (by decide) rfl dX11_after_117 (List.mem_of_getElem? (i := 2) rfl) rfl rfl hthis ?_
        obtain ⟨a17, ha17, hka17, hF⟩ := hF
        refine xg_geti (pc := 120) (C1 := RX0) (T1 := TX0) (ci := 0) (ref := "SandGlasses$Bench") C inm_X11_after_0 rfl (by decide) 2 (by decide) rfl dX11_after_120 (List.mem_of_getElem? (i := 6) rfl) rfl ha17 hka17 ?_
        exact xg_retI (pc := 123) C E dX11_after_123 hF
      have hF := hF.2
      by_cases hs3 : x3 = 3
      · have hF := hF.1 hs3
        refine xg_tabIn (pc := 60) 124 C dX11_after_60 (by rw [hs3]; decide) (by rw [hs3]; decide) (off := 64) (by rw [hs3]; rfl) (by decide) ?_
        refine xg_aload_n (pc := 124) C dX11_after_124 2 rfl ?_
        refine xg_getr (pc := 125) (C1 := RX11) (T1 := TX11) (ci := 11) (ref := "SandGlasses") C inm_X11_after_11 rfl (by decide) 3 (by decide) rfl dX11_after_125 (List.mem_of_getElem? (i := 2) rfl) rfl rfl hthis ?_
        obtain ⟨a18, ha18, hka18, hF⟩ := hF
        refine xg_geti (pc := 128) (C1 := RX0) (T1 := TX0) (ci := 0) (ref := "SandGlasses$Bench") C inm_X11_after_0 rfl (by decide) 3 (by decide) rfl dX11_after_128 (List.mem_of_getElem? (i := 7) rfl) rfl ha18 hka18 ?_
        exact xg_retI (pc := 131) C E dX11_after_131 hF
      have hF := hF.2
      by_cases hs4 : x3 = 4
      · have hF := hF.1 hs4
        refine xg_tabIn (pc := 60) 132 C dX11_after_60 (by rw [hs4]; decide) (by rw [hs4]; decide) (off := 72) (by rw [hs4]; rfl) (by decide) ?_
        refine xg_aload_n (pc := 132) C dX11_after_132 2 rfl ?_
        refine xg_getr (pc := 133) (C1 := RX11) (T1 := TX11) (ci := 11) (ref := "SandGlasses") C inm_X11_after_11 rfl (by decide) 3 (by decide) rfl dX11_after_133 (List.mem_of_getElem? (i := 2) rfl) rfl rfl hthis ?_
        obtain ⟨a19, ha19, hka19, hF⟩ := hF
        refine xg_geti (pc := 136) (C1 := RX0) (T1 := TX0) (ci := 0) (ref := "SandGlasses$Bench") C inm_X11_after_0 rfl (by decide) 4 (by decide) rfl dX11_after_136 (List.mem_of_getElem? (i := 8) rfl) rfl ha19 hka19 ?_
        exact xg_retI (pc := 139) C E dX11_after_139 hF
      have hF := hF.2
      by_cases hs5 : x3 = 5
      · have hF := hF.1 hs5
        refine xg_tabIn (pc := 60) 140 C dX11_after_60 (by rw [hs5]; decide) (by rw [hs5]; decide) (off := 80) (by rw [hs5]; rfl) (by decide) ?_
        refine xg_aload_n (pc := 140) C dX11_after_140 2 rfl ?_
        refine xg_getr (pc := 141) (C1 := RX11) (T1 := TX11) (ci := 11) (ref := "SandGlasses") C inm_X11_after_11 rfl (by decide) 3 (by decide) rfl dX11_after_141 (List.mem_of_getElem? (i := 2) rfl) rfl rfl hthis ?_
        obtain ⟨a20, ha20, hka20, hF⟩ := hF
        refine xg_cvI (pc := 144) (C1 := RX0) (T1 := TX0) (ci := 0) C (fun zs => []) ha20 hka20 (by decide) rfl (met_X0_keenest Y a20) gX11_after_X0_keenest rfl ⟨rfl, rfl⟩ nd_X0_keenest ⟨Nat.le_of_ble_eq_true rfl, Nat.le_of_ble_eq_true rfl⟩ rfl rfl (Nat.le_of_ble_eq_true rfl) ⟨Nat.zero_le _, Nat.zero_le _⟩ dX11_after_144 hF (fun r22 h21 hF => ?_)
        exact xg_retI (pc := 147) C E dX11_after_147 hF
      have hF := hF.2
      have hF := hF hs0 hs1 hs2 hs3 hs4 hs5
      refine xg_tabOut (pc := 60) 148 C dX11_after_60 (mg_swd x3 0 5 (fun v h1 h2 => ?_)) (by decide) ?_
      · rcases (show v = 0 ∨ v = 1 ∨ v = 2 ∨ v = 3 ∨ v = 4 ∨ v = 5 by omega) with rfl | rfl | rfl | rfl | rfl | rfl
        · exact hs0
        · exact hs1
        · exact hs2
        · exact hs3
        · exact hs4
        · exact hs5
      refine xg_bipush (pc := 148) (v := (-2)) C dX11_after_148 (by decide) ?_
      exact xg_retI (pc := 150) C E dX11_after_150 hF
    · have hF := hF.1 hc
      refine xg_bipush (pc := 32) (v := (-2)) C dX11_after_32 (by decide) ?_
      exact xg_retI (pc := 34) C E dX11_after_34 hF
def rm_X8_become : Room := { frames := 1, cells := 0, slots := 0, locals := 60 }
theorem nd_X8_become : yX8_become.cls = RX8 ∧ yX8_become.cls ≠ "java/lang/invoke/MethodHandle" ∧ yX8_become.cls ≠ "java/lang/invoke/VarHandle" ∧ (parseMethodDescriptor yX8_become.desc).map (fun d => d.parameters.length) = some 1 := by decide +kernel
theorem inm_X8_become_8 : ∀ w ∈ u_ws RX8 TX8 (xg_N 8), w ∈ wsX8_become := fun _ h9 => List.mem_cons_of_mem _ (List.mem_append_right _ h9)
set_option maxHeartbeats 4000000 in
set_option maxRecDepth 100000 in
theorem met_X8_become (Y : xg_Y) (this : Nat) (x1 : Option Nat) : xg_MV yX8_become wsX8_become rm_X8_become Y (fun zs => [va_rf (some this), va_rf x1]) (fun Q h => wp_X8_become Y Q this x1 h) := by
  refine xg_startV (cc := cX8_become) (maxL := 2) (own := RX8) (by decide) rfl rfl (fun zs => by cases x1 <;> exact Nat.le_of_ble_eq_true rfl) (fun X Q h C hnL E hw => ?_)
  unfold wp_X8_become at hw
  obtain ⟨hthis, hw⟩ := hw
  refine xg_sub (lv2 := [(0, va_rf (some this)), (1, va_rf x1)]) [0, 1] (by cases x1 <;> rfl) ?_
  have hF := hw
  refine xg_aload_n (pc := 0) C dX8_become_0 0 rfl ?_
  refine xg_aload_n (pc := 1) C dX8_become_1 1 rfl ?_
  obtain ⟨a1, ha1, hka1, hF⟩ := hF
  refine xg_geti (pc := 2) (C1 := RX8) (T1 := TX8) (ci := 8) (ref := "SandGlasses$Text") C inm_X8_become_8 rfl (by decide) 0 (by decide) rfl dX8_become_2 (List.mem_of_getElem? (i := 1) rfl) rfl ha1 hka1 ?_
  refine xg_puti (pc := 5) (C1 := RX8) (T1 := TX8) (ci := 8) (ref := "SandGlasses$Text") C inm_X8_become_8 rfl (by decide) tyX8 tyX8_ok nmX8 0 (by decide) rfl dX8_become_5 (List.mem_of_getElem? (i := 1) rfl) rfl rfl (tyX8_ok 0 (by decide)) rfl hthis (fun h2 eh2 => ?_)
  have hF := hF h2 eh2
  refine xg_aload_n (pc := 8) C dX8_become_8 1 rfl ?_
  refine xg_getr (pc := 9) (C1 := RX8) (T1 := TX8) (ci := 8) (ref := "SandGlasses$Text") C inm_X8_become_8 rfl (by decide) 1 (by decide) rfl dX8_become_9 (List.mem_of_getElem? (i := 2) rfl) rfl ha1 hka1 ?_
  refine xg_iconst (pc := 12) (v := 0) C dX8_become_12 (by decide) ?_
  refine xg_aload_n (pc := 13) C dX8_become_13 0 rfl ?_
  refine xg_getr (pc := 14) (C1 := RX8) (T1 := TX8) (ci := 8) (ref := "SandGlasses$Text") C inm_X8_become_8 rfl (by decide) 1 (by decide) rfl dX8_become_14 (List.mem_of_getElem? (i := 2) rfl) rfl rfl hthis ?_
  refine xg_iconst (pc := 17) (v := 0) C dX8_become_17 (by decide) ?_
  refine xg_aload_n (pc := 18) C dX8_become_18 0 rfl ?_
  refine xg_getr (pc := 19) (C1 := RX8) (T1 := TX8) (ci := 8) (ref := "SandGlasses$Text") C inm_X8_become_8 rfl (by decide) 1 (by decide) rfl dX8_become_19 (List.mem_of_getElem? (i := 2) rfl) rfl rfl hthis ?_
  obtain ⟨a3, ha3, hka3, hF⟩ := hF
  refine xg_alen (pc := 22) (c9 := 22) C ha3 hka3 (by decide) dX8_become_22 ?_
  refine xg_aload_n (pc := 23) C dX8_become_23 1 rfl ?_
  refine xg_getr (pc := 24) (C1 := RX8) (T1 := TX8) (ci := 8) (ref := "SandGlasses$Text") C inm_X8_become_8 rfl (by decide) 1 (by decide) rfl dX8_become_24 (List.mem_of_getElem? (i := 2) rfl) rfl ha1 hka1 ?_
  obtain ⟨a4, ha4, hka4, hF⟩ := hF
  refine xg_alen (pc := 27) (c9 := 22) C ha4 hka4 (by decide) dX8_become_27 ?_
  refine xg_mmin (pc := 28) C (List.mem_of_getElem? (i := 3) rfl) (List.mem_of_getElem? (i := 4) rfl) (List.mem_of_getElem? (i := 5) rfl) (List.mem_of_getElem? (i := 6) rfl) (Nat.le_of_ble_eq_true rfl) (by simp [xg_rf_cat, xg_cat_i, xg_cat_l, xg_cat_a, rm_X8_become]) (Nat.zero_le _) (Nat.zero_le _) dX8_become_28 ?_
  refine xg_topi (pc := 31) (fun z5 ez5 => ?_)
  have hF := hF z5 ez5
  obtain ⟨h11, h12, h13, h14, h15, hF⟩ := hF
  refine xg_copy (pc := 31) C (List.mem_of_getElem? (i := 7) rfl) (List.mem_of_getElem? (i := 8) rfl) (List.mem_of_getElem? (i := 9) rfl) (List.mem_of_getElem? (i := 10) rfl) ha4 hka4 ha3 hka3 h11 h12 h13 h14 h15 (Nat.le_of_ble_eq_true rfl) (by decide) dX8_become_31 (fun h6 eh6 => ?_)
  have hF := hF h6 eh6
  refine xg_aload_n (pc := 34) C dX8_become_34 1 rfl ?_
  refine xg_getr (pc := 35) (C1 := RX8) (T1 := TX8) (ci := 8) (ref := "SandGlasses$Text") C inm_X8_become_8 rfl (by decide) 2 (by decide) rfl dX8_become_35 (List.mem_of_getElem? (i := 11) rfl) rfl ha1 hka1 ?_
  refine xg_iconst (pc := 38) (v := 0) C dX8_become_38 (by decide) ?_
  refine xg_aload_n (pc := 39) C dX8_become_39 0 rfl ?_
  refine xg_getr (pc := 40) (C1 := RX8) (T1 := TX8) (ci := 8) (ref := "SandGlasses$Text") C inm_X8_become_8 rfl (by decide) 2 (by decide) rfl dX8_become_40 (List.mem_of_getElem? (i := 11) rfl) rfl rfl hthis ?_
  refine xg_iconst (pc := 43) (v := 0) C dX8_become_43 (by decide) ?_
  refine xg_aload_n (pc := 44) C dX8_become_44 0 rfl ?_
  refine xg_getr (pc := 45) (C1 := RX8) (T1 := TX8) (ci := 8) (ref := "SandGlasses$Text") C inm_X8_become_8 rfl (by decide) 2 (by decide) rfl dX8_become_45 (List.mem_of_getElem? (i := 11) rfl) rfl rfl hthis ?_
  obtain ⟨a7, ha7, hka7, hF⟩ := hF
  refine xg_alen (pc := 48) (c9 := 22) C ha7 hka7 (by decide) dX8_become_48 ?_
  refine xg_aload_n (pc := 49) C dX8_become_49 1 rfl ?_
  refine xg_getr (pc := 50) (C1 := RX8) (T1 := TX8) (ci := 8) (ref := "SandGlasses$Text") C inm_X8_become_8 rfl (by decide) 2 (by decide) rfl dX8_become_50 (List.mem_of_getElem? (i := 11) rfl) rfl ha1 hka1 ?_
  obtain ⟨a8, ha8, hka8, hF⟩ := hF
  refine xg_alen (pc := 53) (c9 := 22) C ha8 hka8 (by decide) dX8_become_53 ?_
  refine xg_mmin (pc := 54) C (List.mem_of_getElem? (i := 3) rfl) (List.mem_of_getElem? (i := 4) rfl) (List.mem_of_getElem? (i := 5) rfl) (List.mem_of_getElem? (i := 6) rfl) (Nat.le_of_ble_eq_true rfl) (by simp [xg_rf_cat, xg_cat_i, xg_cat_l, xg_cat_a, rm_X8_become]) (Nat.zero_le _) (Nat.zero_le _) dX8_become_54 ?_
  refine xg_topi (pc := 57) (fun z9 ez9 => ?_)
  have hF := hF z9 ez9
  obtain ⟨h11, h12, h13, h14, h15, hF⟩ := hF
  refine xg_copy (pc := 57) C (List.mem_of_getElem? (i := 7) rfl) (List.mem_of_getElem? (i := 8) rfl) (List.mem_of_getElem? (i := 9) rfl) (List.mem_of_getElem? (i := 10) rfl) ha8 hka8 ha7 hka7 h11 h12 h13 h14 h15 (Nat.le_of_ble_eq_true rfl) (by decide) dX8_become_57 (fun h10 eh10 => ?_)
  have hF := hF h10 eh10
  refine xg_aload_n (pc := 60) C dX8_become_60 1 rfl ?_
  refine xg_getr (pc := 61) (C1 := RX8) (T1 := TX8) (ci := 8) (ref := "SandGlasses$Text") C inm_X8_become_8 rfl (by decide) 3 (by decide) rfl dX8_become_61 (List.mem_of_getElem? (i := 12) rfl) rfl ha1 hka1 ?_
  refine xg_iconst (pc := 64) (v := 0) C dX8_become_64 (by decide) ?_
  refine xg_aload_n (pc := 65) C dX8_become_65 0 rfl ?_
  refine xg_getr (pc := 66) (C1 := RX8) (T1 := TX8) (ci := 8) (ref := "SandGlasses$Text") C inm_X8_become_8 rfl (by decide) 3 (by decide) rfl dX8_become_66 (List.mem_of_getElem? (i := 12) rfl) rfl rfl hthis ?_
  refine xg_iconst (pc := 69) (v := 0) C dX8_become_69 (by decide) ?_
  refine xg_aload_n (pc := 70) C dX8_become_70 0 rfl ?_
  refine xg_getr (pc := 71) (C1 := RX8) (T1 := TX8) (ci := 8) (ref := "SandGlasses$Text") C inm_X8_become_8 rfl (by decide) 3 (by decide) rfl dX8_become_71 (List.mem_of_getElem? (i := 12) rfl) rfl rfl hthis ?_
  obtain ⟨a11, ha11, hka11, hF⟩ := hF
  refine xg_alen (pc := 74) (c9 := 22) C ha11 hka11 (by decide) dX8_become_74 ?_
  refine xg_aload_n (pc := 75) C dX8_become_75 1 rfl ?_
  refine xg_getr (pc := 76) (C1 := RX8) (T1 := TX8) (ci := 8) (ref := "SandGlasses$Text") C inm_X8_become_8 rfl (by decide) 3 (by decide) rfl dX8_become_76 (List.mem_of_getElem? (i := 12) rfl) rfl ha1 hka1 ?_
  obtain ⟨a12, ha12, hka12, hF⟩ := hF
  refine xg_alen (pc := 79) (c9 := 22) C ha12 hka12 (by decide) dX8_become_79 ?_
  refine xg_mmin (pc := 80) C (List.mem_of_getElem? (i := 3) rfl) (List.mem_of_getElem? (i := 4) rfl) (List.mem_of_getElem? (i := 5) rfl) (List.mem_of_getElem? (i := 6) rfl) (Nat.le_of_ble_eq_true rfl) (by simp [xg_rf_cat, xg_cat_i, xg_cat_l, xg_cat_a, rm_X8_become]) (Nat.zero_le _) (Nat.zero_le _) dX8_become_80 ?_
  refine xg_topi (pc := 83) (fun z13 ez13 => ?_)
  have hF := hF z13 ez13
  obtain ⟨h11, h12, h13, h14, h15, hF⟩ := hF
  refine xg_copy (pc := 83) C (List.mem_of_getElem? (i := 7) rfl) (List.mem_of_getElem? (i := 8) rfl) (List.mem_of_getElem? (i := 9) rfl) (List.mem_of_getElem? (i := 10) rfl) ha12 hka12 ha11 hka11 h11 h12 h13 h14 h15 (Nat.le_of_ble_eq_true rfl) (by decide) dX8_become_83 (fun h14 eh14 => ?_)
  have hF := hF h14 eh14
  exact xg_retV (pc := 86) C E dX8_become_86 hF
def rm_X9_become : Room := { frames := 2, cells := 0, slots := 0, locals := 81 }
theorem nd_X9_become : yX9_become.cls = RX9 ∧ yX9_become.cls ≠ "java/lang/invoke/MethodHandle" ∧ yX9_become.cls ≠ "java/lang/invoke/VarHandle" ∧ (parseMethodDescriptor yX9_become.desc).map (fun d => d.parameters.length) = some 1 := by decide +kernel
theorem inm_X9_become_9 : ∀ w ∈ u_ws RX9 TX9 (xg_N 9), w ∈ wsX9_become := fun _ h9 => List.mem_cons_of_mem _ (List.mem_append_left _ (List.mem_append_right _ h9))
set_option maxHeartbeats 4000000 in
set_option maxRecDepth 100000 in
theorem met_X9_become (Y : xg_Y) (this : Nat) (x1 : Option Nat) : xg_MV yX9_become wsX9_become rm_X9_become Y (fun zs => [va_rf (some this), va_rf x1]) (fun Q h => wp_X9_become Y Q this x1 h) := by
  refine xg_startV (cc := cX9_become) (maxL := 3) (own := RX9) (by decide) rfl rfl (fun zs => by cases x1 <;> exact Nat.le_of_ble_eq_true rfl) (fun X Q h C hnL E hw => ?_)
  unfold wp_X9_become at hw
  obtain ⟨hthis, hw⟩ := hw
  refine xg_sub (lv2 := [(0, va_rf (some this)), (1, va_rf x1)]) [0, 1] (by cases x1 <;> rfl) ?_
  refine mg_use (hw (fun (y2 : Int32) (h : xg_H) => xg_W X 0 0 Y 56 [(0, va_rf (some this)), (1, va_rf x1), (2, .int y2)] [] h) ?_) (fun hF => ?_)
  · intro y2 h hF
    refine xg_iload_n (pc := 56) C dX9_become_56 2 rfl ?_
    refine xg_aload_n (pc := 57) C dX9_become_57 0 rfl ?_
    refine xg_getr (pc := 58) (C1 := RX9) (T1 := TX9) (ci := 9) (ref := "SandGlasses$Told") C inm_X9_become_9 rfl (by decide) 5 (by decide) rfl dX9_become_58 (List.mem_of_getElem? (i := 10) rfl) rfl rfl hthis ?_
    obtain ⟨a11, ha11, hka11, hF⟩ := hF
    refine xg_alen (pc := 61) (c9 := 27) C ha11 hka11 (by decide) dX9_become_61 ?_
    refine xg_icmp_ge (pc := 62) 86 C dX9_become_62 (by decide) (fun hc => ?_) (fun hc => ?_)
    · have hF := hF.1 hc
      exact xg_retV (pc := 86) C E dX9_become_86 hF
    · have hF := hF.2 hc
      refine xg_aload_n (pc := 65) C dX9_become_65 0 rfl ?_
      refine xg_getr (pc := 66) (C1 := RX9) (T1 := TX9) (ci := 9) (ref := "SandGlasses$Told") C inm_X9_become_9 rfl (by decide) 5 (by decide) rfl dX9_become_66 (List.mem_of_getElem? (i := 10) rfl) rfl rfl hthis ?_
      refine xg_iload_n (pc := 69) C dX9_become_69 2 rfl ?_
      obtain ⟨hi, hF⟩ := hF
      refine xg_aald (pc := 70) (c9 := 27) (C9 := "SandGlasses$Text") C ha11 hka11 (by decide) rfl hi dX9_become_70 ?_
      refine xg_aload_n (pc := 71) C dX9_become_71 1 rfl ?_
      obtain ⟨a12, ha12, hka12, hF⟩ := hF
      refine xg_getr (pc := 72) (C1 := RX9) (T1 := TX9) (ci := 9) (ref := "SandGlasses$Told") C inm_X9_become_9 rfl (by decide) 5 (by decide) rfl dX9_become_72 (List.mem_of_getElem? (i := 10) rfl) rfl ha12 hka12 ?_
      refine xg_iload_n (pc := 75) C dX9_become_75 2 rfl ?_
      obtain ⟨a13, ha13, hka13, hF⟩ := hF
      obtain ⟨hi, hF⟩ := hF
      refine xg_aald (pc := 76) (c9 := 27) (C9 := "SandGlasses$Text") C ha13 hka13 (by decide) rfl hi dX9_become_76 ?_
      obtain ⟨a14, ha14, hka14, hF⟩ := hF
      refine xg_cvV (pc := 77) (C1 := RX8) (T1 := TX8) (ci := 8) C (fun zs => [va_rf (xg_o h a13 y2.toNatClampNeg)]) ha14 hka14 (by decide) rfl (met_X8_become Y a14 (xg_o h a13 y2.toNatClampNeg)) gX9_become_X8_become rfl ⟨rfl, rfl⟩ nd_X8_become ⟨Nat.le_of_ble_eq_true rfl, Nat.le_of_ble_eq_true rfl⟩ rfl rfl (Nat.le_of_ble_eq_true rfl) ⟨Nat.zero_le _, Nat.zero_le _⟩ dX9_become_77 hF (fun h15 hF => ?_)
      obtain ⟨z16, ez16⟩ : ∃ y : Int32, y = y2 + 1 := ⟨_, rfl⟩
      have hF := hF z16 ez16
      refine xg_iinc (pc := 80) (v := z16) (lv2 := [(2, .int z16), (0, va_rf (some this)), (1, va_rf x1)]) C dX9_become_80 2 rfl (by rw [ez16]; rfl) 3 hnL (by decide) (by cases x1 <;> rfl) ?_
      refine xg_goto (pc := 83) 56 C dX9_become_83 (by decide) ?_
      refine xg_sub (lv2 := [(0, va_rf (some this)), (1, va_rf x1), (2, .int z16)]) [1, 2, 0] rfl ?_
      exact hF
  · skip
    refine xg_aload_n (pc := 0) C dX9_become_0 1 rfl ?_
    obtain ⟨a1, ha1, hka1, hF⟩ := hF
    refine xg_getr (pc := 1) (C1 := RX9) (T1 := TX9) (ci := 9) (ref := "SandGlasses$Told") C inm_X9_become_9 rfl (by decide) 0 (by decide) rfl dX9_become_1 (List.mem_of_getElem? (i := 1) rfl) rfl ha1 hka1 ?_
    refine xg_iconst (pc := 4) (v := 0) C dX9_become_4 (by decide) ?_
    refine xg_aload_n (pc := 5) C dX9_become_5 0 rfl ?_
    refine xg_getr (pc := 6) (C1 := RX9) (T1 := TX9) (ci := 9) (ref := "SandGlasses$Told") C inm_X9_become_9 rfl (by decide) 0 (by decide) rfl dX9_become_6 (List.mem_of_getElem? (i := 1) rfl) rfl rfl hthis ?_
    refine xg_iconst (pc := 9) (v := 0) C dX9_become_9 (by decide) ?_
    refine xg_sipush (pc := 10) (v := 600) C dX9_become_10 (by decide) ?_
    obtain ⟨a2, ha2, hka2, hF⟩ := hF
    obtain ⟨a3, ha3, hka3, hF⟩ := hF
    obtain ⟨h11, h12, h13, h14, h15, hF⟩ := hF
    refine xg_copy (pc := 13) C (List.mem_of_getElem? (i := 2) rfl) (List.mem_of_getElem? (i := 3) rfl) (List.mem_of_getElem? (i := 4) rfl) (List.mem_of_getElem? (i := 5) rfl) ha2 hka2 ha3 hka3 h11 h12 h13 h14 h15 (Nat.le_of_ble_eq_true rfl) (by decide) dX9_become_13 (fun h4 eh4 => ?_)
    have hF := hF h4 eh4
    refine xg_aload_n (pc := 16) C dX9_become_16 0 rfl ?_
    refine xg_aload_n (pc := 17) C dX9_become_17 1 rfl ?_
    refine xg_geti (pc := 18) (C1 := RX9) (T1 := TX9) (ci := 9) (ref := "SandGlasses$Told") C inm_X9_become_9 rfl (by decide) 1 (by decide) rfl dX9_become_18 (List.mem_of_getElem? (i := 6) rfl) rfl ha1 hka1 ?_
    refine xg_puti (pc := 21) (C1 := RX9) (T1 := TX9) (ci := 9) (ref := "SandGlasses$Told") C inm_X9_become_9 rfl (by decide) tyX9 tyX9_ok nmX9 1 (by decide) rfl dX9_become_21 (List.mem_of_getElem? (i := 6) rfl) rfl rfl (tyX9_ok 1 (by decide)) rfl hthis (fun h5 eh5 => ?_)
    have hF := hF h5 eh5
    refine xg_aload_n (pc := 24) C dX9_become_24 0 rfl ?_
    refine xg_aload_n (pc := 25) C dX9_become_25 1 rfl ?_
    refine xg_geti (pc := 26) (C1 := RX9) (T1 := TX9) (ci := 9) (ref := "SandGlasses$Told") C inm_X9_become_9 rfl (by decide) 2 (by decide) rfl dX9_become_26 (List.mem_of_getElem? (i := 7) rfl) rfl ha1 hka1 ?_
    refine xg_puti (pc := 29) (C1 := RX9) (T1 := TX9) (ci := 9) (ref := "SandGlasses$Told") C inm_X9_become_9 rfl (by decide) tyX9 tyX9_ok nmX9 2 (by decide) rfl dX9_become_29 (List.mem_of_getElem? (i := 7) rfl) rfl rfl (tyX9_ok 2 (by decide)) rfl hthis (fun h6 eh6 => ?_)
    have hF := hF h6 eh6
    refine xg_aload_n (pc := 32) C dX9_become_32 0 rfl ?_
    refine xg_aload_n (pc := 33) C dX9_become_33 1 rfl ?_
    refine xg_geti (pc := 34) (C1 := RX9) (T1 := TX9) (ci := 9) (ref := "SandGlasses$Told") C inm_X9_become_9 rfl (by decide) 3 (by decide) rfl dX9_become_34 (List.mem_of_getElem? (i := 8) rfl) rfl ha1 hka1 ?_
    refine xg_puti (pc := 37) (C1 := RX9) (T1 := TX9) (ci := 9) (ref := "SandGlasses$Told") C inm_X9_become_9 rfl (by decide) tyX9 tyX9_ok nmX9 3 (by decide) rfl dX9_become_37 (List.mem_of_getElem? (i := 8) rfl) rfl rfl (tyX9_ok 3 (by decide)) rfl hthis (fun h7 eh7 => ?_)
    have hF := hF h7 eh7
    refine xg_aload_n (pc := 40) C dX9_become_40 1 rfl ?_
    refine xg_getr (pc := 41) (C1 := RX9) (T1 := TX9) (ci := 9) (ref := "SandGlasses$Told") C inm_X9_become_9 rfl (by decide) 4 (by decide) rfl dX9_become_41 (List.mem_of_getElem? (i := 9) rfl) rfl ha1 hka1 ?_
    refine xg_iconst (pc := 44) (v := 0) C dX9_become_44 (by decide) ?_
    refine xg_aload_n (pc := 45) C dX9_become_45 0 rfl ?_
    refine xg_getr (pc := 46) (C1 := RX9) (T1 := TX9) (ci := 9) (ref := "SandGlasses$Told") C inm_X9_become_9 rfl (by decide) 4 (by decide) rfl dX9_become_46 (List.mem_of_getElem? (i := 9) rfl) rfl rfl hthis ?_
    refine xg_iconst (pc := 49) (v := 0) C dX9_become_49 (by decide) ?_
    refine xg_iconst (pc := 50) (v := 4) C dX9_become_50 (by decide) ?_
    obtain ⟨a8, ha8, hka8, hF⟩ := hF
    obtain ⟨a9, ha9, hka9, hF⟩ := hF
    obtain ⟨h11, h12, h13, h14, h15, hF⟩ := hF
    refine xg_copy (pc := 51) C (List.mem_of_getElem? (i := 2) rfl) (List.mem_of_getElem? (i := 3) rfl) (List.mem_of_getElem? (i := 4) rfl) (List.mem_of_getElem? (i := 5) rfl) ha8 hka8 ha9 hka9 h11 h12 h13 h14 h15 (Nat.le_of_ble_eq_true rfl) (by decide) dX9_become_51 (fun h10 eh10 => ?_)
    have hF := hF h10 eh10
    refine xg_iconst (pc := 54) (v := 0) C dX9_become_54 (by decide) ?_
    refine xg_istore_n (pc := 55) (lv2 := [(2, .int 0), (0, va_rf (some this)), (1, va_rf x1)]) C dX9_become_55 3 hnL (by decide) (by cases x1 <;> rfl) ?_
    refine xg_sub (lv2 := [(0, va_rf (some this)), (1, va_rf x1), (2, .int 0)]) [1, 2, 0] rfl ?_
    exact hF
def rm_X11_again : Room := { frames := 3, cells := 0, slots := 0, locals := 103 }
theorem nd_X11_again : yX11_again.cls = RX11 ∧ yX11_again.cls ≠ "java/lang/invoke/MethodHandle" ∧ yX11_again.cls ≠ "java/lang/invoke/VarHandle" ∧ (parseMethodDescriptor yX11_again.desc).map (fun d => d.parameters.length) = some 1 := by decide +kernel
theorem inm_X11_again_11 : ∀ w ∈ u_ws RX11 TX11 (xg_N 11), w ∈ wsX11_again := fun _ h9 => List.mem_cons_of_mem _ (List.mem_append_left _ (List.mem_append_left _ (List.mem_append_right _ h9)))
set_option maxHeartbeats 4000000 in
set_option maxRecDepth 100000 in
theorem met_X11_again (Y : xg_Y) (this : Nat) (x1 : Int32) : xg_MI yX11_again wsX11_again rm_X11_again Y (fun zs => [va_rf (some this), .int x1]) (fun Q h => wp_X11_again Y Q this x1 h) := by
  refine xg_startI (cc := cX11_again) (maxL := 2) (own := RX11) (by decide) rfl rfl (fun zs => Nat.le_of_ble_eq_true rfl) (fun X Q h C hnL E hw => ?_)
  unfold wp_X11_again at hw
  obtain ⟨hthis, hw⟩ := hw
  refine xg_sub (lv2 := [(0, va_rf (some this)), (1, .int x1)]) [0, 1] rfl ?_
  have hF := hw
  refine xg_iload_n (pc := 0) C dX11_again_0 1 rfl ?_
  refine xg_if_lt (pc := 1) 18 C dX11_again_1 (by decide) (fun hc => ?_) (fun hc => ?_)
  · have hF := hF.1 hc
    refine xg_iconst (pc := 18) (v := 0) C dX11_again_18 (by decide) ?_
    exact xg_retZ (pc := 19) C E (Or.inl rfl) dX11_again_19 hF
  · have hF := hF.2 hc
    refine xg_iload_n (pc := 4) C dX11_again_4 1 rfl ?_
    refine xg_iconst (pc := 5) (v := 3) C dX11_again_5 (by decide) ?_
    refine xg_icmp_ge (pc := 6) 18 C dX11_again_6 (by decide) (fun hc => ?_) (fun hc => ?_)
    · have hF := hF.1 hc
      refine xg_iconst (pc := 18) (v := 0) C dX11_again_18 (by decide) ?_
      exact xg_retZ (pc := 19) C E (Or.inl rfl) dX11_again_19 hF
    · have hF := hF.2 hc
      refine xg_aload_n (pc := 9) C dX11_again_9 0 rfl ?_
      refine xg_getr (pc := 10) (C1 := RX11) (T1 := TX11) (ci := 11) (ref := "SandGlasses") C inm_X11_again_11 rfl (by decide) 1 (by decide) rfl dX11_again_10 (List.mem_of_getElem? (i := 1) rfl) rfl rfl hthis ?_
      refine xg_iload_n (pc := 13) C dX11_again_13 1 rfl ?_
      obtain ⟨a1, ha1, hka1, hF⟩ := hF
      obtain ⟨hi, hF⟩ := hF
      refine xg_aald (pc := 14) (c9 := 28) (C9 := "SandGlasses$Told") C ha1 hka1 (by decide) rfl hi dX11_again_14 ?_
      refine xg_ifnonnull (pc := 15) 20 C dX11_again_15 (by decide) (fun a2 ha2 => ?_) (fun hc => ?_)
      · have hF := hF.2 a2 ha2
        refine xg_aload_n (pc := 20) C dX11_again_20 0 rfl ?_
        refine xg_getr (pc := 21) (C1 := RX11) (T1 := TX11) (ci := 11) (ref := "SandGlasses") C inm_X11_again_11 rfl (by decide) 0 (by decide) rfl dX11_again_21 (List.mem_of_getElem? (i := 2) rfl) rfl rfl hthis ?_
        refine xg_aload_n (pc := 24) C dX11_again_24 0 rfl ?_
        refine xg_getr (pc := 25) (C1 := RX11) (T1 := TX11) (ci := 11) (ref := "SandGlasses") C inm_X11_again_11 rfl (by decide) 1 (by decide) rfl dX11_again_25 (List.mem_of_getElem? (i := 1) rfl) rfl rfl hthis ?_
        refine xg_iload_n (pc := 28) C dX11_again_28 1 rfl ?_
        obtain ⟨hi, hF⟩ := hF
        refine xg_aald (pc := 29) (c9 := 28) (C9 := "SandGlasses$Told") C ha1 hka1 (by decide) rfl hi dX11_again_29 ?_
        obtain ⟨a3, ha3, hka3, hF⟩ := hF
        refine xg_cvV (pc := 30) (C1 := RX9) (T1 := TX9) (ci := 9) C (fun zs => [va_rf (xg_o h a1 x1.toNatClampNeg)]) ha3 hka3 (by decide) rfl (met_X9_become Y a3 (xg_o h a1 x1.toNatClampNeg)) gX11_again_X9_become rfl ⟨rfl, rfl⟩ nd_X9_become ⟨Nat.le_of_ble_eq_true rfl, Nat.le_of_ble_eq_true rfl⟩ rfl rfl (Nat.le_of_ble_eq_true rfl) ⟨Nat.zero_le _, Nat.zero_le _⟩ dX11_again_30 hF (fun h4 hF => ?_)
        refine xg_iconst (pc := 33) (v := 1) C dX11_again_33 (by decide) ?_
        exact xg_retZ (pc := 34) C E (Or.inr rfl) dX11_again_34 hF
      · have hF := hF.1 hc
        refine xg_iconst (pc := 18) (v := 0) C dX11_again_18 (by decide) ?_
        exact xg_retZ (pc := 19) C E (Or.inl rfl) dX11_again_19 hF
def rm_X11_alikeCouples : Room := { frames := 0, cells := 0, slots := 0, locals := 0 }
theorem nd_X11_alikeCouples : yX11_alikeCouples.cls = RX11 ∧ yX11_alikeCouples.cls ≠ "java/lang/invoke/MethodHandle" ∧ yX11_alikeCouples.cls ≠ "java/lang/invoke/VarHandle" ∧ (parseMethodDescriptor yX11_alikeCouples.desc).map (fun d => d.parameters.length) = some 1 := by decide +kernel
theorem inm_X11_alikeCouples_8 : ∀ w ∈ u_ws RX8 TX8 (xg_N 8), w ∈ wsX11_alikeCouples := fun _ h9 => List.mem_cons_of_mem _ (List.mem_append_right _ h9)
set_option maxHeartbeats 4000000 in
set_option maxRecDepth 100000 in
theorem met_X11_alikeCouples (Y : xg_Y) (x0 : Option Nat) : xg_MI yX11_alikeCouples wsX11_alikeCouples rm_X11_alikeCouples Y (fun zs => [va_rf x0]) (fun Q h => wp_X11_alikeCouples Y Q x0 h) := by
  refine xg_startI (cc := cX11_alikeCouples) (maxL := 4) (own := RX11) (by decide) rfl rfl (fun zs => by cases x0 <;> exact Nat.le_of_ble_eq_true rfl) (fun X Q h C hnL E hw => ?_)
  unfold wp_X11_alikeCouples at hw
  refine xg_sub (lv2 := [(0, va_rf x0)]) [0] (by cases x0 <;> rfl) ?_
  refine mg_use (hw (fun (y1 : Int32) (y2 : Int32) (h : xg_H) => xg_W X 0 0 Y 4 [(0, va_rf x0), (1, .int y1), (2, .int y2)] [] h) (fun (y1 : Int32) (y2 : Int32) (y3 : Int32) (h : xg_H) => xg_W X 0 0 Y 16 [(0, va_rf x0), (1, .int y1), (2, .int y2), (3, .int y3)] [] h) (fun (y1 : Int32) (y2 : Int32) (y3 : Int32) (h : xg_H) => xg_W X 0 0 Y 57 [(0, va_rf x0), (1, .int y1), (2, .int y2), (3, .int y3)] [] h) ?_ ?_ ?_) (fun hF => ?_)
  · intro y1 y2 h hF
    refine xg_iload_n (pc := 4) C dX11_alikeCouples_4 2 rfl ?_
    refine xg_aload_n (pc := 5) C dX11_alikeCouples_5 0 rfl ?_
    obtain ⟨a1, ha1, hka1, hF⟩ := hF
    refine xg_geti (pc := 6) (C1 := RX8) (T1 := TX8) (ci := 8) (ref := "SandGlasses$Text") C inm_X11_alikeCouples_8 rfl (by decide) 0 (by decide) rfl dX11_alikeCouples_6 (List.mem_of_getElem? (i := 1) rfl) rfl ha1 hka1 ?_
    refine xg_icmp_ge (pc := 9) 69 C dX11_alikeCouples_9 (by decide) (fun hc => ?_) (fun hc => ?_)
    · have hF := hF.1 hc
      refine xg_iload_n (pc := 69) C dX11_alikeCouples_69 1 rfl ?_
      exact xg_retI (pc := 70) C E dX11_alikeCouples_70 hF
    · have hF := hF.2 hc
      refine xg_iload_n (pc := 12) C dX11_alikeCouples_12 2 rfl ?_
      refine xg_iconst (pc := 13) (v := 1) C dX11_alikeCouples_13 (by decide) ?_
      refine xg_iadd (pc := 14) C dX11_alikeCouples_14 ?_
      refine xg_topi (pc := 15) (fun z2 ez2 => ?_)
      have hF := hF z2 ez2
      refine xg_istore_n (pc := 15) (lv2 := [(3, .int z2), (0, va_rf x0), (1, .int y1), (2, .int y2)]) C dX11_alikeCouples_15 4 hnL (by decide) rfl ?_
      refine xg_sub (lv2 := [(0, va_rf x0), (1, .int y1), (2, .int y2), (3, .int z2)]) [1, 2, 3, 0] rfl ?_
      exact hF
  · intro y1 y2 y3 h hF
    refine xg_iload_n (pc := 16) C dX11_alikeCouples_16 3 rfl ?_
    refine xg_aload_n (pc := 17) C dX11_alikeCouples_17 0 rfl ?_
    obtain ⟨a3, ha3, hka3, hF⟩ := hF
    refine xg_geti (pc := 18) (C1 := RX8) (T1 := TX8) (ci := 8) (ref := "SandGlasses$Text") C inm_X11_alikeCouples_8 rfl (by decide) 0 (by decide) rfl dX11_alikeCouples_18 (List.mem_of_getElem? (i := 1) rfl) rfl ha3 hka3 ?_
    refine xg_icmp_ge (pc := 21) 63 C dX11_alikeCouples_21 (by decide) (fun hc => ?_) (fun hc => ?_)
    · have hF := hF.1 hc
      obtain ⟨z4, ez4⟩ : ∃ y : Int32, y = y2 + 1 := ⟨_, rfl⟩
      have hF := hF z4 ez4
      refine xg_iinc (pc := 63) (v := z4) (lv2 := [(2, .int z4), (0, va_rf x0), (1, .int y1), (3, .int y3)]) C dX11_alikeCouples_63 2 rfl (by rw [ez4]; rfl) 4 hnL (by decide) rfl ?_
      refine xg_goto (pc := 66) 4 C dX11_alikeCouples_66 (by decide) ?_
      refine xg_sub (lv2 := [(0, va_rf x0), (1, .int y1), (2, .int z4)]) [1, 2, 0] rfl ?_
      exact hF
    · have hF := hF.2 hc
      refine xg_aload_n (pc := 24) C dX11_alikeCouples_24 0 rfl ?_
      refine xg_getr (pc := 25) (C1 := RX8) (T1 := TX8) (ci := 8) (ref := "SandGlasses$Text") C inm_X11_alikeCouples_8 rfl (by decide) 1 (by decide) rfl dX11_alikeCouples_25 (List.mem_of_getElem? (i := 2) rfl) rfl ha3 hka3 ?_
      refine xg_iload_n (pc := 28) C dX11_alikeCouples_28 2 rfl ?_
      obtain ⟨a5, ha5, hka5, hF⟩ := hF
      obtain ⟨hi, hF⟩ := hF
      refine xg_iald (pc := 29) C ha5 hka5 hi dX11_alikeCouples_29 ?_
      refine xg_aload_n (pc := 30) C dX11_alikeCouples_30 0 rfl ?_
      refine xg_getr (pc := 31) (C1 := RX8) (T1 := TX8) (ci := 8) (ref := "SandGlasses$Text") C inm_X11_alikeCouples_8 rfl (by decide) 1 (by decide) rfl dX11_alikeCouples_31 (List.mem_of_getElem? (i := 2) rfl) rfl ha3 hka3 ?_
      refine xg_iload_n (pc := 34) C dX11_alikeCouples_34 3 rfl ?_
      obtain ⟨hi, hF⟩ := hF
      refine xg_iald (pc := 35) C ha5 hka5 hi dX11_alikeCouples_35 ?_
      refine xg_icmp_ne (pc := 36) 57 C dX11_alikeCouples_36 (by decide) (fun hc => ?_) (fun hc => ?_)
      · have hF := hF.1 hc
        exact hF
      · have hF := hF.2 hc
        refine xg_aload_n (pc := 39) C dX11_alikeCouples_39 0 rfl ?_
        refine xg_getr (pc := 40) (C1 := RX8) (T1 := TX8) (ci := 8) (ref := "SandGlasses$Text") C inm_X11_alikeCouples_8 rfl (by decide) 2 (by decide) rfl dX11_alikeCouples_40 (List.mem_of_getElem? (i := 3) rfl) rfl ha3 hka3 ?_
        refine xg_iload_n (pc := 43) C dX11_alikeCouples_43 2 rfl ?_
        obtain ⟨a6, ha6, hka6, hF⟩ := hF
        obtain ⟨hi, hF⟩ := hF
        refine xg_iald (pc := 44) C ha6 hka6 hi dX11_alikeCouples_44 ?_
        refine xg_aload_n (pc := 45) C dX11_alikeCouples_45 0 rfl ?_
        refine xg_getr (pc := 46) (C1 := RX8) (T1 := TX8) (ci := 8) (ref := "SandGlasses$Text") C inm_X11_alikeCouples_8 rfl (by decide) 2 (by decide) rfl dX11_alikeCouples_46 (List.mem_of_getElem? (i := 3) rfl) rfl ha3 hka3 ?_
        refine xg_iload_n (pc := 49) C dX11_alikeCouples_49 3 rfl ?_
        obtain ⟨hi, hF⟩ := hF
        refine xg_iald (pc := 50) C ha6 hka6 hi dX11_alikeCouples_50 ?_
        refine xg_icmp_ne (pc := 51) 57 C dX11_alikeCouples_51 (by decide) (fun hc => ?_) (fun hc => ?_)
        · have hF := hF.1 hc
          exact hF
        · have hF := hF.2 hc
          obtain ⟨z7, ez7⟩ : ∃ y : Int32, y = y1 + 1 := ⟨_, rfl⟩
          have hF := hF z7 ez7
          refine xg_iinc (pc := 54) (v := z7) (lv2 := [(1, .int z7), (0, va_rf x0), (2, .int y2), (3, .int y3)]) C dX11_alikeCouples_54 1 rfl (by rw [ez7]; rfl) 4 hnL (by decide) (by cases x0 <;> rfl) ?_
          refine xg_sub (lv2 := [(0, va_rf x0), (1, .int z7), (2, .int y2), (3, .int y3)]) [1, 0, 2, 3] rfl ?_
          exact hF
  · intro y1 y2 y3 h hF
    obtain ⟨z8, ez8⟩ : ∃ y : Int32, y = y3 + 1 := ⟨_, rfl⟩
    have hF := hF z8 ez8
    refine xg_iinc (pc := 57) (v := z8) (lv2 := [(3, .int z8), (0, va_rf x0), (1, .int y1), (2, .int y2)]) C dX11_alikeCouples_57 3 rfl (by rw [ez8]; rfl) 4 hnL (by decide) rfl ?_
    refine xg_goto (pc := 60) 16 C dX11_alikeCouples_60 (by decide) ?_
    refine xg_sub (lv2 := [(0, va_rf x0), (1, .int y1), (2, .int y2), (3, .int z8)]) [1, 2, 3, 0] rfl ?_
    exact hF
  · skip
    refine xg_iconst (pc := 0) (v := 0) C dX11_alikeCouples_0 (by decide) ?_
    refine xg_istore_n (pc := 1) (lv2 := [(1, .int 0), (0, va_rf x0)]) C dX11_alikeCouples_1 4 hnL (by decide) (by cases x0 <;> rfl) ?_
    refine xg_iconst (pc := 2) (v := 0) C dX11_alikeCouples_2 (by decide) ?_
    refine xg_istore_n (pc := 3) (lv2 := [(2, .int 0), (1, .int 0), (0, va_rf x0)]) C dX11_alikeCouples_3 4 hnL (by decide) rfl ?_
    refine xg_sub (lv2 := [(0, va_rf x0), (1, .int 0), (2, .int 0)]) [2, 1, 0] rfl ?_
    exact hF
def rm_X11_codeOf : Room := { frames := 0, cells := 0, slots := 0, locals := 0 }
theorem nd_X11_codeOf : yX11_codeOf.cls = RX11 ∧ yX11_codeOf.cls ≠ "java/lang/invoke/MethodHandle" ∧ yX11_codeOf.cls ≠ "java/lang/invoke/VarHandle" ∧ (parseMethodDescriptor yX11_codeOf.desc).map (fun d => d.parameters.length) = some 2 := by decide +kernel
set_option maxHeartbeats 4000000 in
set_option maxRecDepth 100000 in
theorem met_X11_codeOf (Y : xg_Y) (x0 : Option Nat) (x1 : Int32) : xg_MI yX11_codeOf wsX11_codeOf rm_X11_codeOf Y (fun zs => [va_rf x0, .int x1]) (fun Q h => wp_X11_codeOf Y Q x0 x1 h) := by
  refine xg_startI (cc := cX11_codeOf) (maxL := 4) (own := RX11) (by decide) rfl rfl (fun zs => by cases x0 <;> exact Nat.le_of_ble_eq_true rfl) (fun X Q h C hnL E hw => ?_)
  unfold wp_X11_codeOf at hw
  refine xg_sub (lv2 := [(0, va_rf x0), (1, .int x1)]) [0, 1] (by cases x0 <;> rfl) ?_
  refine mg_use (hw (fun (y2 : Int32) (y3 : Int32) (h : xg_H) => xg_W X 0 0 Y 4 [(0, va_rf x0), (1, .int x1), (2, .int y2), (3, .int y3)] [] h) ?_) (fun hF => ?_)
  · intro y2 y3 h hF
    refine xg_iload_n (pc := 4) C dX11_codeOf_4 3 rfl ?_
    refine xg_iload_n (pc := 5) C dX11_codeOf_5 1 rfl ?_
    refine xg_icmp_ge (pc := 6) 31 C dX11_codeOf_6 (by decide) (fun hc => ?_) (fun hc => ?_)
    · have hF := hF.1 hc
      refine xg_iload_n (pc := 31) C dX11_codeOf_31 2 rfl ?_
      exact xg_retI (pc := 32) C E dX11_codeOf_32 hF
    · have hF := hF.2 hc
      refine xg_iload_n (pc := 9) C dX11_codeOf_9 3 rfl ?_
      refine xg_aload_n (pc := 10) C dX11_codeOf_10 0 rfl ?_
      obtain ⟨a1, ha1, hka1, hF⟩ := hF
      refine xg_alen (pc := 11) (c9 := 22) C ha1 hka1 (by decide) dX11_codeOf_11 ?_
      refine xg_icmp_ge (pc := 12) 31 C dX11_codeOf_12 (by decide) (fun hc => ?_) (fun hc => ?_)
      · have hF := hF.1 hc
        refine xg_iload_n (pc := 31) C dX11_codeOf_31 2 rfl ?_
        exact xg_retI (pc := 32) C E dX11_codeOf_32 hF
      · have hF := hF.2 hc
        refine xg_iload_n (pc := 15) C dX11_codeOf_15 2 rfl ?_
        refine xg_aload_n (pc := 16) C dX11_codeOf_16 0 rfl ?_
        refine xg_iload_n (pc := 17) C dX11_codeOf_17 3 rfl ?_
        obtain ⟨hi, hF⟩ := hF
        refine xg_iald (pc := 18) C ha1 hka1 hi dX11_codeOf_18 ?_
        refine xg_iconst (pc := 19) (v := 3) C dX11_codeOf_19 (by decide) ?_
        refine xg_iload_n (pc := 20) C dX11_codeOf_20 3 rfl ?_
        refine xg_imul (pc := 21) C dX11_codeOf_21 ?_
        refine xg_ishl (pc := 22) C dX11_codeOf_22 ?_
        refine xg_ior (pc := 23) C dX11_codeOf_23 ?_
        refine xg_topi (pc := 24) (fun z2 ez2 => ?_)
        have hF := hF z2 ez2
        refine xg_istore_n (pc := 24) (lv2 := [(2, .int z2), (0, va_rf x0), (1, .int x1), (3, .int y3)]) C dX11_codeOf_24 4 hnL (by decide) rfl ?_
        obtain ⟨z3, ez3⟩ : ∃ y : Int32, y = y3 + 1 := ⟨_, rfl⟩
        have hF := hF z3 ez3
        refine xg_iinc (pc := 25) (v := z3) (lv2 := [(3, .int z3), (2, .int z2), (0, va_rf x0), (1, .int x1)]) C dX11_codeOf_25 3 rfl (by rw [ez3]; rfl) 4 hnL (by decide) rfl ?_
        refine xg_goto (pc := 28) 4 C dX11_codeOf_28 (by decide) ?_
        refine xg_sub (lv2 := [(0, va_rf x0), (1, .int x1), (2, .int z2), (3, .int z3)]) [2, 3, 1, 0] rfl ?_
        exact hF
  · skip
    refine xg_iconst (pc := 0) (v := 0) C dX11_codeOf_0 (by decide) ?_
    refine xg_istore_n (pc := 1) (lv2 := [(2, .int 0), (0, va_rf x0), (1, .int x1)]) C dX11_codeOf_1 4 hnL (by decide) rfl ?_
    refine xg_iconst (pc := 2) (v := 0) C dX11_codeOf_2 (by decide) ?_
    refine xg_istore_n (pc := 3) (lv2 := [(3, .int 0), (2, .int 0), (0, va_rf x0), (1, .int x1)]) C dX11_codeOf_3 4 hnL (by decide) rfl ?_
    refine xg_sub (lv2 := [(0, va_rf x0), (1, .int x1), (2, .int 0), (3, .int 0)]) [2, 3, 1, 0] rfl ?_
    exact hF
def rm_X4_begin : Room := { frames := 1, cells := 0, slots := 0, locals := 23 }
theorem nd_X4_begin : yX4_begin.cls = RX4 ∧ yX4_begin.cls ≠ "java/lang/invoke/MethodHandle" ∧ yX4_begin.cls ≠ "java/lang/invoke/VarHandle" ∧ (parseMethodDescriptor yX4_begin.desc).map (fun d => d.parameters.length) = some 1 := by decide +kernel
theorem inm_X4_begin_4 : ∀ w ∈ u_ws RX4 TX4 (xg_N 4), w ∈ wsX4_begin := fun _ h9 => List.mem_cons_of_mem _ (List.mem_append_right _ h9)
theorem inm_X4_begin_8 : ∀ w ∈ u_ws RX8 TX8 (xg_N 8), w ∈ wsX4_begin := fun _ h9 => List.mem_cons_of_mem _ (List.mem_append_left _ (List.mem_append_right _ h9))
set_option maxHeartbeats 4000000 in
set_option maxRecDepth 100000 in
theorem met_X4_begin (Y : xg_Y) (this : Nat) (x1 : Option Nat) : xg_MV yX4_begin wsX4_begin rm_X4_begin Y (fun zs => [va_rf (some this), va_rf x1]) (fun Q h => wp_X4_begin Y Q this x1 h) := by
  refine xg_startV (cc := cX4_begin) (maxL := 2) (own := RX4) (by decide) rfl rfl (fun zs => by cases x1 <;> exact Nat.le_of_ble_eq_true rfl) (fun X Q h C hnL E hw => ?_)
  unfold wp_X4_begin at hw
  obtain ⟨hthis, hw⟩ := hw
  refine xg_sub (lv2 := [(0, va_rf (some this)), (1, va_rf x1)]) [0, 1] (by cases x1 <;> rfl) ?_
  have hF := hw
  refine xg_aload_n (pc := 0) C dX4_begin_0 0 rfl ?_
  refine xg_aload_n (pc := 1) C dX4_begin_1 1 rfl ?_
  obtain ⟨a1, ha1, hka1, hF⟩ := hF
  refine xg_geti (pc := 2) (C1 := RX8) (T1 := TX8) (ci := 8) (ref := "SandGlasses$Text") C inm_X4_begin_8 rfl (by decide) 0 (by decide) rfl dX4_begin_2 (List.mem_of_getElem? (i := 1) rfl) rfl ha1 hka1 ?_
  refine xg_puti (pc := 5) (C1 := RX4) (T1 := TX4) (ci := 4) (ref := "SandGlasses$Game") C inm_X4_begin_4 rfl (by decide) tyX4 tyX4_ok nmX4 7 (by decide) rfl dX4_begin_5 (List.mem_of_getElem? (i := 2) rfl) rfl rfl (tyX4_ok 7 (by decide)) rfl hthis (fun h2 eh2 => ?_)
  have hF := hF h2 eh2
  refine xg_aload_n (pc := 8) C dX4_begin_8 0 rfl ?_
  refine xg_aload_n (pc := 9) C dX4_begin_9 1 rfl ?_
  refine xg_getr (pc := 10) (C1 := RX8) (T1 := TX8) (ci := 8) (ref := "SandGlasses$Text") C inm_X4_begin_8 rfl (by decide) 1 (by decide) rfl dX4_begin_10 (List.mem_of_getElem? (i := 3) rfl) rfl ha1 hka1 ?_
  refine xg_aload_n (pc := 13) C dX4_begin_13 0 rfl ?_
  refine xg_geti (pc := 14) (C1 := RX4) (T1 := TX4) (ci := 4) (ref := "SandGlasses$Game") C inm_X4_begin_4 rfl (by decide) 7 (by decide) rfl dX4_begin_14 (List.mem_of_getElem? (i := 2) rfl) rfl rfl hthis ?_
  refine xg_cnI (pc := 17) (host := "SandGlasses") C (fun zs => [va_rf (xg_o h2 a1 1), .int (xg_i h2 this 7)]) (by decide +kernel) (List.mem_of_getElem? (i := 9) rfl) (List.mem_of_getElem? (i := 8) rfl) (met_X11_codeOf Y (xg_o h2 a1 1) (xg_i h2 this 7)) gX4_begin_X11_codeOf_n28 rfl ⟨rfl, rfl⟩ nd_X11_codeOf.2 ⟨Nat.le_of_ble_eq_true rfl, Nat.le_of_ble_eq_true rfl⟩ rfl rfl (Nat.le_of_ble_eq_true rfl) ⟨Nat.zero_le _, Nat.zero_le _⟩ dX4_begin_17 hF (fun r4 h3 hF => ?_)
  refine xg_puti (pc := 20) (C1 := RX4) (T1 := TX4) (ci := 4) (ref := "SandGlasses$Game") C inm_X4_begin_4 rfl (by decide) tyX4 tyX4_ok nmX4 5 (by decide) rfl dX4_begin_20 (List.mem_of_getElem? (i := 4) rfl) rfl rfl (tyX4_ok 5 (by decide)) rfl hthis (fun h5 eh5 => ?_)
  have hF := hF h5 eh5
  refine xg_aload_n (pc := 23) C dX4_begin_23 0 rfl ?_
  refine xg_aload_n (pc := 24) C dX4_begin_24 1 rfl ?_
  refine xg_getr (pc := 25) (C1 := RX8) (T1 := TX8) (ci := 8) (ref := "SandGlasses$Text") C inm_X4_begin_8 rfl (by decide) 2 (by decide) rfl dX4_begin_25 (List.mem_of_getElem? (i := 5) rfl) rfl ha1 hka1 ?_
  refine xg_aload_n (pc := 28) C dX4_begin_28 0 rfl ?_
  refine xg_geti (pc := 29) (C1 := RX4) (T1 := TX4) (ci := 4) (ref := "SandGlasses$Game") C inm_X4_begin_4 rfl (by decide) 7 (by decide) rfl dX4_begin_29 (List.mem_of_getElem? (i := 2) rfl) rfl rfl hthis ?_
  refine xg_cnI (pc := 32) (host := "SandGlasses") C (fun zs => [va_rf (xg_o h5 a1 2), .int (xg_i h5 this 7)]) (by decide +kernel) (List.mem_of_getElem? (i := 9) rfl) (List.mem_of_getElem? (i := 8) rfl) (met_X11_codeOf Y (xg_o h5 a1 2) (xg_i h5 this 7)) gX4_begin_X11_codeOf_n28 rfl ⟨rfl, rfl⟩ nd_X11_codeOf.2 ⟨Nat.le_of_ble_eq_true rfl, Nat.le_of_ble_eq_true rfl⟩ rfl rfl (Nat.le_of_ble_eq_true rfl) ⟨Nat.zero_le _, Nat.zero_le _⟩ dX4_begin_32 hF (fun r7 h6 hF => ?_)
  refine xg_puti (pc := 35) (C1 := RX4) (T1 := TX4) (ci := 4) (ref := "SandGlasses$Game") C inm_X4_begin_4 rfl (by decide) tyX4 tyX4_ok nmX4 4 (by decide) rfl dX4_begin_35 (List.mem_of_getElem? (i := 6) rfl) rfl rfl (tyX4_ok 4 (by decide)) rfl hthis (fun h8 eh8 => ?_)
  have hF := hF h8 eh8
  refine xg_aload_n (pc := 38) C dX4_begin_38 0 rfl ?_
  refine xg_iconst (pc := 39) (v := 1) C dX4_begin_39 (by decide) ?_
  refine xg_aload_n (pc := 40) C dX4_begin_40 0 rfl ?_
  refine xg_geti (pc := 41) (C1 := RX4) (T1 := TX4) (ci := 4) (ref := "SandGlasses$Game") C inm_X4_begin_4 rfl (by decide) 7 (by decide) rfl dX4_begin_41 (List.mem_of_getElem? (i := 2) rfl) rfl rfl hthis ?_
  refine xg_ishl (pc := 44) C dX4_begin_44 ?_
  refine xg_puti (pc := 45) (C1 := RX4) (T1 := TX4) (ci := 4) (ref := "SandGlasses$Game") C inm_X4_begin_4 rfl (by decide) tyX4 tyX4_ok nmX4 6 (by decide) rfl dX4_begin_45 (List.mem_of_getElem? (i := 7) rfl) rfl rfl (tyX4_ok 6 (by decide)) rfl hthis (fun h9 eh9 => ?_)
  have hF := hF h9 eh9
  exact xg_retV (pc := 48) C E dX4_begin_48 hF
def rm_X11_has : Room := { frames := 0, cells := 0, slots := 0, locals := 0 }
theorem nd_X11_has : yX11_has.cls = RX11 ∧ yX11_has.cls ≠ "java/lang/invoke/MethodHandle" ∧ yX11_has.cls ≠ "java/lang/invoke/VarHandle" ∧ (parseMethodDescriptor yX11_has.desc).map (fun d => d.parameters.length) = some 2 := by decide +kernel
set_option maxHeartbeats 4000000 in
set_option maxRecDepth 100000 in
theorem met_X11_has (Y : xg_Y) (x0 : Int32) (x1 : Int32) : xg_MI yX11_has wsX11_has rm_X11_has Y (fun zs => [.int x0, .int x1]) (fun Q h => wp_X11_has Y Q x0 x1 h) := by
  refine xg_startI (cc := cX11_has) (maxL := 2) (own := RX11) (by decide) rfl rfl (fun zs => Nat.le_of_ble_eq_true rfl) (fun X Q h C hnL E hw => ?_)
  unfold wp_X11_has at hw
  refine xg_sub (lv2 := [(0, .int x0), (1, .int x1)]) [0, 1] rfl ?_
  have hF := hw
  refine xg_iload_n (pc := 0) C dX11_has_0 0 rfl ?_
  refine xg_iload_n (pc := 1) C dX11_has_1 1 rfl ?_
  refine xg_ishr (pc := 2) C dX11_has_2 ?_
  refine xg_iconst (pc := 3) (v := 1) C dX11_has_3 (by decide) ?_
  refine xg_iand (pc := 4) C dX11_has_4 ?_
  refine xg_iconst (pc := 5) (v := 1) C dX11_has_5 (by decide) ?_
  refine xg_icmp_ne (pc := 6) 13 C dX11_has_6 (by decide) (fun hc => ?_) (fun hc => ?_)
  · have hF := hF.1 hc
    refine xg_iconst (pc := 13) (v := 0) C dX11_has_13 (by decide) ?_
    exact xg_retZ (pc := 14) C E (Or.inl rfl) dX11_has_14 hF
  · have hF := hF.2 hc
    refine xg_iconst (pc := 9) (v := 1) C dX11_has_9 (by decide) ?_
    refine xg_goto (pc := 10) 14 C dX11_has_10 (by decide) ?_
    exact xg_retZ (pc := 14) C E (Or.inr rfl) dX11_has_14 hF
def rm_X4_chanceOver : Room := { frames := 3, cells := 0, slots := 0, locals := 69 }
theorem nd_X4_chanceOver : yX4_chanceOver.cls = RX4 ∧ yX4_chanceOver.cls ≠ "java/lang/invoke/MethodHandle" ∧ yX4_chanceOver.cls ≠ "java/lang/invoke/VarHandle" ∧ (parseMethodDescriptor yX4_chanceOver.desc).map (fun d => d.parameters.length) = some 2 := by decide +kernel
theorem inm_X4_chanceOver_4 : ∀ w ∈ u_ws RX4 TX4 (xg_N 4), w ∈ wsX4_chanceOver := fun _ h9 => List.mem_cons_of_mem _ (List.mem_append_left _ (List.mem_append_right _ h9))
set_option maxHeartbeats 4000000 in
set_option maxRecDepth 100000 in
theorem met_X4_chanceOver (Y : xg_Y) (this : Nat) (x1 : Int32) (x2 : Int32) : xg_MI yX4_chanceOver wsX4_chanceOver rm_X4_chanceOver Y (fun zs => [va_rf (some this), .int x1, .int x2]) (fun Q h => wp_X4_chanceOver Y Q this x1 x2 h) := by
  refine xg_startI (cc := cX4_chanceOver) (maxL := 7) (own := RX4) (by decide) rfl rfl (fun zs => Nat.le_of_ble_eq_true rfl) (fun X Q h C hnL E hw => ?_)
  unfold wp_X4_chanceOver at hw
  obtain ⟨hthis, hw⟩ := hw
  refine xg_sub (lv2 := [(0, va_rf (some this)), (1, .int x1), (2, .int x2)]) [0, 1, 2] rfl ?_
  refine mg_use (hw (fun (y3 : Int32) (y4 : Int32) (h : xg_H) => xg_W X 0 0 Y 5 [(0, va_rf (some this)), (1, .int x1), (2, .int x2), (3, .int y3), (4, .int y4)] [] h) (fun (y3 : Int32) (y4 : Int32) (h : xg_H) => xg_W X 0 0 Y 90 [(0, va_rf (some this)), (1, .int x1), (2, .int x2), (3, .int y3), (4, .int y4)] [] h) (fun (y3 : Int32) (y4 : Int32) (y5 : Int32) (y6 : Int32) (h : xg_H) => xg_W X 0 0 Y 47 [(0, va_rf (some this)), (1, .int x1), (2, .int x2), (3, .int y3), (4, .int y4), (5, .int y5), (6, .int y6)] [] h) (fun (y3 : Int32) (y4 : Int32) (y6 : Int32) (s0 : Int32) (s1 : Int32) (h : xg_H) => xg_W X 0 0 Y 76 [(0, va_rf (some this)), (1, .int x1), (2, .int x2), (3, .int y3), (4, .int y4), (6, .int y6)] [.int s0, .int s1] h) ?_ ?_ ?_ ?_) (fun hF => ?_)
  · intro y3 y4 h hF
    refine xg_iload (pc := 5) C dX4_chanceOver_5 4 rfl ?_
    refine xg_aload_n (pc := 7) C dX4_chanceOver_7 0 rfl ?_
    refine xg_geti (pc := 8) (C1 := RX4) (T1 := TX4) (ci := 4) (ref := "SandGlasses$Game") C inm_X4_chanceOver_4 rfl (by decide) 6 (by decide) rfl dX4_chanceOver_8 (List.mem_of_getElem? (i := 1) rfl) rfl rfl hthis ?_
    refine xg_icmp_ge (pc := 11) 96 C dX4_chanceOver_11 (by decide) (fun hc => ?_) (fun hc => ?_)
    · have hF := hF.1 hc
      refine xg_iload_n (pc := 96) C dX4_chanceOver_96 3 rfl ?_
      exact xg_retI (pc := 97) C E dX4_chanceOver_97 hF
    · have hF := hF.2 hc
      refine xg_aload_n (pc := 14) C dX4_chanceOver_14 0 rfl ?_
      refine xg_getr (pc := 15) (C1 := RX4) (T1 := TX4) (ci := 4) (ref := "SandGlasses$Game") C inm_X4_chanceOver_4 rfl (by decide) 3 (by decide) rfl dX4_chanceOver_15 (List.mem_of_getElem? (i := 2) rfl) rfl rfl hthis ?_
      refine xg_aload_n (pc := 18) C dX4_chanceOver_18 0 rfl ?_
      refine xg_geti (pc := 19) (C1 := RX4) (T1 := TX4) (ci := 4) (ref := "SandGlasses$Game") C inm_X4_chanceOver_4 rfl (by decide) 5 (by decide) rfl dX4_chanceOver_19 (List.mem_of_getElem? (i := 3) rfl) rfl rfl hthis ?_
      refine xg_aload_n (pc := 22) C dX4_chanceOver_22 0 rfl ?_
      refine xg_geti (pc := 23) (C1 := RX4) (T1 := TX4) (ci := 4) (ref := "SandGlasses$Game") C inm_X4_chanceOver_4 rfl (by decide) 4 (by decide) rfl dX4_chanceOver_23 (List.mem_of_getElem? (i := 4) rfl) rfl rfl hthis ?_
      refine xg_iload (pc := 26) C dX4_chanceOver_26 4 rfl ?_
      refine xg_cnI (pc := 28) (host := "SandGlasses") C (fun zs => [.int (xg_i h this 5), .int (xg_i h this 4), .int y4]) (by decide +kernel) (List.mem_of_getElem? (i := 7) rfl) (List.mem_of_getElem? (i := 6) rfl) (met_X11_turned Y (xg_i h this 5) (xg_i h this 4) y4) gX4_chanceOver_X11_turned_n79 rfl ⟨rfl, rfl⟩ nd_X11_turned.2 ⟨Nat.le_of_ble_eq_true rfl, Nat.le_of_ble_eq_true rfl⟩ rfl rfl (by simp [xg_rf_cat, xg_cat_i, xg_cat_l, xg_cat_a]) ⟨Nat.zero_le _, Nat.zero_le _⟩ dX4_chanceOver_28 hF (fun r2 h1 hF => ?_)
      obtain ⟨a3, ha3, hka3, hF⟩ := hF
      refine xg_cvI (pc := 31) (C1 := RX7) (T1 := TX7) (ci := 7) C (fun zs => [.int r2]) ha3 hka3 (by decide) rfl (met_X7_from Y a3 r2) gX4_chanceOver_X7_from rfl ⟨rfl, rfl⟩ nd_X7_from ⟨Nat.le_of_ble_eq_true rfl, Nat.le_of_ble_eq_true rfl⟩ rfl rfl (Nat.le_of_ble_eq_true rfl) ⟨Nat.zero_le _, Nat.zero_le _⟩ dX4_chanceOver_31 hF (fun r5 h4 hF => ?_)
      refine xg_bipush (pc := 34) (v := 12) C dX4_chanceOver_34 (by decide) ?_
      refine xg_ishr (pc := 36) C dX4_chanceOver_36 ?_
      refine xg_iload_n (pc := 37) C dX4_chanceOver_37 2 rfl ?_
      refine xg_icmp_ne (pc := 38) 90 C dX4_chanceOver_38 (by decide) (fun hc => ?_) (fun hc => ?_)
      · have hF := hF.1 hc
        exact hF
      · have hF := hF.2 hc
        refine xg_iconst (pc := 41) (v := 1) C dX4_chanceOver_41 (by decide) ?_
        refine xg_istore (pc := 42) (lv2 := [(5, .int 1), (0, va_rf (some this)), (1, .int x1), (2, .int x2), (3, .int y3), (4, .int y4)]) C dX4_chanceOver_42 7 hnL (by decide) rfl ?_
        refine xg_iconst (pc := 44) (v := 0) C dX4_chanceOver_44 (by decide) ?_
        refine xg_istore (pc := 45) (lv2 := [(6, .int 0), (5, .int 1), (0, va_rf (some this)), (1, .int x1), (2, .int x2), (3, .int y3), (4, .int y4)]) C dX4_chanceOver_45 7 hnL (by decide) rfl ?_
        refine xg_sub (lv2 := [(0, va_rf (some this)), (1, .int x1), (2, .int x2), (3, .int y3), (4, .int y4), (5, .int 1), (6, .int 0)]) [2, 3, 4, 5, 6, 1, 0] rfl ?_
        exact hF
  · intro y3 y4 h hF
    obtain ⟨z6, ez6⟩ : ∃ y : Int32, y = y4 + 1 := ⟨_, rfl⟩
    have hF := hF z6 ez6
    refine xg_iinc (pc := 90) (v := z6) (lv2 := [(4, .int z6), (0, va_rf (some this)), (1, .int x1), (2, .int x2), (3, .int y3)]) C dX4_chanceOver_90 4 rfl (by rw [ez6]; rfl) 7 hnL (by decide) rfl ?_
    refine xg_goto (pc := 93) 5 C dX4_chanceOver_93 (by decide) ?_
    refine xg_sub (lv2 := [(0, va_rf (some this)), (1, .int x1), (2, .int x2), (3, .int y3), (4, .int z6)]) [1, 2, 3, 4, 0] rfl ?_
    exact hF
  · intro y3 y4 y5 y6 h hF
    refine xg_iload (pc := 47) C dX4_chanceOver_47 6 rfl ?_
    refine xg_aload_n (pc := 49) C dX4_chanceOver_49 0 rfl ?_
    refine xg_geti (pc := 50) (C1 := RX4) (T1 := TX4) (ci := 4) (ref := "SandGlasses$Game") C inm_X4_chanceOver_4 rfl (by decide) 7 (by decide) rfl dX4_chanceOver_50 (List.mem_of_getElem? (i := 5) rfl) rfl rfl hthis ?_
    refine xg_icmp_ge (pc := 53) 85 C dX4_chanceOver_53 (by decide) (fun hc => ?_) (fun hc => ?_)
    · have hF := hF.1 hc
      refine xg_iload_n (pc := 85) C dX4_chanceOver_85 3 rfl ?_
      refine xg_iload (pc := 86) C dX4_chanceOver_86 5 rfl ?_
      refine xg_iadd (pc := 88) C dX4_chanceOver_88 ?_
      refine xg_topi (pc := 89) (fun z7 ez7 => ?_)
      have hF := hF z7 ez7
      refine xg_istore_n (pc := 89) (lv2 := [(3, .int z7), (0, va_rf (some this)), (1, .int x1), (2, .int x2), (4, .int y4), (5, .int y5), (6, .int y6)]) C dX4_chanceOver_89 7 hnL (by decide) rfl ?_
      refine xg_sub (lv2 := [(0, va_rf (some this)), (1, .int x1), (2, .int x2), (3, .int z7), (4, .int y4)]) [1, 2, 3, 0, 4] rfl ?_
      exact hF
    · have hF := hF.2 hc
      refine xg_iload (pc := 56) C dX4_chanceOver_56 5 rfl ?_
      refine xg_iload (pc := 58) C dX4_chanceOver_58 4 rfl ?_
      refine xg_iload (pc := 60) C dX4_chanceOver_60 6 rfl ?_
      refine xg_cnI (pc := 62) (host := "SandGlasses") C (fun zs => [.int y4, .int y6]) (by decide +kernel) (List.mem_of_getElem? (i := 7) rfl) (List.mem_of_getElem? (i := 23) rfl) (met_X11_has Y y4 y6) gX4_chanceOver_X11_has_n86 rfl ⟨rfl, rfl⟩ nd_X11_has.2 ⟨Nat.le_of_ble_eq_true rfl, Nat.le_of_ble_eq_true rfl⟩ rfl rfl (Nat.le_of_ble_eq_true rfl) ⟨Nat.zero_le _, Nat.zero_le _⟩ dX4_chanceOver_62 hF (fun r9 h8 hF => ?_)
      refine xg_if_eq (pc := 65) 72 C dX4_chanceOver_65 (by decide) (fun hc => ?_) (fun hc => ?_)
      · have hF := hF.1 hc
        refine xg_bipush (pc := 72) (v := 10) C dX4_chanceOver_72 (by decide) ?_
        refine xg_iload_n (pc := 74) C dX4_chanceOver_74 1 rfl ?_
        refine xg_isub (pc := 75) C dX4_chanceOver_75 ?_
        refine xg_sub (lv2 := [(0, va_rf (some this)), (1, .int x1), (2, .int x2), (3, .int y3), (4, .int y4), (6, .int y6)]) [0, 1, 2, 3, 4, 6] rfl ?_
        exact hF
      · have hF := hF.2 hc
        refine xg_iload_n (pc := 68) C dX4_chanceOver_68 1 rfl ?_
        refine xg_goto (pc := 69) 76 C dX4_chanceOver_69 (by decide) ?_
        refine xg_sub (lv2 := [(0, va_rf (some this)), (1, .int x1), (2, .int x2), (3, .int y3), (4, .int y4), (6, .int y6)]) [0, 1, 2, 3, 4, 6] rfl ?_
        exact hF
  · intro y3 y4 y6 s0 s1 h hF
    refine xg_imul (pc := 76) C dX4_chanceOver_76 ?_
    refine xg_topi (pc := 77) (fun z10 ez10 => ?_)
    have hF := hF z10 ez10
    refine xg_istore (pc := 77) (lv2 := [(5, .int z10), (0, va_rf (some this)), (1, .int x1), (2, .int x2), (3, .int y3), (4, .int y4), (6, .int y6)]) C dX4_chanceOver_77 7 hnL (by decide) rfl ?_
    obtain ⟨z11, ez11⟩ : ∃ y : Int32, y = y6 + 1 := ⟨_, rfl⟩
    have hF := hF z11 ez11
    refine xg_iinc (pc := 79) (v := z11) (lv2 := [(6, .int z11), (5, .int z10), (0, va_rf (some this)), (1, .int x1), (2, .int x2), (3, .int y3), (4, .int y4)]) C dX4_chanceOver_79 6 rfl (by rw [ez11]; rfl) 7 hnL (by decide) rfl ?_
    refine xg_goto (pc := 82) 47 C dX4_chanceOver_82 (by decide) ?_
    refine xg_sub (lv2 := [(0, va_rf (some this)), (1, .int x1), (2, .int x2), (3, .int y3), (4, .int y4), (5, .int z10), (6, .int z11)]) [2, 3, 4, 5, 6, 1, 0] rfl ?_
    exact hF
  · skip
    refine xg_iconst (pc := 0) (v := 0) C dX4_chanceOver_0 (by decide) ?_
    refine xg_istore_n (pc := 1) (lv2 := [(3, .int 0), (0, va_rf (some this)), (1, .int x1), (2, .int x2)]) C dX4_chanceOver_1 7 hnL (by decide) rfl ?_
    refine xg_iconst (pc := 2) (v := 0) C dX4_chanceOver_2 (by decide) ?_
    refine xg_istore (pc := 3) (lv2 := [(4, .int 0), (3, .int 0), (0, va_rf (some this)), (1, .int x1), (2, .int x2)]) C dX4_chanceOver_3 7 hnL (by decide) rfl ?_
    refine xg_sub (lv2 := [(0, va_rf (some this)), (1, .int x1), (2, .int x2), (3, .int 0), (4, .int 0)]) [2, 3, 4, 1, 0] rfl ?_
    exact hF
