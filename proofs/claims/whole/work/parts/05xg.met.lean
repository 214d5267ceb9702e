def rm_X1_waitForLaterEvents : Room := { frames := 0, cells := 0, slots := 0, locals := 0 }
theorem nd_X1_waitForLaterEvents : yX1_waitForLaterEvents.cls = RX1 ∧ yX1_waitForLaterEvents.cls ≠ "java/lang/invoke/MethodHandle" ∧ yX1_waitForLaterEvents.cls ≠ "java/lang/invoke/VarHandle" ∧ (parseMethodDescriptor yX1_waitForLaterEvents.desc).map (fun d => d.parameters.length) = some 0 := by decide +kernel
theorem inm_X1_waitForLaterEvents_1 : ∀ w ∈ u_ws RX1 TX1 (xg_N 1), w ∈ wsX1_waitForLaterEvents := fun _ h9 => List.mem_cons_of_mem _ (List.mem_append_left _ (List.mem_append_left _ (List.mem_append_right _ h9)))
theorem inm_X1_waitForLaterEvents_3 : ∀ w ∈ u_ws RX3 TX3 (xg_N 3), w ∈ wsX1_waitForLaterEvents := fun _ h9 => List.mem_cons_of_mem _ (List.mem_append_right _ h9)
theorem inm_X1_waitForLaterEvents_10 : ∀ w ∈ u_ws RX10 TX10 (xg_N 10), w ∈ wsX1_waitForLaterEvents := fun _ h9 => List.mem_cons_of_mem _ (List.mem_append_left _ (List.mem_append_right _ h9))
set_option maxHeartbeats 4000000 in
set_option maxRecDepth 100000 in
theorem met_X1_waitForLaterEvents (Y : xg_Y) (this : Nat) : xg_MV yX1_waitForLaterEvents wsX1_waitForLaterEvents rm_X1_waitForLaterEvents Y (fun zs => [va_rf (some this)]) (fun Q h => wp_X1_waitForLaterEvents Y Q this h) := by
  refine xg_startV (cc := cX1_waitForLaterEvents) (maxL := 8) (own := RX1) (by decide) rfl rfl (fun zs => Nat.le_of_ble_eq_true rfl) (fun X Q h C hnL E hw => ?_)
  unfold wp_X1_waitForLaterEvents at hw
  obtain ⟨hthis, hw⟩ := hw
  refine xg_sub (lv2 := [(0, va_rf (some this))]) [0] rfl ?_
  refine mg_use (hw (fun (y1 : Int32) (y2 : Int32) (h : xg_H) => xg_W X 0 0 Y 4 [(0, va_rf (some this)), (1, .int y1), (2, .int y2)] [] h) (fun (y1 : Int32) (y2 : Int32) (y3 : Int32) (h : xg_H) => xg_W X 0 0 Y 18 [(0, va_rf (some this)), (1, .int y1), (2, .int y2), (3, .int y3)] [] h) (fun (y1 : Int32) (y2 : Int32) (y3 : Int32) (y4 : Int32) (h : xg_H) => xg_W X 0 0 Y 32 [(0, va_rf (some this)), (1, .int y1), (2, .int y2), (3, .int y3), (4, .int y4)] [] h) (fun (y1 : Int32) (y2 : Int32) (y3 : Int32) (y4 : Int32) (y5 : Int32) (s0 : Int32) (s1 : Int32) (h : xg_H) => xg_W X 0 0 Y 101 [(0, va_rf (some this)), (1, .int y1), (2, .int y2), (3, .int y3), (4, .int y4), (5, .int y5)] [.int s0, .int s1] h) (fun (y1 : Int32) (y2 : Int32) (y3 : Int32) (y4 : Int32) (h : xg_H) => xg_W X 0 0 Y 136 [(0, va_rf (some this)), (1, .int y1), (2, .int y2), (3, .int y3), (4, .int y4)] [] h) ?_ ?_ ?_ ?_ ?_) (fun hF => ?_)
  · intro y1 y2 h hF
    refine xg_iload_n (pc := 4) C dX1_waitForLaterEvents_4 2 rfl ?_
    refine xg_bipush (pc := 5) (v := 90) C dX1_waitForLaterEvents_5 (by decide) ?_
    refine xg_icmp_gt (pc := 7) 154 C dX1_waitForLaterEvents_7 (by decide) (fun hc => ?_) (fun hc => ?_)
    · have hF := hF.1 hc
      exact xg_retV (pc := 154) C E dX1_waitForLaterEvents_154 hF
    · have hF := hF.2 hc
      refine xg_iload_n (pc := 10) C dX1_waitForLaterEvents_10 1 rfl ?_
      refine xg_if_eq (pc := 11) 154 C dX1_waitForLaterEvents_11 (by decide) (fun hc => ?_) (fun hc => ?_)
      · have hF := hF.1 hc
        exact xg_retV (pc := 154) C E dX1_waitForLaterEvents_154 hF
      · have hF := hF.2 hc
        refine xg_iconst (pc := 14) (v := 0) C dX1_waitForLaterEvents_14 (by decide) ?_
        refine xg_istore_n (pc := 15) (lv2 := [(1, .int 0), (0, va_rf (some this)), (2, .int y2)]) C dX1_waitForLaterEvents_15 8 hnL (by decide) rfl ?_
        refine xg_iconst (pc := 16) (v := 0) C dX1_waitForLaterEvents_16 (by decide) ?_
        refine xg_istore_n (pc := 17) (lv2 := [(3, .int 0), (1, .int 0), (0, va_rf (some this)), (2, .int y2)]) C dX1_waitForLaterEvents_17 8 hnL (by decide) rfl ?_
        refine xg_sub (lv2 := [(0, va_rf (some this)), (1, .int 0), (2, .int y2), (3, .int 0)]) [2, 1, 3, 0] rfl ?_
        exact hF
  · intro y1 y2 y3 h hF
    refine xg_iload_n (pc := 18) C dX1_waitForLaterEvents_18 3 rfl ?_
    refine xg_aload_n (pc := 19) C dX1_waitForLaterEvents_19 0 rfl ?_
    refine xg_getr (pc := 20) (C1 := RX1) (T1 := TX1) (ci := 1) (ref := "SandGlasses$Book") C inm_X1_waitForLaterEvents_1 rfl (by decide) 0 (by decide) rfl dX1_waitForLaterEvents_20 (List.mem_of_getElem? (i := 1) rfl) rfl rfl hthis ?_
    obtain ⟨a1, ha1, hka1, hF⟩ := hF
    refine xg_geti (pc := 23) (C1 := RX10) (T1 := TX10) (ci := 10) (ref := "SandGlasses$Walk") C inm_X1_waitForLaterEvents_10 rfl (by decide) 4 (by decide) rfl dX1_waitForLaterEvents_23 (List.mem_of_getElem? (i := 2) rfl) rfl ha1 hka1 ?_
    refine xg_icmp_ge (pc := 26) 148 C dX1_waitForLaterEvents_26 (by decide) (fun hc => ?_) (fun hc => ?_)
    · have hF := hF.1 hc
      obtain ⟨z2, ez2⟩ : ∃ y : Int32, y = y2 + 1 := ⟨_, rfl⟩
      have hF := hF z2 ez2
      refine xg_iinc (pc := 148) (v := z2) (lv2 := [(2, .int z2), (0, va_rf (some this)), (1, .int y1), (3, .int y3)]) C dX1_waitForLaterEvents_148 2 rfl (by rw [ez2]; rfl) 8 hnL (by decide) rfl ?_
      refine xg_goto (pc := 151) 4 C dX1_waitForLaterEvents_151 (by decide) ?_
      refine xg_sub (lv2 := [(0, va_rf (some this)), (1, .int y1), (2, .int z2)]) [1, 2, 0] rfl ?_
      exact hF
    · have hF := hF.2 hc
      refine xg_iconst (pc := 29) (v := 0) C dX1_waitForLaterEvents_29 (by decide) ?_
      refine xg_istore (pc := 30) (lv2 := [(4, .int 0), (0, va_rf (some this)), (1, .int y1), (2, .int y2), (3, .int y3)]) C dX1_waitForLaterEvents_30 8 hnL (by decide) rfl ?_
      refine xg_sub (lv2 := [(0, va_rf (some this)), (1, .int y1), (2, .int y2), (3, .int y3), (4, .int 0)]) [1, 2, 3, 4, 0] rfl ?_
      exact hF
  · intro y1 y2 y3 y4 h hF
    refine xg_iload (pc := 32) C dX1_waitForLaterEvents_32 4 rfl ?_
    refine xg_aload_n (pc := 34) C dX1_waitForLaterEvents_34 0 rfl ?_
    refine xg_getr (pc := 35) (C1 := RX1) (T1 := TX1) (ci := 1) (ref := "SandGlasses$Book") C inm_X1_waitForLaterEvents_1 rfl (by decide) 0 (by decide) rfl dX1_waitForLaterEvents_35 (List.mem_of_getElem? (i := 1) rfl) rfl rfl hthis ?_
    obtain ⟨a3, ha3, hka3, hF⟩ := hF
    refine xg_geti (pc := 38) (C1 := RX10) (T1 := TX10) (ci := 10) (ref := "SandGlasses$Walk") C inm_X1_waitForLaterEvents_10 rfl (by decide) 5 (by decide) rfl dX1_waitForLaterEvents_38 (List.mem_of_getElem? (i := 3) rfl) rfl ha3 hka3 ?_
    refine xg_icmp_ge (pc := 41) 142 C dX1_waitForLaterEvents_41 (by decide) (fun hc => ?_) (fun hc => ?_)
    · have hF := hF.1 hc
      obtain ⟨z4, ez4⟩ : ∃ y : Int32, y = y3 + 1 := ⟨_, rfl⟩
      have hF := hF z4 ez4
      refine xg_iinc (pc := 142) (v := z4) (lv2 := [(3, .int z4), (0, va_rf (some this)), (1, .int y1), (2, .int y2), (4, .int y4)]) C dX1_waitForLaterEvents_142 3 rfl (by rw [ez4]; rfl) 8 hnL (by decide) rfl ?_
      refine xg_goto (pc := 145) 18 C dX1_waitForLaterEvents_145 (by decide) ?_
      refine xg_sub (lv2 := [(0, va_rf (some this)), (1, .int y1), (2, .int y2), (3, .int z4)]) [1, 2, 3, 0] rfl ?_
      exact hF
    · have hF := hF.2 hc
      refine xg_aload_n (pc := 44) C dX1_waitForLaterEvents_44 0 rfl ?_
      refine xg_getr (pc := 45) (C1 := RX1) (T1 := TX1) (ci := 1) (ref := "SandGlasses$Book") C inm_X1_waitForLaterEvents_1 rfl (by decide) 0 (by decide) rfl dX1_waitForLaterEvents_45 (List.mem_of_getElem? (i := 1) rfl) rfl rfl hthis ?_
      refine xg_getr (pc := 48) (C1 := RX10) (T1 := TX10) (ci := 10) (ref := "SandGlasses$Walk") C inm_X1_waitForLaterEvents_10 rfl (by decide) 3 (by decide) rfl dX1_waitForLaterEvents_48 (List.mem_of_getElem? (i := 4) rfl) rfl ha3 hka3 ?_
      refine xg_iload_n (pc := 51) C dX1_waitForLaterEvents_51 3 rfl ?_
      refine xg_bipush (pc := 52) (v := 16) C dX1_waitForLaterEvents_52 (by decide) ?_
      refine xg_imul (pc := 54) C dX1_waitForLaterEvents_54 ?_
      refine xg_iload (pc := 55) C dX1_waitForLaterEvents_55 4 rfl ?_
      refine xg_iadd (pc := 57) C dX1_waitForLaterEvents_57 ?_
      obtain ⟨a5, ha5, hka5, hF⟩ := hF
      obtain ⟨hi, hF⟩ := hF
      refine xg_iald (pc := 58) C ha5 hka5 hi dX1_waitForLaterEvents_58 ?_
      refine xg_topi (pc := 59) (fun z6 ez6 => ?_)
      have hF := hF z6 ez6
      refine xg_istore (pc := 59) (lv2 := [(5, .int z6), (0, va_rf (some this)), (1, .int y1), (2, .int y2), (3, .int y3), (4, .int y4)]) C dX1_waitForLaterEvents_59 8 hnL (by decide) rfl ?_
      refine xg_iload (pc := 61) C dX1_waitForLaterEvents_61 0 rfl ?_
      refine xg_sipush (pc := 63) (v := 4095) C dX1_waitForLaterEvents_63 (by decide) ?_
      refine xg_iand (pc := 66) C dX1_waitForLaterEvents_66 ?_
      refine xg_topi (pc := 67) (fun z7 ez7 => ?_)
      have hF := hF z7 ez7
      refine xg_istore (pc := 67) (lv2 := [(6, .int z7), (5, .int z6), (0, va_rf (some this)), (1, .int y1), (2, .int y2), (3, .int y3), (4, .int y4)]) C dX1_waitForLaterEvents_67 8 hnL (by decide) rfl ?_
      refine xg_iload (pc := 69) C dX1_waitForLaterEvents_69 1 rfl ?_
      refine xg_bipush (pc := 71) (v := 12) C dX1_waitForLaterEvents_71 (by decide) ?_
      refine xg_ishr (pc := 73) C dX1_waitForLaterEvents_73 ?_
      refine xg_iload (pc := 74) C dX1_waitForLaterEvents_74 0 rfl ?_
      refine xg_aload_n (pc := 76) C dX1_waitForLaterEvents_76 2 rfl ?_
      refine xg_getr (pc := 77) (C1 := RX1) (T1 := TX1) (ci := 1) (ref := "SandGlasses$Book") C inm_X1_waitForLaterEvents_1 rfl (by decide) 0 (by decide) rfl dX1_waitForLaterEvents_77 (List.mem_of_getElem? (i := 1) rfl) rfl rfl hthis ?_
      refine xg_geti (pc := 80) (C1 := RX10) (T1 := TX10) (ci := 10) (ref := "SandGlasses$Walk") C inm_X1_waitForLaterEvents_10 rfl (by decide) 4 (by decide) rfl dX1_waitForLaterEvents_80 (List.mem_of_getElem? (i := 2) rfl) rfl ha3 hka3 ?_
      refine xg_icmp_ge (pc := 83) 99 C dX1_waitForLaterEvents_83 (by decide) (fun hc => ?_) (fun hc => ?_)
      · have hF := hF.1 hc
        refine xg_ldc (pc := 99) (v := 1000000) C dX1_waitForLaterEvents_99 (List.mem_of_getElem? (i := 7) rfl) ?_
        refine xg_sub (lv2 := [(0, va_rf (some this)), (1, .int y1), (2, .int y2), (3, .int y3), (4, .int y4), (5, .int z6)]) [2, 3, 4, 5, 6, 1] rfl ?_
        exact hF
      · have hF := hF.2 hc
        refine xg_aload_n (pc := 86) C dX1_waitForLaterEvents_86 2 rfl ?_
        refine xg_getr (pc := 87) (C1 := RX1) (T1 := TX1) (ci := 1) (ref := "SandGlasses$Book") C inm_X1_waitForLaterEvents_1 rfl (by decide) 2 (by decide) rfl dX1_waitForLaterEvents_87 (List.mem_of_getElem? (i := 5) rfl) rfl rfl hthis ?_
        obtain ⟨a8, ha8, hka8, hF⟩ := hF
        refine xg_getr (pc := 90) (C1 := RX3) (T1 := TX3) (ci := 3) (ref := "SandGlasses$Costs") C inm_X1_waitForLaterEvents_3 rfl (by decide) 1 (by decide) rfl dX1_waitForLaterEvents_90 (List.mem_of_getElem? (i := 6) rfl) rfl ha8 hka8 ?_
        refine xg_iload (pc := 93) C dX1_waitForLaterEvents_93 0 rfl ?_
        obtain ⟨a9, ha9, hka9, hF⟩ := hF
        obtain ⟨hi, hF⟩ := hF
        refine xg_iald (pc := 95) C ha9 hka9 hi dX1_waitForLaterEvents_95 ?_
        refine xg_goto (pc := 96) 101 C dX1_waitForLaterEvents_96 (by decide) ?_
        refine xg_sub (lv2 := [(0, va_rf (some this)), (1, .int y1), (2, .int y2), (3, .int y3), (4, .int y4), (5, .int z6)]) [2, 3, 4, 5, 6, 1] rfl ?_
        exact hF
  · intro y1 y2 y3 y4 y5 s0 s1 h hF
    refine xg_iadd (pc := 101) C dX1_waitForLaterEvents_101 ?_
    refine xg_topi (pc := 102) (fun z10 ez10 => ?_)
    have hF := hF z10 ez10
    refine xg_istore (pc := 102) (lv2 := [(7, .int z10), (0, va_rf (some this)), (1, .int y1), (2, .int y2), (3, .int y3), (4, .int y4), (5, .int y5)]) C dX1_waitForLaterEvents_102 8 hnL (by decide) rfl ?_
    refine xg_iload (pc := 104) C dX1_waitForLaterEvents_104 6 rfl ?_
    refine xg_if_eq (pc := 106) 136 C dX1_waitForLaterEvents_106 (by decide) (fun hc => ?_) (fun hc => ?_)
    · have hF := hF.1 hc
      refine xg_sub (lv2 := [(0, va_rf (some this)), (1, .int y1), (2, .int y2), (3, .int y3), (4, .int y4)]) [1, 2, 3, 4, 5] rfl ?_
      exact hF
    · have hF := hF.2 hc
      refine xg_iload (pc := 109) C dX1_waitForLaterEvents_109 0 rfl ?_
      refine xg_aload_n (pc := 111) C dX1_waitForLaterEvents_111 1 rfl ?_
      refine xg_getr (pc := 112) (C1 := RX1) (T1 := TX1) (ci := 1) (ref := "SandGlasses$Book") C inm_X1_waitForLaterEvents_1 rfl (by decide) 2 (by decide) rfl dX1_waitForLaterEvents_112 (List.mem_of_getElem? (i := 5) rfl) rfl rfl hthis ?_
      obtain ⟨a11, ha11, hka11, hF⟩ := hF
      refine xg_getr (pc := 115) (C1 := RX3) (T1 := TX3) (ci := 3) (ref := "SandGlasses$Costs") C inm_X1_waitForLaterEvents_3 rfl (by decide) 1 (by decide) rfl dX1_waitForLaterEvents_115 (List.mem_of_getElem? (i := 6) rfl) rfl ha11 hka11 ?_
      refine xg_iload_n (pc := 118) C dX1_waitForLaterEvents_118 4 rfl ?_
      obtain ⟨a12, ha12, hka12, hF⟩ := hF
      obtain ⟨hi, hF⟩ := hF
      refine xg_iald (pc := 119) C ha12 hka12 hi dX1_waitForLaterEvents_119 ?_
      refine xg_icmp_ge (pc := 120) 136 C dX1_waitForLaterEvents_120 (by decide) (fun hc => ?_) (fun hc => ?_)
      · have hF := hF.1 hc
        refine xg_sub (lv2 := [(0, va_rf (some this)), (1, .int y1), (2, .int y2), (3, .int y3), (4, .int y4)]) [1, 2, 3, 4, 5] rfl ?_
        exact hF
      · have hF := hF.2 hc
        refine xg_aload_n (pc := 123) C dX1_waitForLaterEvents_123 1 rfl ?_
        refine xg_getr (pc := 124) (C1 := RX1) (T1 := TX1) (ci := 1) (ref := "SandGlasses$Book") C inm_X1_waitForLaterEvents_1 rfl (by decide) 2 (by decide) rfl dX1_waitForLaterEvents_124 (List.mem_of_getElem? (i := 5) rfl) rfl rfl hthis ?_
        refine xg_getr (pc := 127) (C1 := RX3) (T1 := TX3) (ci := 3) (ref := "SandGlasses$Costs") C inm_X1_waitForLaterEvents_3 rfl (by decide) 1 (by decide) rfl dX1_waitForLaterEvents_127 (List.mem_of_getElem? (i := 6) rfl) rfl ha11 hka11 ?_
        refine xg_iload_n (pc := 130) C dX1_waitForLaterEvents_130 4 rfl ?_
        refine xg_iload (pc := 131) C dX1_waitForLaterEvents_131 0 rfl ?_
        obtain ⟨hi, hF⟩ := hF
        refine xg_iast (pc := 133) C ha12 hka12 hi dX1_waitForLaterEvents_133 (fun h13 eh13 => ?_)
        have hF := hF h13 eh13
        refine xg_iconst (pc := 134) (v := 1) C dX1_waitForLaterEvents_134 (by decide) ?_
        refine xg_istore_n (pc := 135) (lv2 := [(1, .int 1), (7, .int z10), (0, va_rf (some this)), (2, .int y2), (3, .int y3), (4, .int y4), (5, .int y5)]) C dX1_waitForLaterEvents_135 8 hnL (by decide) rfl ?_
        refine xg_sub (lv2 := [(0, va_rf (some this)), (1, .int 1), (2, .int y2), (3, .int y3), (4, .int y4)]) [2, 0, 3, 4, 5] rfl ?_
        exact hF
  · intro y1 y2 y3 y4 h hF
    obtain ⟨z14, ez14⟩ : ∃ y : Int32, y = y4 + 1 := ⟨_, rfl⟩
    have hF := hF z14 ez14
    refine xg_iinc (pc := 136) (v := z14) (lv2 := [(4, .int z14), (0, va_rf (some this)), (1, .int y1), (2, .int y2), (3, .int y3)]) C dX1_waitForLaterEvents_136 4 rfl (by rw [ez14]; rfl) 8 hnL (by decide) rfl ?_
    refine xg_goto (pc := 139) 32 C dX1_waitForLaterEvents_139 (by decide) ?_
    refine xg_sub (lv2 := [(0, va_rf (some this)), (1, .int y1), (2, .int y2), (3, .int y3), (4, .int z14)]) [1, 2, 3, 4, 0] rfl ?_
    exact hF
  · skip
    refine xg_iconst (pc := 0) (v := 1) C dX1_waitForLaterEvents_0 (by decide) ?_
    refine xg_istore_n (pc := 1) (lv2 := [(1, .int 1), (0, va_rf (some this))]) C dX1_waitForLaterEvents_1 8 hnL (by decide) rfl ?_
    refine xg_iconst (pc := 2) (v := 0) C dX1_waitForLaterEvents_2 (by decide) ?_
    refine xg_istore_n (pc := 3) (lv2 := [(2, .int 0), (1, .int 1), (0, va_rf (some this))]) C dX1_waitForLaterEvents_3 8 hnL (by decide) rfl ?_
    refine xg_sub (lv2 := [(0, va_rf (some this)), (1, .int 1), (2, .int 0)]) [2, 1, 0] rfl ?_
    exact hF
def rm_X1_leastDone : Room := { frames := 2, cells := 0, slots := 0, locals := 51 }
theorem nd_X1_leastDone : yX1_leastDone.cls = RX1 ∧ yX1_leastDone.cls ≠ "java/lang/invoke/MethodHandle" ∧ yX1_leastDone.cls ≠ "java/lang/invoke/VarHandle" ∧ (parseMethodDescriptor yX1_leastDone.desc).map (fun d => d.parameters.length) = some 2 := by decide +kernel
theorem inm_X1_leastDone_1 : ∀ w ∈ u_ws RX1 TX1 (xg_N 1), w ∈ wsX1_leastDone := fun _ h9 => List.mem_cons_of_mem _ (List.mem_append_left _ (List.mem_append_left _ (List.mem_append_left _ (List.mem_append_right _ h9))))
theorem inm_X1_leastDone_3 : ∀ w ∈ u_ws RX3 TX3 (xg_N 3), w ∈ wsX1_leastDone := fun _ h9 => List.mem_cons_of_mem _ (List.mem_append_left _ (List.mem_append_left _ (List.mem_append_right _ h9)))
theorem inm_X1_leastDone_8 : ∀ w ∈ u_ws RX8 TX8 (xg_N 8), w ∈ wsX1_leastDone := fun _ h9 => List.mem_cons_of_mem _ (List.mem_append_left _ (List.mem_append_right _ h9))
theorem inm_X1_leastDone_10 : ∀ w ∈ u_ws RX10 TX10 (xg_N 10), w ∈ wsX1_leastDone := fun _ h9 => List.mem_cons_of_mem _ (List.mem_append_right _ h9)
set_option maxHeartbeats 4000000 in
set_option maxRecDepth 100000 in
theorem met_X1_leastDone (Y : xg_Y) (this : Nat) (x1 : Option Nat) (x2 : Int32) : xg_MI yX1_leastDone wsX1_leastDone rm_X1_leastDone Y (fun zs => [va_rf (some this), va_rf x1, .int x2]) (fun Q h => wp_X1_leastDone Y Q this x1 x2 h) := by
  refine xg_startI (cc := cX1_leastDone) (maxL := 6) (own := RX1) (by decide) rfl rfl (fun zs => by cases x1 <;> exact Nat.le_of_ble_eq_true rfl) (fun X Q h C hnL E hw => ?_)
  unfold wp_X1_leastDone at hw
  obtain ⟨hthis, hw⟩ := hw
  refine xg_sub (lv2 := [(0, va_rf (some this)), (1, va_rf x1), (2, .int x2)]) [0, 1, 2] (by cases x1 <;> rfl) ?_
  refine mg_use (hw (fun (y3 : Int32) (h : xg_H) => xg_W X 0 0 Y 31 [(0, va_rf (some this)), (1, va_rf x1), (3, .int y3)] [] h) (fun (h : xg_H) => xg_W X 0 0 Y 120 [(0, va_rf (some this))] [] h) (fun (y3 : Int32) (y4 : Int32) (y5 : Int32) (h : xg_H) => xg_W X 0 0 Y 63 [(0, va_rf (some this)), (1, va_rf x1), (3, .int y3), (4, .int y4), (5, .int y5)] [] h) ?_ ?_ ?_) (fun hF => ?_)
  · intro y3 h hF
    refine xg_iload_n (pc := 31) C dX1_leastDone_31 2 rfl ?_
    refine xg_if_lt (pc := 32) 120 C dX1_leastDone_32 (by decide) (fun hc => ?_) (fun hc => ?_)
    · have hF := hF.1 hc
      refine xg_sub (lv2 := [(0, va_rf (some this))]) [0] rfl ?_
      exact hF
    · have hF := hF.2 hc
      refine xg_iload_n (pc := 35) C dX1_leastDone_35 2 rfl ?_
      refine xg_aload_n (pc := 36) C dX1_leastDone_36 1 rfl ?_
      obtain ⟨a7, ha7, hka7, hF⟩ := hF
      refine xg_geti (pc := 37) (C1 := RX8) (T1 := TX8) (ci := 8) (ref := "SandGlasses$Text") C inm_X1_leastDone_8 rfl (by decide) 0 (by decide) rfl dX1_leastDone_37 (List.mem_of_getElem? (i := 5) rfl) rfl ha7 hka7 ?_
      refine xg_icmp_ge (pc := 40) 120 C dX1_leastDone_40 (by decide) (fun hc => ?_) (fun hc => ?_)
      · have hF := hF.1 hc
        refine xg_sub (lv2 := [(0, va_rf (some this))]) [0] rfl ?_
        exact hF
      · have hF := hF.2 hc
        refine xg_aload_n (pc := 43) C dX1_leastDone_43 1 rfl ?_
        refine xg_getr (pc := 44) (C1 := RX8) (T1 := TX8) (ci := 8) (ref := "SandGlasses$Text") C inm_X1_leastDone_8 rfl (by decide) 1 (by decide) rfl dX1_leastDone_44 (List.mem_of_getElem? (i := 6) rfl) rfl ha7 hka7 ?_
        refine xg_iload_n (pc := 47) C dX1_leastDone_47 2 rfl ?_
        obtain ⟨a8, ha8, hka8, hF⟩ := hF
        obtain ⟨hi, hF⟩ := hF
        refine xg_iald (pc := 48) C ha8 hka8 hi dX1_leastDone_48 ?_
        refine xg_topi (pc := 49) (fun z9 ez9 => ?_)
        have hF := hF z9 ez9
        refine xg_istore (pc := 49) (lv2 := [(4, .int z9), (0, va_rf (some this)), (1, va_rf x1), (3, .int y3)]) C dX1_leastDone_49 6 hnL (by decide) rfl ?_
        refine xg_aload_n (pc := 51) C dX1_leastDone_51 1 rfl ?_
        refine xg_getr (pc := 52) (C1 := RX1) (T1 := TX1) (ci := 1) (ref := "SandGlasses$Book") C inm_X1_leastDone_1 rfl (by decide) 2 (by decide) rfl dX1_leastDone_52 (List.mem_of_getElem? (i := 2) rfl) rfl rfl hthis ?_
        refine xg_iload (pc := 55) C dX1_leastDone_55 0 rfl ?_
        obtain ⟨a10, ha10, hka10, hF⟩ := hF
        refine xg_cvV (pc := 57) (C1 := RX3) (T1 := TX3) (ci := 3) C (fun zs => [.int z9]) ha10 hka10 (by decide) rfl (met_X3_workOut Y a10 z9) gX1_leastDone_X3_workOut rfl ⟨rfl, rfl⟩ nd_X3_workOut ⟨Nat.le_of_ble_eq_true rfl, Nat.le_of_ble_eq_true rfl⟩ rfl rfl (Nat.le_of_ble_eq_true rfl) ⟨Nat.zero_le _, Nat.zero_le _⟩ dX1_leastDone_57 hF (fun h11 hF => ?_)
        refine xg_iconst (pc := 60) (v := 0) C dX1_leastDone_60 (by decide) ?_
        refine xg_istore (pc := 61) (lv2 := [(5, .int 0), (4, .int z9), (0, va_rf (some this)), (1, va_rf x1), (3, .int y3)]) C dX1_leastDone_61 6 hnL (by decide) rfl ?_
        refine xg_sub (lv2 := [(0, va_rf (some this)), (1, va_rf x1), (3, .int y3), (4, .int z9), (5, .int 0)]) [2, 3, 4, 1, 0] rfl ?_
        exact hF
  · intro h hF
    refine xg_aload_n (pc := 120) C dX1_leastDone_120 0 rfl ?_
    refine xg_getr (pc := 121) (C1 := RX1) (T1 := TX1) (ci := 1) (ref := "SandGlasses$Book") C inm_X1_leastDone_1 rfl (by decide) 2 (by decide) rfl dX1_leastDone_121 (List.mem_of_getElem? (i := 2) rfl) rfl rfl hthis ?_
    obtain ⟨a12, ha12, hka12, hF⟩ := hF
    refine xg_getr (pc := 124) (C1 := RX3) (T1 := TX3) (ci := 3) (ref := "SandGlasses$Costs") C inm_X1_leastDone_3 rfl (by decide) 1 (by decide) rfl dX1_leastDone_124 (List.mem_of_getElem? (i := 4) rfl) rfl ha12 hka12 ?_
    refine xg_iconst (pc := 127) (v := 0) C dX1_leastDone_127 (by decide) ?_
    obtain ⟨a13, ha13, hka13, hF⟩ := hF
    obtain ⟨hi, hF⟩ := hF
    refine xg_iald (pc := 128) C ha13 hka13 hi dX1_leastDone_128 ?_
    refine xg_bipush (pc := 129) (v := 90) C dX1_leastDone_129 (by decide) ?_
    refine xg_icmp_gt (pc := 131) 146 C dX1_leastDone_131 (by decide) (fun hc => ?_) (fun hc => ?_)
    · have hF := hF.1 hc
      refine xg_iconst (pc := 146) (v := (-1)) C dX1_leastDone_146 (by decide) ?_
      exact xg_retI (pc := 147) C E dX1_leastDone_147 hF
    · have hF := hF.2 hc
      refine xg_aload_n (pc := 134) C dX1_leastDone_134 0 rfl ?_
      refine xg_getr (pc := 135) (C1 := RX1) (T1 := TX1) (ci := 1) (ref := "SandGlasses$Book") C inm_X1_leastDone_1 rfl (by decide) 2 (by decide) rfl dX1_leastDone_135 (List.mem_of_getElem? (i := 2) rfl) rfl rfl hthis ?_
      refine xg_getr (pc := 138) (C1 := RX3) (T1 := TX3) (ci := 3) (ref := "SandGlasses$Costs") C inm_X1_leastDone_3 rfl (by decide) 1 (by decide) rfl dX1_leastDone_138 (List.mem_of_getElem? (i := 4) rfl) rfl ha12 hka12 ?_
      refine xg_iconst (pc := 141) (v := 0) C dX1_leastDone_141 (by decide) ?_
      obtain ⟨hi, hF⟩ := hF
      refine xg_iald (pc := 142) C ha13 hka13 hi dX1_leastDone_142 ?_
      refine xg_goto (pc := 143) 147 C dX1_leastDone_143 (by decide) ?_
      exact xg_retI (pc := 147) C E dX1_leastDone_147 hF
  · intro y3 y4 y5 h hF
    refine xg_iload (pc := 63) C dX1_leastDone_63 4 rfl ?_
    refine xg_aload_n (pc := 65) C dX1_leastDone_65 0 rfl ?_
    refine xg_getr (pc := 66) (C1 := RX1) (T1 := TX1) (ci := 1) (ref := "SandGlasses$Book") C inm_X1_leastDone_1 rfl (by decide) 0 (by decide) rfl dX1_leastDone_66 (List.mem_of_getElem? (i := 7) rfl) rfl rfl hthis ?_
    obtain ⟨a14, ha14, hka14, hF⟩ := hF
    refine xg_geti (pc := 69) (C1 := RX10) (T1 := TX10) (ci := 10) (ref := "SandGlasses$Walk") C inm_X1_leastDone_10 rfl (by decide) 4 (by decide) rfl dX1_leastDone_69 (List.mem_of_getElem? (i := 8) rfl) rfl ha14 hka14 ?_
    refine xg_icmp_ge (pc := 72) 110 C dX1_leastDone_72 (by decide) (fun hc => ?_) (fun hc => ?_)
    · have hF := hF.1 hc
      refine xg_aload_n (pc := 110) C dX1_leastDone_110 0 rfl ?_
      refine xg_cvV (pc := 111) (C1 := RX1) (T1 := TX1) (ci := 1) C (fun zs => []) rfl hthis (by decide) rfl (met_X1_waitForLaterEvents Y this) gX1_leastDone_X1_waitForLaterEvents rfl ⟨rfl, rfl⟩ nd_X1_waitForLaterEvents ⟨Nat.le_of_ble_eq_true rfl, Nat.le_of_ble_eq_true rfl⟩ rfl rfl (Nat.le_of_ble_eq_true rfl) ⟨Nat.zero_le _, Nat.zero_le _⟩ dX1_leastDone_111 hF (fun h15 hF => ?_)
      obtain ⟨z16, ez16⟩ : ∃ y : Int32, y = y3 + (-1) := ⟨_, rfl⟩
      have hF := hF z16 ez16
      refine xg_iinc (pc := 114) (v := z16) (lv2 := [(3, .int z16), (0, va_rf (some this)), (1, va_rf x1), (4, .int y4), (5, .int y5)]) C dX1_leastDone_114 2 rfl (by rw [ez16]; rfl) 6 hnL (by decide) rfl ?_
      refine xg_goto (pc := 117) 31 C dX1_leastDone_117 (by decide) ?_
      refine xg_sub (lv2 := [(0, va_rf (some this)), (1, va_rf x1), (3, .int z16)]) [1, 2, 0] rfl ?_
      exact hF
    · have hF := hF.2 hc
      refine xg_aload_n (pc := 75) C dX1_leastDone_75 0 rfl ?_
      refine xg_getr (pc := 76) (C1 := RX1) (T1 := TX1) (ci := 1) (ref := "SandGlasses$Book") C inm_X1_leastDone_1 rfl (by decide) 2 (by decide) rfl dX1_leastDone_76 (List.mem_of_getElem? (i := 2) rfl) rfl rfl hthis ?_
      obtain ⟨a17, ha17, hka17, hF⟩ := hF
      refine xg_getr (pc := 79) (C1 := RX3) (T1 := TX3) (ci := 3) (ref := "SandGlasses$Costs") C inm_X1_leastDone_3 rfl (by decide) 1 (by decide) rfl dX1_leastDone_79 (List.mem_of_getElem? (i := 4) rfl) rfl ha17 hka17 ?_
      refine xg_iload (pc := 82) C dX1_leastDone_82 4 rfl ?_
      refine xg_ldc (pc := 84) (v := 1000000) C dX1_leastDone_84 (List.mem_of_getElem? (i := 9) rfl) ?_
      refine xg_iload (pc := 86) C dX1_leastDone_86 3 rfl ?_
      refine xg_aload_n (pc := 88) C dX1_leastDone_88 0 rfl ?_
      refine xg_getr (pc := 89) (C1 := RX1) (T1 := TX1) (ci := 1) (ref := "SandGlasses$Book") C inm_X1_leastDone_1 rfl (by decide) 2 (by decide) rfl dX1_leastDone_89 (List.mem_of_getElem? (i := 2) rfl) rfl rfl hthis ?_
      refine xg_iload (pc := 92) C dX1_leastDone_92 4 rfl ?_
      refine xg_iload (pc := 94) C dX1_leastDone_94 3 rfl ?_
      refine xg_cvI (pc := 96) (C1 := RX3) (T1 := TX3) (ci := 3) C (fun zs => [.int y5, .int y4]) ha17 hka17 (by decide) rfl (met_X3_of Y a17 y5 y4) gX1_leastDone_X3_of rfl ⟨rfl, rfl⟩ nd_X3_of ⟨Nat.le_of_ble_eq_true rfl, Nat.le_of_ble_eq_true rfl⟩ rfl rfl (by simp [xg_rf_cat, xg_cat_i, xg_cat_l, xg_cat_a]) ⟨Nat.zero_le _, Nat.zero_le _⟩ dX1_leastDone_96 hF (fun r19 h18 hF => ?_)
      refine xg_iadd (pc := 99) C dX1_leastDone_99 ?_
      refine xg_mmin (pc := 100) C (List.mem_of_getElem? (i := 10) rfl) (List.mem_of_getElem? (i := 11) rfl) (List.mem_of_getElem? (i := 12) rfl) (List.mem_of_getElem? (i := 13) rfl) (Nat.le_of_ble_eq_true rfl) (by simp [xg_rf_cat, xg_cat_i, xg_cat_l, xg_cat_a, rm_X1_leastDone]) (Nat.zero_le _) (Nat.zero_le _) dX1_leastDone_100 ?_
      refine xg_topi (pc := 103) (fun z20 ez20 => ?_)
      have hF := hF z20 ez20
      obtain ⟨a21, ha21, hka21, hF⟩ := hF
      obtain ⟨hi, hF⟩ := hF
      refine xg_iast (pc := 103) C ha21 hka21 hi dX1_leastDone_103 (fun h22 eh22 => ?_)
      have hF := hF h22 eh22
      obtain ⟨z23, ez23⟩ : ∃ y : Int32, y = y5 + 1 := ⟨_, rfl⟩
      have hF := hF z23 ez23
      refine xg_iinc (pc := 104) (v := z23) (lv2 := [(5, .int z23), (0, va_rf (some this)), (1, va_rf x1), (3, .int y3), (4, .int y4)]) C dX1_leastDone_104 4 rfl (by rw [ez23]; rfl) 6 hnL (by decide) rfl ?_
      refine xg_goto (pc := 107) 63 C dX1_leastDone_107 (by decide) ?_
      refine xg_sub (lv2 := [(0, va_rf (some this)), (1, va_rf x1), (3, .int y3), (4, .int y4), (5, .int z23)]) [1, 2, 3, 4, 0] rfl ?_
      exact hF
  · skip
    refine xg_aload_n (pc := 0) C dX1_leastDone_0 0 rfl ?_
    refine xg_iconst (pc := 1) (v := 0) C dX1_leastDone_1 (by decide) ?_
    refine xg_putz (pc := 2) (C1 := RX1) (T1 := TX1) (ci := 1) (ref := "SandGlasses$Book") C inm_X1_leastDone_1 rfl (by decide) tyX1 tyX1_ok nmX1 19 (by decide) rfl (Or.inl rfl) dX1_leastDone_2 (List.mem_of_getElem? (i := 1) rfl) rfl rfl (tyX1_ok 19 (by decide)) rfl hthis (fun h1 eh1 => ?_)
    have hF := hF h1 eh1
    refine xg_aload_n (pc := 5) C dX1_leastDone_5 0 rfl ?_
    refine xg_getr (pc := 6) (C1 := RX1) (T1 := TX1) (ci := 1) (ref := "SandGlasses$Book") C inm_X1_leastDone_1 rfl (by decide) 2 (by decide) rfl dX1_leastDone_6 (List.mem_of_getElem? (i := 2) rfl) rfl rfl hthis ?_
    obtain ⟨a2, ha2, hka2, hF⟩ := hF
    refine xg_getr (pc := 9) (C1 := RX3) (T1 := TX3) (ci := 3) (ref := "SandGlasses$Costs") C inm_X1_leastDone_3 rfl (by decide) 0 (by decide) rfl dX1_leastDone_9 (List.mem_of_getElem? (i := 3) rfl) rfl ha2 hka2 ?_
    refine xg_iconst (pc := 12) (v := 0) C dX1_leastDone_12 (by decide) ?_
    refine xg_csV (pc := 13) C (fun zs => [va_rf (xg_o h1 a2 0), .int 0]) (met_J7_fill_53178 Y (xg_o h1 a2 0) 0) gX1_leastDone_J7_fill_53178 rfl ⟨rfl, rfl⟩ nd_J7_fill_53178.2 ⟨Nat.le_of_ble_eq_true rfl, Nat.le_of_ble_eq_true rfl⟩ rfl rfl (Nat.le_of_ble_eq_true rfl) ⟨Nat.zero_le _, Nat.zero_le _⟩ dX1_leastDone_13 hF (fun h3 hF => ?_)
    refine xg_aload_n (pc := 16) C dX1_leastDone_16 0 rfl ?_
    refine xg_getr (pc := 17) (C1 := RX1) (T1 := TX1) (ci := 1) (ref := "SandGlasses$Book") C inm_X1_leastDone_1 rfl (by decide) 2 (by decide) rfl dX1_leastDone_17 (List.mem_of_getElem? (i := 2) rfl) rfl rfl hthis ?_
    obtain ⟨a4, ha4, hka4, hF⟩ := hF
    refine xg_getr (pc := 20) (C1 := RX3) (T1 := TX3) (ci := 3) (ref := "SandGlasses$Costs") C inm_X1_leastDone_3 rfl (by decide) 1 (by decide) rfl dX1_leastDone_20 (List.mem_of_getElem? (i := 4) rfl) rfl ha4 hka4 ?_
    refine xg_iconst (pc := 23) (v := 0) C dX1_leastDone_23 (by decide) ?_
    refine xg_csV (pc := 24) C (fun zs => [va_rf (xg_o h3 a4 1), .int 0]) (met_J7_fill_53178 Y (xg_o h3 a4 1) 0) gX1_leastDone_J7_fill_53178 rfl ⟨rfl, rfl⟩ nd_J7_fill_53178.2 ⟨Nat.le_of_ble_eq_true rfl, Nat.le_of_ble_eq_true rfl⟩ rfl rfl (Nat.le_of_ble_eq_true rfl) ⟨Nat.zero_le _, Nat.zero_le _⟩ dX1_leastDone_24 hF (fun h5 hF => ?_)
    refine xg_iload_n (pc := 27) C dX1_leastDone_27 2 rfl ?_
    refine xg_iconst (pc := 28) (v := 1) C dX1_leastDone_28 (by decide) ?_
    refine xg_isub (pc := 29) C dX1_leastDone_29 ?_
    refine xg_topi (pc := 30) (fun z6 ez6 => ?_)
    have hF := hF z6 ez6
    refine xg_istore_n (pc := 30) (lv2 := [(3, .int z6), (0, va_rf (some this)), (1, va_rf x1), (2, .int x2)]) C dX1_leastDone_30 6 hnL (by decide) rfl ?_
    refine xg_sub (lv2 := [(0, va_rf (some this)), (1, va_rf x1), (3, .int z6)]) [1, 2, 0] rfl ?_
    exact hF
def rm_X1_workOutPrices : Room := { frames := 2, cells := 0, slots := 0, locals := 51 }
theorem nd_X1_workOutPrices : yX1_workOutPrices.cls = RX1 ∧ yX1_workOutPrices.cls ≠ "java/lang/invoke/MethodHandle" ∧ yX1_workOutPrices.cls ≠ "java/lang/invoke/VarHandle" ∧ (parseMethodDescriptor yX1_workOutPrices.desc).map (fun d => d.parameters.length) = some 1 := by decide +kernel
theorem inm_X1_workOutPrices_1 : ∀ w ∈ u_ws RX1 TX1 (xg_N 1), w ∈ wsX1_workOutPrices := fun _ h9 => List.mem_cons_of_mem _ (List.mem_append_left _ (List.mem_append_left _ (List.mem_append_left _ (List.mem_append_right _ h9))))
theorem inm_X1_workOutPrices_3 : ∀ w ∈ u_ws RX3 TX3 (xg_N 3), w ∈ wsX1_workOutPrices := fun _ h9 => List.mem_cons_of_mem _ (List.mem_append_left _ (List.mem_append_right _ h9))
theorem inm_X1_workOutPrices_8 : ∀ w ∈ u_ws RX8 TX8 (xg_N 8), w ∈ wsX1_workOutPrices := fun _ h9 => List.mem_cons_of_mem _ (List.mem_append_left _ (List.mem_append_left _ (List.mem_append_right _ h9)))
set_option maxHeartbeats 4000000 in
set_option maxRecDepth 100000 in
theorem met_X1_workOutPrices (Y : xg_Y) (this : Nat) (x1 : Option Nat) : xg_MV yX1_workOutPrices wsX1_workOutPrices rm_X1_workOutPrices Y (fun zs => [va_rf (some this), va_rf x1]) (fun Q h => wp_X1_workOutPrices Y Q this x1 h) := by
  refine xg_startV (cc := cX1_workOutPrices) (maxL := 5) (own := RX1) (by decide) rfl rfl (fun zs => by cases x1 <;> exact Nat.le_of_ble_eq_true rfl) (fun X Q h C hnL E hw => ?_)
  unfold wp_X1_workOutPrices at hw
  obtain ⟨hthis, hw⟩ := hw
  refine xg_sub (lv2 := [(0, va_rf (some this)), (1, va_rf x1)]) [0, 1] (by cases x1 <;> rfl) ?_
  refine mg_use (hw (fun (y2 : Int32) (h : xg_H) => xg_W X 0 0 Y 2 [(0, va_rf (some this)), (1, va_rf x1), (2, .int y2)] [] h) (fun (y2 : Int32) (h : xg_H) => xg_W X 0 0 Y 94 [(0, va_rf (some this)), (2, .int y2)] [] h) (fun (y2 : Int32) (y3 : Int32) (y4 : Int32) (h : xg_H) => xg_W X 0 0 Y 13 [(0, va_rf (some this)), (1, va_rf x1), (2, .int y2), (3, .int y3), (4, .int y4)] [] h) (fun (y2 : Int32) (y4 : Int32) (s0 : Int32) (s1 : Int32) (h : xg_H) => xg_W X 0 0 Y 43 [(0, va_rf (some this)), (1, va_rf x1), (2, .int y2), (4, .int y4)] [.int s0, .int s1] h) ?_ ?_ ?_ ?_) (fun hF => ?_)
  · intro y2 h hF
    refine xg_iload_n (pc := 2) C dX1_workOutPrices_2 2 rfl ?_
    refine xg_bipush (pc := 3) (v := 16) C dX1_workOutPrices_3 (by decide) ?_
    refine xg_icmp_ge (pc := 5) 67 C dX1_workOutPrices_5 (by decide) (fun hc => ?_) (fun hc => ?_)
    · have hF := hF.1 hc
      refine xg_aload_n (pc := 67) C dX1_workOutPrices_67 0 rfl ?_
      refine xg_getr (pc := 68) (C1 := RX1) (T1 := TX1) (ci := 1) (ref := "SandGlasses$Book") C inm_X1_workOutPrices_1 rfl (by decide) 2 (by decide) rfl dX1_workOutPrices_68 (List.mem_of_getElem? (i := 3) rfl) rfl rfl hthis ?_
      obtain ⟨a1, ha1, hka1, hF⟩ := hF
      refine xg_getr (pc := 71) (C1 := RX3) (T1 := TX3) (ci := 3) (ref := "SandGlasses$Costs") C inm_X1_workOutPrices_3 rfl (by decide) 1 (by decide) rfl dX1_workOutPrices_71 (List.mem_of_getElem? (i := 5) rfl) rfl ha1 hka1 ?_
      refine xg_iconst (pc := 74) (v := 0) C dX1_workOutPrices_74 (by decide) ?_
      refine xg_csV (pc := 75) C (fun zs => [va_rf (xg_o h a1 1), .int 0]) (met_J7_fill_53178 Y (xg_o h a1 1) 0) gX1_workOutPrices_J7_fill_53178 rfl ⟨rfl, rfl⟩ nd_J7_fill_53178.2 ⟨Nat.le_of_ble_eq_true rfl, Nat.le_of_ble_eq_true rfl⟩ rfl rfl (Nat.le_of_ble_eq_true rfl) ⟨Nat.zero_le _, Nat.zero_le _⟩ dX1_workOutPrices_75 hF (fun h2 hF => ?_)
      refine xg_aload_n (pc := 78) C dX1_workOutPrices_78 0 rfl ?_
      refine xg_iconst (pc := 79) (v := 0) C dX1_workOutPrices_79 (by decide) ?_
      refine xg_putz (pc := 80) (C1 := RX1) (T1 := TX1) (ci := 1) (ref := "SandGlasses$Book") C inm_X1_workOutPrices_1 rfl (by decide) tyX1 tyX1_ok nmX1 19 (by decide) rfl (Or.inl rfl) dX1_workOutPrices_80 (List.mem_of_getElem? (i := 6) rfl) rfl rfl (tyX1_ok 19 (by decide)) rfl hthis (fun h3 eh3 => ?_)
      have hF := hF h3 eh3
      refine xg_aload_n (pc := 83) C dX1_workOutPrices_83 0 rfl ?_
      refine xg_getr (pc := 84) (C1 := RX1) (T1 := TX1) (ci := 1) (ref := "SandGlasses$Book") C inm_X1_workOutPrices_1 rfl (by decide) 2 (by decide) rfl dX1_workOutPrices_84 (List.mem_of_getElem? (i := 3) rfl) rfl rfl hthis ?_
      refine xg_bipush (pc := 87) (v := 30) C dX1_workOutPrices_87 (by decide) ?_
      obtain ⟨a4, ha4, hka4, hF⟩ := hF
      refine xg_cvV (pc := 89) (C1 := RX3) (T1 := TX3) (ci := 3) C (fun zs => [.int 30]) ha4 hka4 (by decide) rfl (met_X3_workOut Y a4 30) gX1_workOutPrices_X3_workOut rfl ⟨rfl, rfl⟩ nd_X3_workOut ⟨Nat.le_of_ble_eq_true rfl, Nat.le_of_ble_eq_true rfl⟩ rfl rfl (Nat.le_of_ble_eq_true rfl) ⟨Nat.zero_le _, Nat.zero_le _⟩ dX1_workOutPrices_89 hF (fun h5 hF => ?_)
      refine xg_iconst (pc := 92) (v := 1) C dX1_workOutPrices_92 (by decide) ?_
      refine xg_istore_n (pc := 93) (lv2 := [(2, .int 1), (0, va_rf (some this)), (1, va_rf x1)]) C dX1_workOutPrices_93 5 hnL (by decide) (by cases x1 <;> rfl) ?_
      refine xg_sub (lv2 := [(0, va_rf (some this)), (2, .int 1)]) [1, 0] rfl ?_
      exact hF
    · have hF := hF.2 hc
      refine xg_iconst (pc := 8) (v := 0) C dX1_workOutPrices_8 (by decide) ?_
      refine xg_istore_n (pc := 9) (lv2 := [(3, .int 0), (0, va_rf (some this)), (1, va_rf x1), (2, .int y2)]) C dX1_workOutPrices_9 5 hnL (by decide) rfl ?_
      refine xg_iconst (pc := 10) (v := 0) C dX1_workOutPrices_10 (by decide) ?_
      refine xg_istore (pc := 11) (lv2 := [(4, .int 0), (3, .int 0), (0, va_rf (some this)), (1, va_rf x1), (2, .int y2)]) C dX1_workOutPrices_11 5 hnL (by decide) rfl ?_
      refine xg_sub (lv2 := [(0, va_rf (some this)), (1, va_rf x1), (2, .int y2), (3, .int 0), (4, .int 0)]) [2, 3, 4, 1, 0] rfl ?_
      exact hF
  · intro y2 h hF
    refine xg_iload_n (pc := 94) C dX1_workOutPrices_94 1 rfl ?_
    refine xg_bipush (pc := 95) (v := 30) C dX1_workOutPrices_95 (by decide) ?_
    refine xg_icmp_gt (pc := 97) 121 C dX1_workOutPrices_97 (by decide) (fun hc => ?_) (fun hc => ?_)
    · have hF := hF.1 hc
      exact xg_retV (pc := 121) C E dX1_workOutPrices_121 hF
    · have hF := hF.2 hc
      refine xg_aload_n (pc := 100) C dX1_workOutPrices_100 0 rfl ?_
      refine xg_getr (pc := 101) (C1 := RX1) (T1 := TX1) (ci := 1) (ref := "SandGlasses$Book") C inm_X1_workOutPrices_1 rfl (by decide) 4 (by decide) rfl dX1_workOutPrices_101 (List.mem_of_getElem? (i := 7) rfl) rfl rfl hthis ?_
      refine xg_iload_n (pc := 104) C dX1_workOutPrices_104 1 rfl ?_
      refine xg_aload_n (pc := 105) C dX1_workOutPrices_105 0 rfl ?_
      refine xg_getr (pc := 106) (C1 := RX1) (T1 := TX1) (ci := 1) (ref := "SandGlasses$Book") C inm_X1_workOutPrices_1 rfl (by decide) 2 (by decide) rfl dX1_workOutPrices_106 (List.mem_of_getElem? (i := 3) rfl) rfl rfl hthis ?_
      refine xg_iconst (pc := 109) (v := 0) C dX1_workOutPrices_109 (by decide) ?_
      refine xg_iload_n (pc := 110) C dX1_workOutPrices_110 1 rfl ?_
      obtain ⟨a6, ha6, hka6, hF⟩ := hF
      refine xg_cvI (pc := 111) (C1 := RX3) (T1 := TX3) (ci := 3) C (fun zs => [.int 0, .int y2]) ha6 hka6 (by decide) rfl (met_X3_of Y a6 0 y2) gX1_workOutPrices_X3_of rfl ⟨rfl, rfl⟩ nd_X3_of ⟨Nat.le_of_ble_eq_true rfl, Nat.le_of_ble_eq_true rfl⟩ rfl rfl (by simp [xg_rf_cat, xg_cat_i, xg_cat_l, xg_cat_a]) ⟨Nat.zero_le _, Nat.zero_le _⟩ dX1_workOutPrices_111 hF (fun r8 h7 hF => ?_)
      obtain ⟨a9, ha9, hka9, hF⟩ := hF
      obtain ⟨hi, hF⟩ := hF
      refine xg_iast (pc := 114) C ha9 hka9 hi dX1_workOutPrices_114 (fun h10 eh10 => ?_)
      have hF := hF h10 eh10
      obtain ⟨z11, ez11⟩ : ∃ y : Int32, y = y2 + 1 := ⟨_, rfl⟩
      have hF := hF z11 ez11
      refine xg_iinc (pc := 115) (v := z11) (lv2 := [(2, .int z11), (0, va_rf (some this))]) C dX1_workOutPrices_115 1 rfl (by rw [ez11]; rfl) 5 hnL (by decide) rfl ?_
      refine xg_goto (pc := 118) 94 C dX1_workOutPrices_118 (by decide) ?_
      refine xg_sub (lv2 := [(0, va_rf (some this)), (2, .int z11)]) [1, 0] rfl ?_
      exact hF
  · intro y2 y3 y4 h hF
    refine xg_iload (pc := 13) C dX1_workOutPrices_13 4 rfl ?_
    refine xg_aload_n (pc := 15) C dX1_workOutPrices_15 0 rfl ?_
    refine xg_geti (pc := 16) (C1 := RX1) (T1 := TX1) (ci := 1) (ref := "SandGlasses$Book") C inm_X1_workOutPrices_1 rfl (by decide) 14 (by decide) rfl dX1_workOutPrices_16 (List.mem_of_getElem? (i := 1) rfl) rfl rfl hthis ?_
    refine xg_icmp_ge (pc := 19) 51 C dX1_workOutPrices_19 (by decide) (fun hc => ?_) (fun hc => ?_)
    · have hF := hF.1 hc
      refine xg_aload_n (pc := 51) C dX1_workOutPrices_51 0 rfl ?_
      refine xg_getr (pc := 52) (C1 := RX1) (T1 := TX1) (ci := 1) (ref := "SandGlasses$Book") C inm_X1_workOutPrices_1 rfl (by decide) 2 (by decide) rfl dX1_workOutPrices_52 (List.mem_of_getElem? (i := 3) rfl) rfl rfl hthis ?_
      obtain ⟨a12, ha12, hka12, hF⟩ := hF
      refine xg_getr (pc := 55) (C1 := RX3) (T1 := TX3) (ci := 3) (ref := "SandGlasses$Costs") C inm_X1_workOutPrices_3 rfl (by decide) 0 (by decide) rfl dX1_workOutPrices_55 (List.mem_of_getElem? (i := 4) rfl) rfl ha12 hka12 ?_
      refine xg_iload_n (pc := 58) C dX1_workOutPrices_58 2 rfl ?_
      refine xg_iload_n (pc := 59) C dX1_workOutPrices_59 3 rfl ?_
      obtain ⟨a13, ha13, hka13, hF⟩ := hF
      obtain ⟨hi, hF⟩ := hF
      refine xg_iast (pc := 60) C ha13 hka13 hi dX1_workOutPrices_60 (fun h14 eh14 => ?_)
      have hF := hF h14 eh14
      obtain ⟨z15, ez15⟩ : ∃ y : Int32, y = y2 + 1 := ⟨_, rfl⟩
      have hF := hF z15 ez15
      refine xg_iinc (pc := 61) (v := z15) (lv2 := [(2, .int z15), (0, va_rf (some this)), (1, va_rf x1), (3, .int y3), (4, .int y4)]) C dX1_workOutPrices_61 2 rfl (by rw [ez15]; rfl) 5 hnL (by decide) (by cases x1 <;> rfl) ?_
      refine xg_goto (pc := 64) 2 C dX1_workOutPrices_64 (by decide) ?_
      refine xg_sub (lv2 := [(0, va_rf (some this)), (1, va_rf x1), (2, .int z15)]) [1, 2, 0] rfl ?_
      exact hF
    · have hF := hF.2 hc
      refine xg_iload_n (pc := 22) C dX1_workOutPrices_22 3 rfl ?_
      refine xg_iload_n (pc := 23) C dX1_workOutPrices_23 2 rfl ?_
      refine xg_iload (pc := 24) C dX1_workOutPrices_24 4 rfl ?_
      refine xg_cnI (pc := 26) (host := "SandGlasses") C (fun zs => [.int y2, .int y4]) (by decide +kernel) (List.mem_of_getElem? (i := 9) rfl) (List.mem_of_getElem? (i := 8) rfl) (met_X11_has Y y2 y4) gX1_workOutPrices_X11_has_n143 rfl ⟨rfl, rfl⟩ nd_X11_has.2 ⟨Nat.le_of_ble_eq_true rfl, Nat.le_of_ble_eq_true rfl⟩ rfl rfl (Nat.le_of_ble_eq_true rfl) ⟨Nat.zero_le _, Nat.zero_le _⟩ dX1_workOutPrices_26 hF (fun r17 h16 hF => ?_)
      refine xg_if_eq (pc := 29) 42 C dX1_workOutPrices_29 (by decide) (fun hc => ?_) (fun hc => ?_)
      · have hF := hF.1 hc
        refine xg_iconst (pc := 42) (v := 0) C dX1_workOutPrices_42 (by decide) ?_
        refine xg_sub (lv2 := [(0, va_rf (some this)), (1, va_rf x1), (2, .int y2), (4, .int y4)]) [0, 1, 2, 4] rfl ?_
        exact hF
      · have hF := hF.2 hc
        refine xg_aload_n (pc := 32) C dX1_workOutPrices_32 1 rfl ?_
        obtain ⟨a18, ha18, hka18, hF⟩ := hF
        refine xg_getr (pc := 33) (C1 := RX8) (T1 := TX8) (ci := 8) (ref := "SandGlasses$Text") C inm_X1_workOutPrices_8 rfl (by decide) 3 (by decide) rfl dX1_workOutPrices_33 (List.mem_of_getElem? (i := 2) rfl) rfl ha18 hka18 ?_
        refine xg_iload (pc := 36) C dX1_workOutPrices_36 4 rfl ?_
        obtain ⟨a19, ha19, hka19, hF⟩ := hF
        obtain ⟨hi, hF⟩ := hF
        refine xg_iald (pc := 38) C ha19 hka19 hi dX1_workOutPrices_38 ?_
        refine xg_goto (pc := 39) 43 C dX1_workOutPrices_39 (by decide) ?_
        refine xg_sub (lv2 := [(0, va_rf (some this)), (1, va_rf x1), (2, .int y2), (4, .int y4)]) [0, 1, 2, 4] rfl ?_
        exact hF
  · intro y2 y4 s0 s1 h hF
    refine xg_iadd (pc := 43) C dX1_workOutPrices_43 ?_
    refine xg_topi (pc := 44) (fun z20 ez20 => ?_)
    have hF := hF z20 ez20
    refine xg_istore_n (pc := 44) (lv2 := [(3, .int z20), (0, va_rf (some this)), (1, va_rf x1), (2, .int y2), (4, .int y4)]) C dX1_workOutPrices_44 5 hnL (by decide) rfl ?_
    obtain ⟨z21, ez21⟩ : ∃ y : Int32, y = y4 + 1 := ⟨_, rfl⟩
    have hF := hF z21 ez21
    refine xg_iinc (pc := 45) (v := z21) (lv2 := [(4, .int z21), (3, .int z20), (0, va_rf (some this)), (1, va_rf x1), (2, .int y2)]) C dX1_workOutPrices_45 4 rfl (by rw [ez21]; rfl) 5 hnL (by decide) rfl ?_
    refine xg_goto (pc := 48) 13 C dX1_workOutPrices_48 (by decide) ?_
    refine xg_sub (lv2 := [(0, va_rf (some this)), (1, va_rf x1), (2, .int y2), (3, .int z20), (4, .int z21)]) [2, 3, 4, 1, 0] rfl ?_
    exact hF
  · skip
    refine xg_iconst (pc := 0) (v := 0) C dX1_workOutPrices_0 (by decide) ?_
    refine xg_istore_n (pc := 1) (lv2 := [(2, .int 0), (0, va_rf (some this)), (1, va_rf x1)]) C dX1_workOutPrices_1 5 hnL (by decide) (by cases x1 <;> rfl) ?_
    refine xg_sub (lv2 := [(0, va_rf (some this)), (1, va_rf x1), (2, .int 0)]) [1, 2, 0] rfl ?_
    exact hF
def rm_X1_leastPrice : Room := { frames := 3, cells := 0, slots := 0, locals := 75 }
theorem nd_X1_leastPrice : yX1_leastPrice.cls = RX1 ∧ yX1_leastPrice.cls ≠ "java/lang/invoke/MethodHandle" ∧ yX1_leastPrice.cls ≠ "java/lang/invoke/VarHandle" ∧ (parseMethodDescriptor yX1_leastPrice.desc).map (fun d => d.parameters.length) = some 2 := by decide +kernel
theorem inm_X1_leastPrice_1 : ∀ w ∈ u_ws RX1 TX1 (xg_N 1), w ∈ wsX1_leastPrice := fun _ h9 => List.mem_cons_of_mem _ (List.mem_append_left _ (List.mem_append_left _ (List.mem_append_left _ (List.mem_append_right _ h9))))
theorem inm_X1_leastPrice_8 : ∀ w ∈ u_ws RX8 TX8 (xg_N 8), w ∈ wsX1_leastPrice := fun _ h9 => List.mem_cons_of_mem _ (List.mem_append_left _ (List.mem_append_left _ (List.mem_append_right _ h9)))
set_option maxHeartbeats 4000000 in
set_option maxRecDepth 100000 in
theorem met_X1_leastPrice (Y : xg_Y) (this : Nat) (x1 : Option Nat) (x2 : Int32) : xg_MI yX1_leastPrice wsX1_leastPrice rm_X1_leastPrice Y (fun zs => [va_rf (some this), va_rf x1, .int x2]) (fun Q h => wp_X1_leastPrice Y Q this x1 x2 h) := by
  refine xg_startI (cc := cX1_leastPrice) (maxL := 5) (own := RX1) (by decide) rfl rfl (fun zs => by cases x1 <;> exact Nat.le_of_ble_eq_true rfl) (fun X Q h C hnL E hw => ?_)
  unfold wp_X1_leastPrice at hw
  obtain ⟨hthis, hw⟩ := hw
  refine xg_sub (lv2 := [(0, va_rf (some this)), (1, va_rf x1), (2, .int x2)]) [0, 1, 2] (by cases x1 <;> rfl) ?_
  refine mg_use (hw (fun (y3 : Int32) (y4 : Int32) (h : xg_H) => xg_W X 0 0 Y 5 [(0, va_rf (some this)), (1, va_rf x1), (2, .int x2), (3, .int y3), (4, .int y4)] [] h) (fun (h : xg_H) => xg_W X 0 0 Y 51 [(0, va_rf (some this)), (2, .int x2)] [] h) ?_ ?_) (fun hF => ?_)
  · intro y3 y4 h hF
    refine xg_iload (pc := 5) C dX1_leastPrice_5 4 rfl ?_
    refine xg_aload_n (pc := 7) C dX1_leastPrice_7 0 rfl ?_
    refine xg_geti (pc := 8) (C1 := RX1) (T1 := TX1) (ci := 1) (ref := "SandGlasses$Book") C inm_X1_leastPrice_1 rfl (by decide) 14 (by decide) rfl dX1_leastPrice_8 (List.mem_of_getElem? (i := 1) rfl) rfl rfl hthis ?_
    refine xg_icmp_ge (pc := 11) 33 C dX1_leastPrice_11 (by decide) (fun hc => ?_) (fun hc => ?_)
    · have hF := hF.1 hc
      refine xg_iload_n (pc := 33) C dX1_leastPrice_33 3 rfl ?_
      refine xg_aload_n (pc := 34) C dX1_leastPrice_34 0 rfl ?_
      refine xg_geti (pc := 35) (C1 := RX1) (T1 := TX1) (ci := 1) (ref := "SandGlasses$Book") C inm_X1_leastPrice_1 rfl (by decide) 15 (by decide) rfl dX1_leastPrice_35 (List.mem_of_getElem? (i := 3) rfl) rfl rfl hthis ?_
      refine xg_icmp_eq (pc := 38) 51 C dX1_leastPrice_38 (by decide) (fun hc => ?_) (fun hc => ?_)
      · have hF := hF.1 hc
        refine xg_sub (lv2 := [(0, va_rf (some this)), (2, .int x2)]) [0, 2] rfl ?_
        exact hF
      · have hF := hF.2 hc
        refine xg_aload_n (pc := 41) C dX1_leastPrice_41 0 rfl ?_
        refine xg_iload_n (pc := 42) C dX1_leastPrice_42 3 rfl ?_
        refine xg_puti (pc := 43) (C1 := RX1) (T1 := TX1) (ci := 1) (ref := "SandGlasses$Book") C inm_X1_leastPrice_1 rfl (by decide) tyX1 tyX1_ok nmX1 15 (by decide) rfl dX1_leastPrice_43 (List.mem_of_getElem? (i := 3) rfl) rfl rfl (tyX1_ok 15 (by decide)) rfl hthis (fun h1 eh1 => ?_)
        have hF := hF h1 eh1
        refine xg_aload_n (pc := 46) C dX1_leastPrice_46 0 rfl ?_
        refine xg_aload_n (pc := 47) C dX1_leastPrice_47 1 rfl ?_
        refine xg_cvV (pc := 48) (C1 := RX1) (T1 := TX1) (ci := 1) C (fun zs => [va_rf x1]) rfl hthis (by decide) rfl (met_X1_workOutPrices Y this x1) gX1_leastPrice_X1_workOutPrices rfl ⟨rfl, rfl⟩ nd_X1_workOutPrices ⟨Nat.le_of_ble_eq_true rfl, Nat.le_of_ble_eq_true rfl⟩ rfl rfl (Nat.le_of_ble_eq_true rfl) ⟨Nat.zero_le _, Nat.zero_le _⟩ dX1_leastPrice_48 hF (fun h2 hF => ?_)
        refine xg_sub (lv2 := [(0, va_rf (some this)), (2, .int x2)]) [0, 2] rfl ?_
        exact hF
    · have hF := hF.2 hc
      refine xg_iload_n (pc := 14) C dX1_leastPrice_14 3 rfl ?_
      refine xg_bipush (pc := 15) (v := 10) C dX1_leastPrice_15 (by decide) ?_
      refine xg_imul (pc := 17) C dX1_leastPrice_17 ?_
      refine xg_aload_n (pc := 18) C dX1_leastPrice_18 1 rfl ?_
      obtain ⟨a3, ha3, hka3, hF⟩ := hF
      refine xg_getr (pc := 19) (C1 := RX8) (T1 := TX8) (ci := 8) (ref := "SandGlasses$Text") C inm_X1_leastPrice_8 rfl (by decide) 3 (by decide) rfl dX1_leastPrice_19 (List.mem_of_getElem? (i := 2) rfl) rfl ha3 hka3 ?_
      refine xg_iload (pc := 22) C dX1_leastPrice_22 4 rfl ?_
      obtain ⟨a4, ha4, hka4, hF⟩ := hF
      obtain ⟨hi, hF⟩ := hF
      refine xg_iald (pc := 24) C ha4 hka4 hi dX1_leastPrice_24 ?_
      refine xg_iadd (pc := 25) C dX1_leastPrice_25 ?_
      refine xg_topi (pc := 26) (fun z5 ez5 => ?_)
      have hF := hF z5 ez5
      refine xg_istore_n (pc := 26) (lv2 := [(3, .int z5), (0, va_rf (some this)), (1, va_rf x1), (2, .int x2), (4, .int y4)]) C dX1_leastPrice_26 5 hnL (by decide) rfl ?_
      obtain ⟨z6, ez6⟩ : ∃ y : Int32, y = y4 + 1 := ⟨_, rfl⟩
      have hF := hF z6 ez6
      refine xg_iinc (pc := 27) (v := z6) (lv2 := [(4, .int z6), (3, .int z5), (0, va_rf (some this)), (1, va_rf x1), (2, .int x2)]) C dX1_leastPrice_27 4 rfl (by rw [ez6]; rfl) 5 hnL (by decide) rfl ?_
      refine xg_goto (pc := 30) 5 C dX1_leastPrice_30 (by decide) ?_
      refine xg_sub (lv2 := [(0, va_rf (some this)), (1, va_rf x1), (2, .int x2), (3, .int z5), (4, .int z6)]) [2, 3, 4, 1, 0] rfl ?_
      exact hF
  · intro h hF
    refine xg_aload_n (pc := 51) C dX1_leastPrice_51 0 rfl ?_
    refine xg_getr (pc := 52) (C1 := RX1) (T1 := TX1) (ci := 1) (ref := "SandGlasses$Book") C inm_X1_leastPrice_1 rfl (by decide) 4 (by decide) rfl dX1_leastPrice_52 (List.mem_of_getElem? (i := 4) rfl) rfl rfl hthis ?_
    refine xg_iload_n (pc := 55) C dX1_leastPrice_55 1 rfl ?_
    obtain ⟨a7, ha7, hka7, hF⟩ := hF
    obtain ⟨hi, hF⟩ := hF
    refine xg_iald (pc := 56) C ha7 hka7 hi dX1_leastPrice_56 ?_
    exact xg_retI (pc := 57) C E dX1_leastPrice_57 hF
  · skip
    refine xg_iconst (pc := 0) (v := 0) C dX1_leastPrice_0 (by decide) ?_
    refine xg_istore_n (pc := 1) (lv2 := [(3, .int 0), (0, va_rf (some this)), (1, va_rf x1), (2, .int x2)]) C dX1_leastPrice_1 5 hnL (by decide) rfl ?_
    refine xg_iconst (pc := 2) (v := 0) C dX1_leastPrice_2 (by decide) ?_
    refine xg_istore (pc := 3) (lv2 := [(4, .int 0), (3, .int 0), (0, va_rf (some this)), (1, va_rf x1), (2, .int x2)]) C dX1_leastPrice_3 5 hnL (by decide) rfl ?_
    refine xg_sub (lv2 := [(0, va_rf (some this)), (1, va_rf x1), (2, .int x2), (3, .int 0), (4, .int 0)]) [2, 3, 4, 1, 0] rfl ?_
    exact hF
def rm_X1_leastSpan : Room := { frames := 3, cells := 0, slots := 0, locals := 74 }
theorem nd_X1_leastSpan : yX1_leastSpan.cls = RX1 ∧ yX1_leastSpan.cls ≠ "java/lang/invoke/MethodHandle" ∧ yX1_leastSpan.cls ≠ "java/lang/invoke/VarHandle" ∧ (parseMethodDescriptor yX1_leastSpan.desc).map (fun d => d.parameters.length) = some 1 := by decide +kernel
theorem inm_X1_leastSpan_1 : ∀ w ∈ u_ws RX1 TX1 (xg_N 1), w ∈ wsX1_leastSpan := fun _ h9 => List.mem_cons_of_mem _ (List.mem_append_left _ (List.mem_append_left _ (List.mem_append_right _ h9)))
set_option maxHeartbeats 4000000 in
set_option maxRecDepth 100000 in
theorem met_X1_leastSpan (Y : xg_Y) (this : Nat) (x1 : Int32) : xg_MI yX1_leastSpan wsX1_leastSpan rm_X1_leastSpan Y (fun zs => [va_rf (some this), .int x1]) (fun Q h => wp_X1_leastSpan Y Q this x1 h) := by
  refine xg_startI (cc := cX1_leastSpan) (maxL := 2) (own := RX1) (by decide) rfl rfl (fun zs => Nat.le_of_ble_eq_true rfl) (fun X Q h C hnL E hw => ?_)
  unfold wp_X1_leastSpan at hw
  obtain ⟨hthis, hw⟩ := hw
  refine xg_sub (lv2 := [(0, va_rf (some this)), (1, .int x1)]) [0, 1] rfl ?_
  refine mg_use (hw (fun (h : xg_H) => xg_W X 0 0 Y 11 [(0, va_rf (some this)), (1, .int x1)] [] h) ?_) (fun hF => ?_)
  · intro h hF
    refine xg_aload_n (pc := 11) C dX1_leastSpan_11 0 rfl ?_
    refine xg_getr (pc := 12) (C1 := RX1) (T1 := TX1) (ci := 1) (ref := "SandGlasses$Book") C inm_X1_leastSpan_1 rfl (by decide) 5 (by decide) rfl dX1_leastSpan_12 (List.mem_of_getElem? (i := 2) rfl) rfl rfl hthis ?_
    refine xg_iload_n (pc := 15) C dX1_leastSpan_15 1 rfl ?_
    obtain ⟨a2, ha2, hka2, hF⟩ := hF
    obtain ⟨hi, hF⟩ := hF
    refine xg_iald (pc := 16) C ha2 hka2 hi dX1_leastSpan_16 ?_
    refine xg_bipush (pc := 17) (v := 30) C dX1_leastSpan_17 (by decide) ?_
    refine xg_icmp_gt (pc := 19) 31 C dX1_leastSpan_19 (by decide) (fun hc => ?_) (fun hc => ?_)
    · have hF := hF.1 hc
      refine xg_iconst (pc := 31) (v := (-1)) C dX1_leastSpan_31 (by decide) ?_
      exact xg_retI (pc := 32) C E dX1_leastSpan_32 hF
    · have hF := hF.2 hc
      refine xg_aload_n (pc := 22) C dX1_leastSpan_22 0 rfl ?_
      refine xg_getr (pc := 23) (C1 := RX1) (T1 := TX1) (ci := 1) (ref := "SandGlasses$Book") C inm_X1_leastSpan_1 rfl (by decide) 5 (by decide) rfl dX1_leastSpan_23 (List.mem_of_getElem? (i := 2) rfl) rfl rfl hthis ?_
      refine xg_iload_n (pc := 26) C dX1_leastSpan_26 1 rfl ?_
      obtain ⟨hi, hF⟩ := hF
      refine xg_iald (pc := 27) C ha2 hka2 hi dX1_leastSpan_27 ?_
      refine xg_goto (pc := 28) 32 C dX1_leastSpan_28 (by decide) ?_
      exact xg_retI (pc := 32) C E dX1_leastSpan_32 hF
  · skip
    refine xg_aload_n (pc := 0) C dX1_leastSpan_0 0 rfl ?_
    refine xg_geti (pc := 1) (C1 := RX1) (T1 := TX1) (ci := 1) (ref := "SandGlasses$Book") C inm_X1_leastSpan_1 rfl (by decide) 17 (by decide) rfl dX1_leastSpan_1 (List.mem_of_getElem? (i := 1) rfl) rfl rfl hthis ?_
    refine xg_if_ne (pc := 4) 11 C dX1_leastSpan_4 (by decide) (fun hc => ?_) (fun hc => ?_)
    · have hF := hF.1 hc
      exact hF
    · have hF := hF.2 hc
      refine xg_aload_n (pc := 7) C dX1_leastSpan_7 0 rfl ?_
      refine xg_cvV (pc := 8) (C1 := RX1) (T1 := TX1) (ci := 1) C (fun zs => []) rfl hthis (by decide) rfl (met_X1_knowTurns Y this) gX1_leastSpan_X1_knowTurns rfl ⟨rfl, rfl⟩ nd_X1_knowTurns ⟨Nat.le_of_ble_eq_true rfl, Nat.le_of_ble_eq_true rfl⟩ rfl rfl (Nat.le_of_ble_eq_true rfl) ⟨Nat.zero_le _, Nat.zero_le _⟩ dX1_leastSpan_8 hF (fun h1 hF => ?_)
      exact hF
def rm_X1_longestStill : Room := { frames := 1, cells := 0, slots := 0, locals := 24 }
theorem nd_X1_longestStill : yX1_longestStill.cls = RX1 ∧ yX1_longestStill.cls ≠ "java/lang/invoke/MethodHandle" ∧ yX1_longestStill.cls ≠ "java/lang/invoke/VarHandle" ∧ (parseMethodDescriptor yX1_longestStill.desc).map (fun d => d.parameters.length) = some 0 := by decide +kernel
theorem inm_X1_longestStill_1 : ∀ w ∈ u_ws RX1 TX1 (xg_N 1), w ∈ wsX1_longestStill := fun _ h9 => List.mem_cons_of_mem _ (List.mem_append_left _ (List.mem_append_right _ h9))
theorem inm_X1_longestStill_10 : ∀ w ∈ u_ws RX10 TX10 (xg_N 10), w ∈ wsX1_longestStill := fun _ h9 => List.mem_cons_of_mem _ (List.mem_append_right _ h9)
set_option maxHeartbeats 4000000 in
set_option maxRecDepth 100000 in
theorem met_X1_longestStill (Y : xg_Y) (this : Nat) : xg_MI yX1_longestStill wsX1_longestStill rm_X1_longestStill Y (fun zs => [va_rf (some this)]) (fun Q h => wp_X1_longestStill Y Q this h) := by
  refine xg_startI (cc := cX1_longestStill) (maxL := 4) (own := RX1) (by decide) rfl rfl (fun zs => Nat.le_of_ble_eq_true rfl) (fun X Q h C hnL E hw => ?_)
  unfold wp_X1_longestStill at hw
  obtain ⟨hthis, hw⟩ := hw
  refine xg_sub (lv2 := [(0, va_rf (some this))]) [0] rfl ?_
  refine mg_use (hw (fun (y1 : Int32) (y2 : Int32) (h : xg_H) => xg_W X 0 0 Y 4 [(0, va_rf (some this)), (1, .int y1), (2, .int y2)] [] h) (fun (y1 : Int32) (y2 : Int32) (y3 : Int32) (h : xg_H) => xg_W X 0 0 Y 17 [(0, va_rf (some this)), (1, .int y1), (2, .int y2), (3, .int y3)] [] h) (fun (y1 : Int32) (y2 : Int32) (h : xg_H) => xg_W X 0 0 Y 68 [(0, va_rf (some this)), (1, .int y1), (2, .int y2)] [] h) ?_ ?_ ?_) (fun hF => ?_)
  · intro y1 y2 h hF
    refine xg_iload_n (pc := 4) C dX1_longestStill_4 2 rfl ?_
    refine xg_aload_n (pc := 5) C dX1_longestStill_5 0 rfl ?_
    refine xg_getr (pc := 6) (C1 := RX1) (T1 := TX1) (ci := 1) (ref := "SandGlasses$Book") C inm_X1_longestStill_1 rfl (by decide) 0 (by decide) rfl dX1_longestStill_6 (List.mem_of_getElem? (i := 1) rfl) rfl rfl hthis ?_
    obtain ⟨a1, ha1, hka1, hF⟩ := hF
    refine xg_geti (pc := 9) (C1 := RX10) (T1 := TX10) (ci := 10) (ref := "SandGlasses$Walk") C inm_X1_longestStill_10 rfl (by decide) 4 (by decide) rfl dX1_longestStill_9 (List.mem_of_getElem? (i := 2) rfl) rfl ha1 hka1 ?_
    refine xg_icmp_ge (pc := 12) 74 C dX1_longestStill_12 (by decide) (fun hc => ?_) (fun hc => ?_)
    · have hF := hF.1 hc
      refine xg_iload_n (pc := 74) C dX1_longestStill_74 1 rfl ?_
      exact xg_retI (pc := 75) C E dX1_longestStill_75 hF
    · have hF := hF.2 hc
      refine xg_iconst (pc := 15) (v := 0) C dX1_longestStill_15 (by decide) ?_
      refine xg_istore_n (pc := 16) (lv2 := [(3, .int 0), (0, va_rf (some this)), (1, .int y1), (2, .int y2)]) C dX1_longestStill_16 4 hnL (by decide) rfl ?_
      refine xg_sub (lv2 := [(0, va_rf (some this)), (1, .int y1), (2, .int y2), (3, .int 0)]) [1, 2, 3, 0] rfl ?_
      exact hF
  · intro y1 y2 y3 h hF
    refine xg_iload_n (pc := 17) C dX1_longestStill_17 3 rfl ?_
    refine xg_aload_n (pc := 18) C dX1_longestStill_18 0 rfl ?_
    refine xg_getr (pc := 19) (C1 := RX1) (T1 := TX1) (ci := 1) (ref := "SandGlasses$Book") C inm_X1_longestStill_1 rfl (by decide) 0 (by decide) rfl dX1_longestStill_19 (List.mem_of_getElem? (i := 1) rfl) rfl rfl hthis ?_
    obtain ⟨a2, ha2, hka2, hF⟩ := hF
    refine xg_geti (pc := 22) (C1 := RX10) (T1 := TX10) (ci := 10) (ref := "SandGlasses$Walk") C inm_X1_longestStill_10 rfl (by decide) 5 (by decide) rfl dX1_longestStill_22 (List.mem_of_getElem? (i := 3) rfl) rfl ha2 hka2 ?_
    refine xg_icmp_ge (pc := 25) 68 C dX1_longestStill_25 (by decide) (fun hc => ?_) (fun hc => ?_)
    · have hF := hF.1 hc
      refine xg_sub (lv2 := [(0, va_rf (some this)), (1, .int y1), (2, .int y2)]) [0, 1, 2] rfl ?_
      exact hF
    · have hF := hF.2 hc
      refine xg_aload_n (pc := 28) C dX1_longestStill_28 0 rfl ?_
      refine xg_getr (pc := 29) (C1 := RX1) (T1 := TX1) (ci := 1) (ref := "SandGlasses$Book") C inm_X1_longestStill_1 rfl (by decide) 0 (by decide) rfl dX1_longestStill_29 (List.mem_of_getElem? (i := 1) rfl) rfl rfl hthis ?_
      refine xg_getr (pc := 32) (C1 := RX10) (T1 := TX10) (ci := 10) (ref := "SandGlasses$Walk") C inm_X1_longestStill_10 rfl (by decide) 1 (by decide) rfl dX1_longestStill_32 (List.mem_of_getElem? (i := 4) rfl) rfl ha2 hka2 ?_
      refine xg_iload_n (pc := 35) C dX1_longestStill_35 2 rfl ?_
      obtain ⟨a3, ha3, hka3, hF⟩ := hF
      obtain ⟨hi, hF⟩ := hF
      refine xg_iald (pc := 36) C ha3 hka3 hi dX1_longestStill_36 ?_
      refine xg_if_eq (pc := 37) 68 C dX1_longestStill_37 (by decide) (fun hc => ?_) (fun hc => ?_)
      · have hF := hF.1 hc
        refine xg_sub (lv2 := [(0, va_rf (some this)), (1, .int y1), (2, .int y2)]) [0, 1, 2] rfl ?_
        exact hF
      · have hF := hF.2 hc
        refine xg_iload_n (pc := 40) C dX1_longestStill_40 1 rfl ?_
        refine xg_aload_n (pc := 41) C dX1_longestStill_41 0 rfl ?_
        refine xg_getr (pc := 42) (C1 := RX1) (T1 := TX1) (ci := 1) (ref := "SandGlasses$Book") C inm_X1_longestStill_1 rfl (by decide) 0 (by decide) rfl dX1_longestStill_42 (List.mem_of_getElem? (i := 1) rfl) rfl rfl hthis ?_
        refine xg_getr (pc := 45) (C1 := RX10) (T1 := TX10) (ci := 10) (ref := "SandGlasses$Walk") C inm_X1_longestStill_10 rfl (by decide) 3 (by decide) rfl dX1_longestStill_45 (List.mem_of_getElem? (i := 5) rfl) rfl ha2 hka2 ?_
        refine xg_iload_n (pc := 48) C dX1_longestStill_48 2 rfl ?_
        refine xg_bipush (pc := 49) (v := 16) C dX1_longestStill_49 (by decide) ?_
        refine xg_imul (pc := 51) C dX1_longestStill_51 ?_
        refine xg_iload_n (pc := 52) C dX1_longestStill_52 3 rfl ?_
        refine xg_iadd (pc := 53) C dX1_longestStill_53 ?_
        obtain ⟨a4, ha4, hka4, hF⟩ := hF
        obtain ⟨hi, hF⟩ := hF
        refine xg_iald (pc := 54) C ha4 hka4 hi dX1_longestStill_54 ?_
        refine xg_bipush (pc := 55) (v := 12) C dX1_longestStill_55 (by decide) ?_
        refine xg_ishr (pc := 57) C dX1_longestStill_57 ?_
        refine xg_mmax (pc := 58) C (List.mem_of_getElem? (i := 6) rfl) (List.mem_of_getElem? (i := 7) rfl) (List.mem_of_getElem? (i := 8) rfl) (List.mem_of_getElem? (i := 9) rfl) (Nat.le_of_ble_eq_true rfl) (Nat.le_of_ble_eq_true rfl) (Nat.zero_le _) (Nat.zero_le _) dX1_longestStill_58 ?_
        refine xg_topi (pc := 61) (fun z5 ez5 => ?_)
        have hF := hF z5 ez5
        refine xg_istore_n (pc := 61) (lv2 := [(1, .int z5), (0, va_rf (some this)), (2, .int y2), (3, .int y3)]) C dX1_longestStill_61 4 hnL (by decide) rfl ?_
        obtain ⟨z6, ez6⟩ : ∃ y : Int32, y = y3 + 1 := ⟨_, rfl⟩
        have hF := hF z6 ez6
        refine xg_iinc (pc := 62) (v := z6) (lv2 := [(3, .int z6), (1, .int z5), (0, va_rf (some this)), (2, .int y2)]) C dX1_longestStill_62 3 rfl (by rw [ez6]; rfl) 4 hnL (by decide) rfl ?_
        refine xg_goto (pc := 65) 17 C dX1_longestStill_65 (by decide) ?_
        refine xg_sub (lv2 := [(0, va_rf (some this)), (1, .int z5), (2, .int y2), (3, .int z6)]) [2, 1, 3, 0] rfl ?_
        exact hF
  · intro y1 y2 h hF
    obtain ⟨z7, ez7⟩ : ∃ y : Int32, y = y2 + 1 := ⟨_, rfl⟩
    have hF := hF z7 ez7
    refine xg_iinc (pc := 68) (v := z7) (lv2 := [(2, .int z7), (0, va_rf (some this)), (1, .int y1)]) C dX1_longestStill_68 2 rfl (by rw [ez7]; rfl) 4 hnL (by decide) rfl ?_
    refine xg_goto (pc := 71) 4 C dX1_longestStill_71 (by decide) ?_
    refine xg_sub (lv2 := [(0, va_rf (some this)), (1, .int y1), (2, .int z7)]) [1, 2, 0] rfl ?_
    exact hF
  · skip
    refine xg_iconst (pc := 0) (v := 0) C dX1_longestStill_0 (by decide) ?_
    refine xg_istore_n (pc := 1) (lv2 := [(1, .int 0), (0, va_rf (some this))]) C dX1_longestStill_1 4 hnL (by decide) rfl ?_
    refine xg_iconst (pc := 2) (v := 0) C dX1_longestStill_2 (by decide) ?_
    refine xg_istore_n (pc := 3) (lv2 := [(2, .int 0), (1, .int 0), (0, va_rf (some this))]) C dX1_longestStill_3 4 hnL (by decide) rfl ?_
    refine xg_sub (lv2 := [(0, va_rf (some this)), (1, .int 0), (2, .int 0)]) [2, 1, 0] rfl ?_
    exact hF
def rm_X1_luckOf : Room := { frames := 0, cells := 0, slots := 0, locals := 0 }
theorem nd_X1_luckOf : yX1_luckOf.cls = RX1 ∧ yX1_luckOf.cls ≠ "java/lang/invoke/MethodHandle" ∧ yX1_luckOf.cls ≠ "java/lang/invoke/VarHandle" ∧ (parseMethodDescriptor yX1_luckOf.desc).map (fun d => d.parameters.length) = some 2 := by decide +kernel
theorem inm_X1_luckOf_1 : ∀ w ∈ u_ws RX1 TX1 (xg_N 1), w ∈ wsX1_luckOf := fun _ h9 => List.mem_cons_of_mem _ (List.mem_append_left _ (List.mem_append_right _ h9))
theorem inm_X1_luckOf_10 : ∀ w ∈ u_ws RX10 TX10 (xg_N 10), w ∈ wsX1_luckOf := fun _ h9 => List.mem_cons_of_mem _ (List.mem_append_right _ h9)
set_option maxHeartbeats 4000000 in
set_option maxRecDepth 100000 in
theorem met_X1_luckOf (Y : xg_Y) (this : Nat) (x1 : Int32) (x2 : Int32) : xg_ML yX1_luckOf wsX1_luckOf rm_X1_luckOf Y (fun zs => [va_rf (some this), .int x1, .int x2]) (fun Q h => wp_X1_luckOf Y Q this x1 x2 h) := by
  refine xg_startL (cc := cX1_luckOf) (maxL := 12) (own := RX1) (by decide) rfl rfl (fun zs => Nat.le_of_ble_eq_true rfl) (fun X Q h C hnL E hw => ?_)
  unfold wp_X1_luckOf at hw
  obtain ⟨hthis, hw⟩ := hw
  refine xg_sub (lv2 := [(0, va_rf (some this)), (1, .int x1), (2, .int x2)]) [0, 1, 2] rfl ?_
  refine mg_use (hw (fun (y3 : Int64) (y5 : Int32) (h : xg_H) => xg_W X 0 0 Y 5 [(0, va_rf (some this)), (1, .int x1), (2, .int x2), (3, .long y3), (5, .int y5)] [] h) (fun (y3 : Int64) (y5 : Int32) (h : xg_H) => xg_W X 0 0 Y 123 [(0, va_rf (some this)), (1, .int x1), (2, .int x2), (3, .long y3), (5, .int y5)] [] h) (fun (y3 : Int64) (y5 : Int32) (y7 : Int32) (s0 : Int64) (h : xg_H) => xg_W X 0 0 Y 106 [(0, va_rf (some this)), (1, .int x1), (2, .int x2), (3, .long y3), (5, .int y5), (7, .int y7)] [.long s0] h) ?_ ?_ ?_) (fun hF => ?_)
  · intro y3 y5 h hF
    refine xg_iload (pc := 5) C dX1_luckOf_5 4 rfl ?_
    refine xg_aload_n (pc := 7) C dX1_luckOf_7 0 rfl ?_
    refine xg_getr (pc := 8) (C1 := RX1) (T1 := TX1) (ci := 1) (ref := "SandGlasses$Book") C inm_X1_luckOf_1 rfl (by decide) 0 (by decide) rfl dX1_luckOf_8 (List.mem_of_getElem? (i := 1) rfl) rfl rfl hthis ?_
    obtain ⟨a1, ha1, hka1, hF⟩ := hF
    refine xg_geti (pc := 11) (C1 := RX10) (T1 := TX10) (ci := 10) (ref := "SandGlasses$Walk") C inm_X1_luckOf_10 rfl (by decide) 5 (by decide) rfl dX1_luckOf_11 (List.mem_of_getElem? (i := 2) rfl) rfl ha1 hka1 ?_
    refine xg_icmp_ge (pc := 14) 129 C dX1_luckOf_14 (by decide) (fun hc => ?_) (fun hc => ?_)
    · have hF := hF.1 hc
      refine xg_lload_n (pc := 129) C dX1_luckOf_129 3 rfl ?_
      exact xg_retL (pc := 130) C E dX1_luckOf_130 hF
    · have hF := hF.2 hc
      refine xg_aload_n (pc := 17) C dX1_luckOf_17 0 rfl ?_
      refine xg_getr (pc := 18) (C1 := RX1) (T1 := TX1) (ci := 1) (ref := "SandGlasses$Book") C inm_X1_luckOf_1 rfl (by decide) 0 (by decide) rfl dX1_luckOf_18 (List.mem_of_getElem? (i := 1) rfl) rfl rfl hthis ?_
      refine xg_getr (pc := 21) (C1 := RX10) (T1 := TX10) (ci := 10) (ref := "SandGlasses$Walk") C inm_X1_luckOf_10 rfl (by decide) 3 (by decide) rfl dX1_luckOf_21 (List.mem_of_getElem? (i := 3) rfl) rfl ha1 hka1 ?_
      refine xg_iload_n (pc := 24) C dX1_luckOf_24 1 rfl ?_
      refine xg_bipush (pc := 25) (v := 16) C dX1_luckOf_25 (by decide) ?_
      refine xg_imul (pc := 27) C dX1_luckOf_27 ?_
      refine xg_iload (pc := 28) C dX1_luckOf_28 4 rfl ?_
      refine xg_iadd (pc := 30) C dX1_luckOf_30 ?_
      obtain ⟨a2, ha2, hka2, hF⟩ := hF
      obtain ⟨hi, hF⟩ := hF
      refine xg_iald (pc := 31) C ha2 hka2 hi dX1_luckOf_31 ?_
      refine xg_topi (pc := 32) (fun z3 ez3 => ?_)
      have hF := hF z3 ez3
      refine xg_istore (pc := 32) (lv2 := [(6, .int z3), (0, va_rf (some this)), (1, .int x1), (2, .int x2), (3, .long y3), (5, .int y5)]) C dX1_luckOf_32 12 hnL (by decide) rfl ?_
      refine xg_iload (pc := 34) C dX1_luckOf_34 0 rfl ?_
      refine xg_bipush (pc := 36) (v := 12) C dX1_luckOf_36 (by decide) ?_
      refine xg_ishr (pc := 38) C dX1_luckOf_38 ?_
      refine xg_topi (pc := 39) (fun z4 ez4 => ?_)
      have hF := hF z4 ez4
      refine xg_istore (pc := 39) (lv2 := [(7, .int z4), (6, .int z3), (0, va_rf (some this)), (1, .int x1), (2, .int x2), (3, .long y3), (5, .int y5)]) C dX1_luckOf_39 12 hnL (by decide) rfl ?_
      refine xg_iload (pc := 41) C dX1_luckOf_41 1 rfl ?_
      refine xg_sipush (pc := 43) (v := 4095) C dX1_luckOf_43 (by decide) ?_
      refine xg_iand (pc := 46) C dX1_luckOf_46 ?_
      refine xg_topi (pc := 47) (fun z5 ez5 => ?_)
      have hF := hF z5 ez5
      refine xg_istore (pc := 47) (lv2 := [(8, .int z5), (7, .int z4), (6, .int z3), (0, va_rf (some this)), (1, .int x1), (2, .int x2), (3, .long y3), (5, .int y5)]) C dX1_luckOf_47 12 hnL (by decide) rfl ?_
      refine xg_iload (pc := 49) C dX1_luckOf_49 2 rfl ?_
      refine xg_if_eq (pc := 51) 123 C dX1_luckOf_51 (by decide) (fun hc => ?_) (fun hc => ?_)
      · have hF := hF.1 hc
        refine xg_sub (lv2 := [(0, va_rf (some this)), (1, .int x1), (2, .int x2), (3, .long y3), (5, .int y5)]) [3, 4, 5, 6, 7] rfl ?_
        exact hF
      · have hF := hF.2 hc
        refine xg_iload (pc := 54) C dX1_luckOf_54 1 rfl ?_
        refine xg_iload_n (pc := 56) C dX1_luckOf_56 5 rfl ?_
        refine xg_icmp_gt (pc := 57) 123 C dX1_luckOf_57 (by decide) (fun hc => ?_) (fun hc => ?_)
        · have hF := hF.1 hc
          refine xg_sub (lv2 := [(0, va_rf (some this)), (1, .int x1), (2, .int x2), (3, .long y3), (5, .int y5)]) [3, 4, 5, 6, 7] rfl ?_
          exact hF
        · have hF := hF.2 hc
          refine xg_iload (pc := 60) C dX1_luckOf_60 0 rfl ?_
          refine xg_aload_n (pc := 62) C dX1_luckOf_62 3 rfl ?_
          refine xg_getr (pc := 63) (C1 := RX1) (T1 := TX1) (ci := 1) (ref := "SandGlasses$Book") C inm_X1_luckOf_1 rfl (by decide) 0 (by decide) rfl dX1_luckOf_63 (List.mem_of_getElem? (i := 1) rfl) rfl rfl hthis ?_
          refine xg_geti (pc := 66) (C1 := RX10) (T1 := TX10) (ci := 10) (ref := "SandGlasses$Walk") C inm_X1_luckOf_10 rfl (by decide) 4 (by decide) rfl dX1_luckOf_66 (List.mem_of_getElem? (i := 4) rfl) rfl ha1 hka1 ?_
          refine xg_icmp_ge (pc := 69) 123 C dX1_luckOf_69 (by decide) (fun hc => ?_) (fun hc => ?_)
          · have hF := hF.1 hc
            refine xg_sub (lv2 := [(0, va_rf (some this)), (1, .int x1), (2, .int x2), (3, .long y3), (5, .int y5)]) [3, 4, 5, 6, 7] rfl ?_
            exact hF
          · have hF := hF.2 hc
            refine xg_iload_n (pc := 72) C dX1_luckOf_72 5 rfl ?_
            refine xg_iload (pc := 73) C dX1_luckOf_73 1 rfl ?_
            refine xg_isub (pc := 75) C dX1_luckOf_75 ?_
            refine xg_topi (pc := 76) (fun z6 ez6 => ?_)
            have hF := hF z6 ez6
            refine xg_istore (pc := 76) (lv2 := [(9, .int z6), (8, .int z5), (7, .int z4), (6, .int z3), (0, va_rf (some this)), (1, .int x1), (2, .int x2), (3, .long y3), (5, .int y5)]) C dX1_luckOf_76 12 hnL (by decide) rfl ?_
            refine xg_iload (pc := 78) C dX1_luckOf_78 0 rfl ?_
            refine xg_if_ne (pc := 80) 87 C dX1_luckOf_80 (by decide) (fun hc => ?_) (fun hc => ?_)
            · have hF := hF.1 hc
              refine xg_aload_n (pc := 87) C dX1_luckOf_87 4 rfl ?_
              refine xg_getr (pc := 88) (C1 := RX1) (T1 := TX1) (ci := 1) (ref := "SandGlasses$Book") C inm_X1_luckOf_1 rfl (by decide) 7 (by decide) rfl dX1_luckOf_88 (List.mem_of_getElem? (i := 5) rfl) rfl rfl hthis ?_
              refine xg_iload (pc := 91) C dX1_luckOf_91 0 rfl ?_
              refine xg_aload_n (pc := 93) C dX1_luckOf_93 4 rfl ?_
              refine xg_getr (pc := 94) (C1 := RX1) (T1 := TX1) (ci := 1) (ref := "SandGlasses$Book") C inm_X1_luckOf_1 rfl (by decide) 0 (by decide) rfl dX1_luckOf_94 (List.mem_of_getElem? (i := 1) rfl) rfl rfl hthis ?_
              refine xg_getr (pc := 97) (C1 := RX10) (T1 := TX10) (ci := 10) (ref := "SandGlasses$Walk") C inm_X1_luckOf_10 rfl (by decide) 0 (by decide) rfl dX1_luckOf_97 (List.mem_of_getElem? (i := 6) rfl) rfl ha1 hka1 ?_
              obtain ⟨a7, ha7, hka7, hF⟩ := hF
              refine xg_alen (pc := 100) (c9 := 22) C ha7 hka7 (by decide) dX1_luckOf_100 ?_
              refine xg_imul (pc := 101) C dX1_luckOf_101 ?_
              refine xg_iload (pc := 102) C dX1_luckOf_102 1 rfl ?_
              refine xg_iadd (pc := 104) C dX1_luckOf_104 ?_
              obtain ⟨a8, ha8, hka8, hF⟩ := hF
              obtain ⟨hi, hF⟩ := hF
              refine xg_lald (pc := 105) C ha8 hka8 hi dX1_luckOf_105 ?_
              refine xg_sub (lv2 := [(0, va_rf (some this)), (1, .int x1), (2, .int x2), (3, .long y3), (5, .int y5), (7, .int z4)]) [4, 5, 6, 7, 8, 2] rfl ?_
              exact hF
            · have hF := hF.2 hc
              refine xg_lconst (pc := 83) (v := 1) C dX1_luckOf_83 (by decide) ?_
              refine xg_goto (pc := 84) 106 C dX1_luckOf_84 (by decide) ?_
              refine xg_sub (lv2 := [(0, va_rf (some this)), (1, .int x1), (2, .int x2), (3, .long y3), (5, .int y5), (7, .int z4)]) [4, 5, 6, 7, 8, 2] rfl ?_
              exact hF
  · intro y3 y5 h hF
    obtain ⟨z9, ez9⟩ : ∃ y : Int32, y = y5 + 1 := ⟨_, rfl⟩
    have hF := hF z9 ez9
    refine xg_iinc (pc := 123) (v := z9) (lv2 := [(5, .int z9), (0, va_rf (some this)), (1, .int x1), (2, .int x2), (3, .long y3)]) C dX1_luckOf_123 4 rfl (by rw [ez9]; rfl) 12 hnL (by decide) rfl ?_
    refine xg_goto (pc := 126) 5 C dX1_luckOf_126 (by decide) ?_
    refine xg_sub (lv2 := [(0, va_rf (some this)), (1, .int x1), (2, .int x2), (3, .long y3), (5, .int z9)]) [1, 2, 3, 4, 0] rfl ?_
    exact hF
  · intro y3 y5 y7 s0 h hF
    refine xg_lstore (pc := 106) (lv2 := [(10, .long s0), (0, va_rf (some this)), (1, .int x1), (2, .int x2), (3, .long y3), (5, .int y5), (7, .int y7)]) C dX1_luckOf_106 12 hnL (by decide) rfl ?_
    refine xg_lload_n (pc := 108) C dX1_luckOf_108 4 rfl ?_
    refine xg_lload (pc := 109) C dX1_luckOf_109 0 rfl ?_
    refine xg_aload_n (pc := 111) C dX1_luckOf_111 1 rfl ?_
    refine xg_geti (pc := 112) (C1 := RX1) (T1 := TX1) (ci := 1) (ref := "SandGlasses$Book") C inm_X1_luckOf_1 rfl (by decide) 14 (by decide) rfl dX1_luckOf_112 (List.mem_of_getElem? (i := 7) rfl) rfl rfl hthis ?_
    refine xg_iload (pc := 115) C dX1_luckOf_115 6 rfl ?_
    refine xg_iconst (pc := 117) (v := 1) C dX1_luckOf_117 (by decide) ?_
    refine xg_isub (pc := 118) C dX1_luckOf_118 ?_
    refine xg_imul (pc := 119) C dX1_luckOf_119 ?_
    refine xg_lshl (pc := 120) C dX1_luckOf_120 ?_
    refine xg_ladd (pc := 121) C dX1_luckOf_121 ?_
    refine xg_topl (pc := 122) (fun z10 ez10 => ?_)
    have hF := hF z10 ez10
    refine xg_lstore_n (pc := 122) (lv2 := [(3, .long z10), (10, .long s0), (0, va_rf (some this)), (1, .int x1), (2, .int x2), (5, .int y5), (7, .int y7)]) C dX1_luckOf_122 12 hnL (by decide) rfl ?_
    refine xg_sub (lv2 := [(0, va_rf (some this)), (1, .int x1), (2, .int x2), (3, .long z10), (5, .int y5)]) [2, 3, 4, 0, 5] rfl ?_
    exact hF
  · skip
    refine xg_lconst (pc := 0) (v := 0) C dX1_luckOf_0 (by decide) ?_
    refine xg_lstore_n (pc := 1) (lv2 := [(3, .long 0), (0, va_rf (some this)), (1, .int x1), (2, .int x2)]) C dX1_luckOf_1 12 hnL (by decide) rfl ?_
    refine xg_iconst (pc := 2) (v := 0) C dX1_luckOf_2 (by decide) ?_
    refine xg_istore (pc := 3) (lv2 := [(5, .int 0), (3, .long 0), (0, va_rf (some this)), (1, .int x1), (2, .int x2)]) C dX1_luckOf_3 12 hnL (by decide) rfl ?_
    refine xg_sub (lv2 := [(0, va_rf (some this)), (1, .int x1), (2, .int x2), (3, .long 0), (5, .int 0)]) [2, 3, 4, 1, 0] rfl ?_
    exact hF
def rm_X1_luckOver : Room := { frames := 1, cells := 0, slots := 0, locals := 31 }
theorem nd_X1_luckOver : yX1_luckOver.cls = RX1 ∧ yX1_luckOver.cls ≠ "java/lang/invoke/MethodHandle" ∧ yX1_luckOver.cls ≠ "java/lang/invoke/VarHandle" ∧ (parseMethodDescriptor yX1_luckOver.desc).map (fun d => d.parameters.length) = some 1 := by decide +kernel
theorem inm_X1_luckOver_1 : ∀ w ∈ u_ws RX1 TX1 (xg_N 1), w ∈ wsX1_luckOver := fun _ h9 => List.mem_cons_of_mem _ (List.mem_append_left _ (List.mem_append_right _ h9))
theorem inm_X1_luckOver_10 : ∀ w ∈ u_ws RX10 TX10 (xg_N 10), w ∈ wsX1_luckOver := fun _ h9 => List.mem_cons_of_mem _ (List.mem_append_right _ h9)
set_option maxHeartbeats 4000000 in
set_option maxRecDepth 100000 in
theorem met_X1_luckOver (Y : xg_Y) (this : Nat) (x1 : Int32) : xg_ML yX1_luckOver wsX1_luckOver rm_X1_luckOver Y (fun zs => [va_rf (some this), .int x1]) (fun Q h => wp_X1_luckOver Y Q this x1 h) := by
  refine xg_startL (cc := cX1_luckOver) (maxL := 4) (own := RX1) (by decide) rfl rfl (fun zs => Nat.le_of_ble_eq_true rfl) (fun X Q h C hnL E hw => ?_)
  unfold wp_X1_luckOver at hw
  obtain ⟨hthis, hw⟩ := hw
  refine xg_sub (lv2 := [(0, va_rf (some this)), (1, .int x1)]) [0, 1] rfl ?_
  refine mg_use (hw (fun (h : xg_H) => xg_W X 0 0 Y 68 [(0, va_rf (some this)), (1, .int x1)] [] h) (fun (y2 : Int32) (h : xg_H) => xg_W X 0 0 Y 9 [(0, va_rf (some this)), (1, .int x1), (2, .int y2)] [] h) (fun (y2 : Int32) (y3 : Int32) (h : xg_H) => xg_W X 0 0 Y 17 [(0, va_rf (some this)), (1, .int x1), (2, .int y2), (3, .int y3)] [] h) ?_ ?_ ?_) (fun hF => ?_)
  · intro h hF
    refine xg_iload_n (pc := 68) C dX1_luckOver_68 1 rfl ?_
    refine xg_iconst (pc := 69) (v := 1) C dX1_luckOver_69 (by decide) ?_
    refine xg_icmp_lt (pc := 70) 97 C dX1_luckOver_70 (by decide) (fun hc => ?_) (fun hc => ?_)
    · have hF := hF.1 hc
      refine xg_lconst (pc := 97) (v := 0) C dX1_luckOver_97 (by decide) ?_
      exact xg_retL (pc := 98) C E dX1_luckOver_98 hF
    · have hF := hF.2 hc
      refine xg_iload_n (pc := 73) C dX1_luckOver_73 1 rfl ?_
      refine xg_bipush (pc := 74) (v := 10) C dX1_luckOver_74 (by decide) ?_
      refine xg_icmp_gt (pc := 76) 97 C dX1_luckOver_76 (by decide) (fun hc => ?_) (fun hc => ?_)
      · have hF := hF.1 hc
        refine xg_lconst (pc := 97) (v := 0) C dX1_luckOver_97 (by decide) ?_
        exact xg_retL (pc := 98) C E dX1_luckOver_98 hF
      · have hF := hF.2 hc
        refine xg_aload_n (pc := 79) C dX1_luckOver_79 0 rfl ?_
        refine xg_getr (pc := 80) (C1 := RX1) (T1 := TX1) (ci := 1) (ref := "SandGlasses$Book") C inm_X1_luckOver_1 rfl (by decide) 7 (by decide) rfl dX1_luckOver_80 (List.mem_of_getElem? (i := 4) rfl) rfl rfl hthis ?_
        refine xg_iload_n (pc := 83) C dX1_luckOver_83 1 rfl ?_
        refine xg_aload_n (pc := 84) C dX1_luckOver_84 0 rfl ?_
        refine xg_getr (pc := 85) (C1 := RX1) (T1 := TX1) (ci := 1) (ref := "SandGlasses$Book") C inm_X1_luckOver_1 rfl (by decide) 0 (by decide) rfl dX1_luckOver_85 (List.mem_of_getElem? (i := 2) rfl) rfl rfl hthis ?_
        obtain ⟨a1, ha1, hka1, hF⟩ := hF
        refine xg_getr (pc := 88) (C1 := RX10) (T1 := TX10) (ci := 10) (ref := "SandGlasses$Walk") C inm_X1_luckOver_10 rfl (by decide) 0 (by decide) rfl dX1_luckOver_88 (List.mem_of_getElem? (i := 5) rfl) rfl ha1 hka1 ?_
        obtain ⟨a2, ha2, hka2, hF⟩ := hF
        refine xg_alen (pc := 91) (c9 := 22) C ha2 hka2 (by decide) dX1_luckOver_91 ?_
        refine xg_imul (pc := 92) C dX1_luckOver_92 ?_
        obtain ⟨a3, ha3, hka3, hF⟩ := hF
        obtain ⟨hi, hF⟩ := hF
        refine xg_lald (pc := 93) C ha3 hka3 hi dX1_luckOver_93 ?_
        refine xg_goto (pc := 94) 98 C dX1_luckOver_94 (by decide) ?_
        exact xg_retL (pc := 98) C E dX1_luckOver_98 hF
  · intro y2 h hF
    refine xg_iload_n (pc := 9) C dX1_luckOver_9 2 rfl ?_
    refine xg_bipush (pc := 10) (v := 10) C dX1_luckOver_10 (by decide) ?_
    refine xg_icmp_gt (pc := 12) 63 C dX1_luckOver_12 (by decide) (fun hc => ?_) (fun hc => ?_)
    · have hF := hF.1 hc
      refine xg_aload_n (pc := 63) C dX1_luckOver_63 0 rfl ?_
      refine xg_iconst (pc := 64) (v := 1) C dX1_luckOver_64 (by decide) ?_
      refine xg_putz (pc := 65) (C1 := RX1) (T1 := TX1) (ci := 1) (ref := "SandGlasses$Book") C inm_X1_luckOver_1 rfl (by decide) tyX1 tyX1_ok nmX1 18 (by decide) rfl (Or.inr rfl) dX1_luckOver_65 (List.mem_of_getElem? (i := 1) rfl) rfl rfl (tyX1_ok 18 (by decide)) rfl hthis (fun h4 eh4 => ?_)
      have hF := hF h4 eh4
      refine xg_sub (lv2 := [(0, va_rf (some this)), (1, .int x1)]) [0, 1] rfl ?_
      exact hF
    · have hF := hF.2 hc
      refine xg_iconst (pc := 15) (v := 0) C dX1_luckOver_15 (by decide) ?_
      refine xg_istore_n (pc := 16) (lv2 := [(3, .int 0), (0, va_rf (some this)), (1, .int x1), (2, .int y2)]) C dX1_luckOver_16 4 hnL (by decide) rfl ?_
      refine xg_sub (lv2 := [(0, va_rf (some this)), (1, .int x1), (2, .int y2), (3, .int 0)]) [1, 2, 3, 0] rfl ?_
      exact hF
  · intro y2 y3 h hF
    refine xg_iload_n (pc := 17) C dX1_luckOver_17 3 rfl ?_
    refine xg_aload_n (pc := 18) C dX1_luckOver_18 0 rfl ?_
    refine xg_getr (pc := 19) (C1 := RX1) (T1 := TX1) (ci := 1) (ref := "SandGlasses$Book") C inm_X1_luckOver_1 rfl (by decide) 0 (by decide) rfl dX1_luckOver_19 (List.mem_of_getElem? (i := 2) rfl) rfl rfl hthis ?_
    obtain ⟨a5, ha5, hka5, hF⟩ := hF
    refine xg_geti (pc := 22) (C1 := RX10) (T1 := TX10) (ci := 10) (ref := "SandGlasses$Walk") C inm_X1_luckOver_10 rfl (by decide) 4 (by decide) rfl dX1_luckOver_22 (List.mem_of_getElem? (i := 3) rfl) rfl ha5 hka5 ?_
    refine xg_icmp_ge (pc := 25) 57 C dX1_luckOver_25 (by decide) (fun hc => ?_) (fun hc => ?_)
    · have hF := hF.1 hc
      obtain ⟨z6, ez6⟩ : ∃ y : Int32, y = y2 + 1 := ⟨_, rfl⟩
      have hF := hF z6 ez6
      refine xg_iinc (pc := 57) (v := z6) (lv2 := [(2, .int z6), (0, va_rf (some this)), (1, .int x1), (3, .int y3)]) C dX1_luckOver_57 2 rfl (by rw [ez6]; rfl) 4 hnL (by decide) rfl ?_
      refine xg_goto (pc := 60) 9 C dX1_luckOver_60 (by decide) ?_
      refine xg_sub (lv2 := [(0, va_rf (some this)), (1, .int x1), (2, .int z6)]) [1, 2, 0] rfl ?_
      exact hF
    · have hF := hF.2 hc
      refine xg_aload_n (pc := 28) C dX1_luckOver_28 0 rfl ?_
      refine xg_getr (pc := 29) (C1 := RX1) (T1 := TX1) (ci := 1) (ref := "SandGlasses$Book") C inm_X1_luckOver_1 rfl (by decide) 7 (by decide) rfl dX1_luckOver_29 (List.mem_of_getElem? (i := 4) rfl) rfl rfl hthis ?_
      refine xg_iload_n (pc := 32) C dX1_luckOver_32 2 rfl ?_
      refine xg_aload_n (pc := 33) C dX1_luckOver_33 0 rfl ?_
      refine xg_getr (pc := 34) (C1 := RX1) (T1 := TX1) (ci := 1) (ref := "SandGlasses$Book") C inm_X1_luckOver_1 rfl (by decide) 0 (by decide) rfl dX1_luckOver_34 (List.mem_of_getElem? (i := 2) rfl) rfl rfl hthis ?_
      refine xg_getr (pc := 37) (C1 := RX10) (T1 := TX10) (ci := 10) (ref := "SandGlasses$Walk") C inm_X1_luckOver_10 rfl (by decide) 0 (by decide) rfl dX1_luckOver_37 (List.mem_of_getElem? (i := 5) rfl) rfl ha5 hka5 ?_
      obtain ⟨a7, ha7, hka7, hF⟩ := hF
      refine xg_alen (pc := 40) (c9 := 22) C ha7 hka7 (by decide) dX1_luckOver_40 ?_
      refine xg_imul (pc := 41) C dX1_luckOver_41 ?_
      refine xg_iload_n (pc := 42) C dX1_luckOver_42 3 rfl ?_
      refine xg_iadd (pc := 43) C dX1_luckOver_43 ?_
      refine xg_aload_n (pc := 44) C dX1_luckOver_44 0 rfl ?_
      refine xg_iload_n (pc := 45) C dX1_luckOver_45 3 rfl ?_
      refine xg_iload_n (pc := 46) C dX1_luckOver_46 2 rfl ?_
      refine xg_cvL (pc := 47) (C1 := RX1) (T1 := TX1) (ci := 1) C (fun zs => [.int y3, .int y2]) rfl hthis (by decide) rfl (met_X1_luckOf Y this y3 y2) gX1_luckOver_X1_luckOf rfl ⟨rfl, rfl⟩ nd_X1_luckOf ⟨Nat.le_of_ble_eq_true rfl, Nat.le_of_ble_eq_true rfl⟩ rfl rfl (by simp [xg_rf_cat, xg_cat_i, xg_cat_l, xg_cat_a]) ⟨Nat.zero_le _, Nat.zero_le _⟩ dX1_luckOver_47 hF (fun r9 h8 hF => ?_)
      obtain ⟨a10, ha10, hka10, hF⟩ := hF
      obtain ⟨hi, hF⟩ := hF
      refine xg_last (pc := 50) C ha10 hka10 hi dX1_luckOver_50 (fun h11 eh11 => ?_)
      have hF := hF h11 eh11
      obtain ⟨z12, ez12⟩ : ∃ y : Int32, y = y3 + 1 := ⟨_, rfl⟩
      have hF := hF z12 ez12
      refine xg_iinc (pc := 51) (v := z12) (lv2 := [(3, .int z12), (0, va_rf (some this)), (1, .int x1), (2, .int y2)]) C dX1_luckOver_51 3 rfl (by rw [ez12]; rfl) 4 hnL (by decide) rfl ?_
      refine xg_goto (pc := 54) 17 C dX1_luckOver_54 (by decide) ?_
      refine xg_sub (lv2 := [(0, va_rf (some this)), (1, .int x1), (2, .int y2), (3, .int z12)]) [1, 2, 3, 0] rfl ?_
      exact hF
  · skip
    refine xg_aload_n (pc := 0) C dX1_luckOver_0 0 rfl ?_
    refine xg_geti (pc := 1) (C1 := RX1) (T1 := TX1) (ci := 1) (ref := "SandGlasses$Book") C inm_X1_luckOver_1 rfl (by decide) 18 (by decide) rfl dX1_luckOver_1 (List.mem_of_getElem? (i := 1) rfl) rfl rfl hthis ?_
    refine xg_if_ne (pc := 4) 68 C dX1_luckOver_4 (by decide) (fun hc => ?_) (fun hc => ?_)
    · have hF := hF.1 hc
      exact hF
    · have hF := hF.2 hc
      refine xg_iconst (pc := 7) (v := 1) C dX1_luckOver_7 (by decide) ?_
      refine xg_istore_n (pc := 8) (lv2 := [(2, .int 1), (0, va_rf (some this)), (1, .int x1)]) C dX1_luckOver_8 4 hnL (by decide) rfl ?_
      refine xg_sub (lv2 := [(0, va_rf (some this)), (1, .int x1), (2, .int 1)]) [1, 2, 0] rfl ?_
      exact hF
def rm_X1_minutesOfEvent : Room := { frames := 0, cells := 0, slots := 0, locals := 0 }
theorem nd_X1_minutesOfEvent : yX1_minutesOfEvent.cls = RX1 ∧ yX1_minutesOfEvent.cls ≠ "java/lang/invoke/MethodHandle" ∧ yX1_minutesOfEvent.cls ≠ "java/lang/invoke/VarHandle" ∧ (parseMethodDescriptor yX1_minutesOfEvent.desc).map (fun d => d.parameters.length) = some 1 := by decide +kernel
theorem inm_X1_minutesOfEvent_1 : ∀ w ∈ u_ws RX1 TX1 (xg_N 1), w ∈ wsX1_minutesOfEvent := fun _ h9 => List.mem_cons_of_mem _ (List.mem_append_left _ (List.mem_append_right _ h9))
theorem inm_X1_minutesOfEvent_10 : ∀ w ∈ u_ws RX10 TX10 (xg_N 10), w ∈ wsX1_minutesOfEvent := fun _ h9 => List.mem_cons_of_mem _ (List.mem_append_right _ h9)
set_option maxHeartbeats 4000000 in
set_option maxRecDepth 100000 in
theorem met_X1_minutesOfEvent (Y : xg_Y) (this : Nat) (x1 : Int32) : xg_MI yX1_minutesOfEvent wsX1_minutesOfEvent rm_X1_minutesOfEvent Y (fun zs => [va_rf (some this), .int x1]) (fun Q h => wp_X1_minutesOfEvent Y Q this x1 h) := by
  refine xg_startI (cc := cX1_minutesOfEvent) (maxL := 2) (own := RX1) (by decide) rfl rfl (fun zs => Nat.le_of_ble_eq_true rfl) (fun X Q h C hnL E hw => ?_)
  unfold wp_X1_minutesOfEvent at hw
  obtain ⟨hthis, hw⟩ := hw
  refine xg_sub (lv2 := [(0, va_rf (some this)), (1, .int x1)]) [0, 1] rfl ?_
  have hF := hw
  refine xg_iload_n (pc := 0) C dX1_minutesOfEvent_0 1 rfl ?_
  refine xg_if_lt (pc := 1) 22 C dX1_minutesOfEvent_1 (by decide) (fun hc => ?_) (fun hc => ?_)
  · have hF := hF.1 hc
    refine xg_iconst (pc := 22) (v := 0) C dX1_minutesOfEvent_22 (by decide) ?_
    exact xg_retI (pc := 23) C E dX1_minutesOfEvent_23 hF
  · have hF := hF.2 hc
    refine xg_iload_n (pc := 4) C dX1_minutesOfEvent_4 1 rfl ?_
    refine xg_bipush (pc := 5) (v := 30) C dX1_minutesOfEvent_5 (by decide) ?_
    refine xg_icmp_gt (pc := 7) 22 C dX1_minutesOfEvent_7 (by decide) (fun hc => ?_) (fun hc => ?_)
    · have hF := hF.1 hc
      refine xg_iconst (pc := 22) (v := 0) C dX1_minutesOfEvent_22 (by decide) ?_
      exact xg_retI (pc := 23) C E dX1_minutesOfEvent_23 hF
    · have hF := hF.2 hc
      refine xg_aload_n (pc := 10) C dX1_minutesOfEvent_10 0 rfl ?_
      refine xg_getr (pc := 11) (C1 := RX1) (T1 := TX1) (ci := 1) (ref := "SandGlasses$Book") C inm_X1_minutesOfEvent_1 rfl (by decide) 0 (by decide) rfl dX1_minutesOfEvent_11 (List.mem_of_getElem? (i := 1) rfl) rfl rfl hthis ?_
      obtain ⟨a1, ha1, hka1, hF⟩ := hF
      refine xg_getr (pc := 14) (C1 := RX10) (T1 := TX10) (ci := 10) (ref := "SandGlasses$Walk") C inm_X1_minutesOfEvent_10 rfl (by decide) 2 (by decide) rfl dX1_minutesOfEvent_14 (List.mem_of_getElem? (i := 2) rfl) rfl ha1 hka1 ?_
      refine xg_iload_n (pc := 17) C dX1_minutesOfEvent_17 1 rfl ?_
      obtain ⟨a2, ha2, hka2, hF⟩ := hF
      obtain ⟨hi, hF⟩ := hF
      refine xg_iald (pc := 18) C ha2 hka2 hi dX1_minutesOfEvent_18 ?_
      refine xg_goto (pc := 19) 23 C dX1_minutesOfEvent_19 (by decide) ?_
      exact xg_retI (pc := 23) C E dX1_minutesOfEvent_23 hF
def rm_X1_open : Room := { frames := 4, cells := 0, slots := 0, locals := 96 }
theorem nd_X1_open : yX1_open.cls = RX1 ∧ yX1_open.cls ≠ "java/lang/invoke/MethodHandle" ∧ yX1_open.cls ≠ "java/lang/invoke/VarHandle" ∧ (parseMethodDescriptor yX1_open.desc).map (fun d => d.parameters.length) = some 1 := by decide +kernel
theorem inm_X1_open_1 : ∀ w ∈ u_ws RX1 TX1 (xg_N 1), w ∈ wsX1_open := fun _ h9 => List.mem_cons_of_mem _ (List.mem_append_left _ (List.mem_append_left _ (List.mem_append_right _ h9)))
theorem inm_X1_open_8 : ∀ w ∈ u_ws RX8 TX8 (xg_N 8), w ∈ wsX1_open := fun _ h9 => List.mem_cons_of_mem _ (List.mem_append_left _ (List.mem_append_left _ (List.mem_append_left _ (List.mem_append_right _ h9))))
set_option maxHeartbeats 4000000 in
set_option maxRecDepth 100000 in
theorem met_X1_open (Y : xg_Y) (this : Nat) (x1 : Option Nat) : xg_MV yX1_open wsX1_open rm_X1_open Y (fun zs => [va_rf (some this), va_rf x1]) (fun Q h => wp_X1_open Y Q this x1 h) := by
  refine xg_startV (cc := cX1_open) (maxL := 4) (own := RX1) (by decide) rfl rfl (fun zs => by cases x1 <;> exact Nat.le_of_ble_eq_true rfl) (fun X Q h C hnL E hw => ?_)
  unfold wp_X1_open at hw
  obtain ⟨hthis, hw⟩ := hw
  refine xg_sub (lv2 := [(0, va_rf (some this)), (1, va_rf x1)]) [0, 1] (by cases x1 <;> rfl) ?_
  refine mg_use (hw (fun (y2 : Int32) (y3 : Int32) (h : xg_H) => xg_W X 0 0 Y 41 [(0, va_rf (some this)), (1, va_rf x1), (2, .int y2), (3, .int y3)] [] h) ?_) (fun hF => ?_)
  · intro y2 y3 h hF
    refine xg_aload_n (pc := 41) C dX1_open_41 0 rfl ?_
    refine xg_iload_n (pc := 42) C dX1_open_42 2 rfl ?_
    refine xg_puti (pc := 43) (C1 := RX1) (T1 := TX1) (ci := 1) (ref := "SandGlasses$Book") C inm_X1_open_1 rfl (by decide) tyX1 tyX1_ok nmX1 12 (by decide) rfl dX1_open_43 (List.mem_of_getElem? (i := 4) rfl) rfl rfl (tyX1_ok 12 (by decide)) rfl hthis (fun h6 eh6 => ?_)
    have hF := hF h6 eh6
    refine xg_aload_n (pc := 46) C dX1_open_46 0 rfl ?_
    refine xg_iload_n (pc := 47) C dX1_open_47 3 rfl ?_
    refine xg_puti (pc := 48) (C1 := RX1) (T1 := TX1) (ci := 1) (ref := "SandGlasses$Book") C inm_X1_open_1 rfl (by decide) tyX1 tyX1_ok nmX1 13 (by decide) rfl dX1_open_48 (List.mem_of_getElem? (i := 5) rfl) rfl rfl (tyX1_ok 13 (by decide)) rfl hthis (fun h7 eh7 => ?_)
    have hF := hF h7 eh7
    refine xg_aload_n (pc := 51) C dX1_open_51 0 rfl ?_
    refine xg_aload_n (pc := 52) C dX1_open_52 1 rfl ?_
    obtain ⟨a8, ha8, hka8, hF⟩ := hF
    refine xg_geti (pc := 53) (C1 := RX8) (T1 := TX8) (ci := 8) (ref := "SandGlasses$Text") C inm_X1_open_8 rfl (by decide) 0 (by decide) rfl dX1_open_53 (List.mem_of_getElem? (i := 2) rfl) rfl ha8 hka8 ?_
    refine xg_puti (pc := 56) (C1 := RX1) (T1 := TX1) (ci := 1) (ref := "SandGlasses$Book") C inm_X1_open_1 rfl (by decide) tyX1 tyX1_ok nmX1 14 (by decide) rfl dX1_open_56 (List.mem_of_getElem? (i := 6) rfl) rfl rfl (tyX1_ok 14 (by decide)) rfl hthis (fun h9 eh9 => ?_)
    have hF := hF h9 eh9
    refine xg_aload_n (pc := 59) C dX1_open_59 0 rfl ?_
    refine xg_iconst (pc := 60) (v := (-1)) C dX1_open_60 (by decide) ?_
    refine xg_puti (pc := 61) (C1 := RX1) (T1 := TX1) (ci := 1) (ref := "SandGlasses$Book") C inm_X1_open_1 rfl (by decide) tyX1 tyX1_ok nmX1 15 (by decide) rfl dX1_open_61 (List.mem_of_getElem? (i := 7) rfl) rfl rfl (tyX1_ok 15 (by decide)) rfl hthis (fun h10 eh10 => ?_)
    have hF := hF h10 eh10
    refine xg_aload_n (pc := 64) C dX1_open_64 0 rfl ?_
    refine xg_iconst (pc := 65) (v := 0) C dX1_open_65 (by decide) ?_
    refine xg_puti (pc := 66) (C1 := RX1) (T1 := TX1) (ci := 1) (ref := "SandGlasses$Book") C inm_X1_open_1 rfl (by decide) tyX1 tyX1_ok nmX1 11 (by decide) rfl dX1_open_66 (List.mem_of_getElem? (i := 8) rfl) rfl rfl (tyX1_ok 11 (by decide)) rfl hthis (fun h11 eh11 => ?_)
    have hF := hF h11 eh11
    refine xg_aload_n (pc := 69) C dX1_open_69 0 rfl ?_
    refine xg_iconst (pc := 70) (v := 0) C dX1_open_70 (by decide) ?_
    refine xg_putz (pc := 71) (C1 := RX1) (T1 := TX1) (ci := 1) (ref := "SandGlasses$Book") C inm_X1_open_1 rfl (by decide) tyX1 tyX1_ok nmX1 17 (by decide) rfl (Or.inl rfl) dX1_open_71 (List.mem_of_getElem? (i := 9) rfl) rfl rfl (tyX1_ok 17 (by decide)) rfl hthis (fun h12 eh12 => ?_)
    have hF := hF h12 eh12
    refine xg_aload_n (pc := 74) C dX1_open_74 0 rfl ?_
    refine xg_iconst (pc := 75) (v := 0) C dX1_open_75 (by decide) ?_
    refine xg_putz (pc := 76) (C1 := RX1) (T1 := TX1) (ci := 1) (ref := "SandGlasses$Book") C inm_X1_open_1 rfl (by decide) tyX1 tyX1_ok nmX1 18 (by decide) rfl (Or.inl rfl) dX1_open_76 (List.mem_of_getElem? (i := 10) rfl) rfl rfl (tyX1_ok 18 (by decide)) rfl hthis (fun h13 eh13 => ?_)
    have hF := hF h13 eh13
    refine xg_aload_n (pc := 79) C dX1_open_79 0 rfl ?_
    refine xg_iconst (pc := 80) (v := 0) C dX1_open_80 (by decide) ?_
    refine xg_putz (pc := 81) (C1 := RX1) (T1 := TX1) (ci := 1) (ref := "SandGlasses$Book") C inm_X1_open_1 rfl (by decide) tyX1 tyX1_ok nmX1 19 (by decide) rfl (Or.inl rfl) dX1_open_81 (List.mem_of_getElem? (i := 11) rfl) rfl rfl (tyX1_ok 19 (by decide)) rfl hthis (fun h14 eh14 => ?_)
    have hF := hF h14 eh14
    refine xg_aload_n (pc := 84) C dX1_open_84 0 rfl ?_
    refine xg_getr (pc := 85) (C1 := RX1) (T1 := TX1) (ci := 1) (ref := "SandGlasses$Book") C inm_X1_open_1 rfl (by decide) 6 (by decide) rfl dX1_open_85 (List.mem_of_getElem? (i := 12) rfl) rfl rfl hthis ?_
    refine xg_iconst (pc := 88) (v := (-1)) C dX1_open_88 (by decide) ?_
    refine xg_csV (pc := 89) C (fun zs => [va_rf (xg_o h14 this 6), .int (-1)]) (met_J7_fill_53178 Y (xg_o h14 this 6) (-1)) gX1_open_J7_fill_53178 rfl ⟨rfl, rfl⟩ nd_J7_fill_53178.2 ⟨Nat.le_of_ble_eq_true rfl, Nat.le_of_ble_eq_true rfl⟩ rfl rfl (Nat.le_of_ble_eq_true rfl) ⟨Nat.zero_le _, Nat.zero_le _⟩ dX1_open_89 hF (fun h15 hF => ?_)
    refine xg_aload_n (pc := 92) C dX1_open_92 0 rfl ?_
    refine xg_getr (pc := 93) (C1 := RX1) (T1 := TX1) (ci := 1) (ref := "SandGlasses$Book") C inm_X1_open_1 rfl (by decide) 0 (by decide) rfl dX1_open_93 (List.mem_of_getElem? (i := 13) rfl) rfl rfl hthis ?_
    refine xg_aload_n (pc := 96) C dX1_open_96 0 rfl ?_
    refine xg_geti (pc := 97) (C1 := RX1) (T1 := TX1) (ci := 1) (ref := "SandGlasses$Book") C inm_X1_open_1 rfl (by decide) 12 (by decide) rfl dX1_open_97 (List.mem_of_getElem? (i := 4) rfl) rfl rfl hthis ?_
    refine xg_aload_n (pc := 100) C dX1_open_100 0 rfl ?_
    refine xg_geti (pc := 101) (C1 := RX1) (T1 := TX1) (ci := 1) (ref := "SandGlasses$Book") C inm_X1_open_1 rfl (by decide) 13 (by decide) rfl dX1_open_101 (List.mem_of_getElem? (i := 5) rfl) rfl rfl hthis ?_
    refine xg_aload_n (pc := 104) C dX1_open_104 0 rfl ?_
    refine xg_cvI (pc := 105) (C1 := RX1) (T1 := TX1) (ci := 1) C (fun zs => []) rfl hthis (by decide) rfl (met_X1_allGlasses Y this) gX1_open_X1_allGlasses rfl ⟨rfl, rfl⟩ nd_X1_allGlasses ⟨Nat.le_of_ble_eq_true rfl, Nat.le_of_ble_eq_true rfl⟩ rfl rfl (by simp [xg_rf_cat, xg_cat_i, xg_cat_l, xg_cat_a]) ⟨Nat.zero_le _, Nat.zero_le _⟩ dX1_open_105 hF (fun r17 h16 hF => ?_)
    obtain ⟨a18, ha18, hka18, hF⟩ := hF
    refine xg_cvV (pc := 108) (C1 := RX10) (T1 := TX10) (ci := 10) C (fun zs => [.int (xg_i h15 this 12), .int (xg_i h15 this 13), .int r17]) ha18 hka18 (by decide) rfl (met_X10_explore Y a18 (xg_i h15 this 12) (xg_i h15 this 13) r17) gX1_open_X10_explore rfl ⟨rfl, rfl⟩ nd_X10_explore ⟨Nat.le_of_ble_eq_true rfl, Nat.le_of_ble_eq_true rfl⟩ rfl rfl (Nat.le_of_ble_eq_true rfl) ⟨Nat.zero_le _, Nat.zero_le _⟩ dX1_open_108 hF (fun h19 hF => ?_)
    refine xg_aload_n (pc := 111) C dX1_open_111 0 rfl ?_
    refine xg_aload_n (pc := 112) C dX1_open_112 0 rfl ?_
    refine xg_getr (pc := 113) (C1 := RX1) (T1 := TX1) (ci := 1) (ref := "SandGlasses$Book") C inm_X1_open_1 rfl (by decide) 0 (by decide) rfl dX1_open_113 (List.mem_of_getElem? (i := 13) rfl) rfl rfl hthis ?_
    obtain ⟨a20, ha20, hka20, hF⟩ := hF
    refine xg_cvI (pc := 116) (C1 := RX10) (T1 := TX10) (ci := 10) C (fun zs => []) ha20 hka20 (by decide) rfl (met_X10_eventMinutes Y a20) gX1_open_X10_eventMinutes rfl ⟨rfl, rfl⟩ nd_X10_eventMinutes ⟨Nat.le_of_ble_eq_true rfl, Nat.le_of_ble_eq_true rfl⟩ rfl rfl (Nat.le_of_ble_eq_true rfl) ⟨Nat.zero_le _, Nat.zero_le _⟩ dX1_open_116 hF (fun r22 h21 hF => ?_)
    refine xg_puti (pc := 119) (C1 := RX1) (T1 := TX1) (ci := 1) (ref := "SandGlasses$Book") C inm_X1_open_1 rfl (by decide) tyX1 tyX1_ok nmX1 16 (by decide) rfl dX1_open_119 (List.mem_of_getElem? (i := 14) rfl) rfl rfl (tyX1_ok 16 (by decide)) rfl hthis (fun h23 eh23 => ?_)
    have hF := hF h23 eh23
    exact xg_retV (pc := 122) C E dX1_open_122 hF
  · skip
    refine xg_aload_n (pc := 0) C dX1_open_0 1 rfl ?_
    obtain ⟨a1, ha1, hka1, hF⟩ := hF
    refine xg_getr (pc := 1) (C1 := RX8) (T1 := TX8) (ci := 8) (ref := "SandGlasses$Text") C inm_X1_open_8 rfl (by decide) 1 (by decide) rfl dX1_open_1 (List.mem_of_getElem? (i := 1) rfl) rfl ha1 hka1 ?_
    refine xg_aload_n (pc := 4) C dX1_open_4 1 rfl ?_
    refine xg_geti (pc := 5) (C1 := RX8) (T1 := TX8) (ci := 8) (ref := "SandGlasses$Text") C inm_X1_open_8 rfl (by decide) 0 (by decide) rfl dX1_open_5 (List.mem_of_getElem? (i := 2) rfl) rfl ha1 hka1 ?_
    refine xg_cnI (pc := 8) (host := "SandGlasses") C (fun zs => [va_rf (xg_o h a1 1), .int (xg_i h a1 0)]) (by decide +kernel) (List.mem_of_getElem? (i := 16) rfl) (List.mem_of_getElem? (i := 15) rfl) (met_X11_codeOf Y (xg_o h a1 1) (xg_i h a1 0)) gX1_open_X11_codeOf_n82 rfl ⟨rfl, rfl⟩ nd_X11_codeOf.2 ⟨Nat.le_of_ble_eq_true rfl, Nat.le_of_ble_eq_true rfl⟩ rfl rfl (Nat.le_of_ble_eq_true rfl) ⟨Nat.zero_le _, Nat.zero_le _⟩ dX1_open_8 hF (fun r3 h2 hF => ?_)
    refine xg_istore_n (pc := 11) (lv2 := [(2, .int r3), (0, va_rf (some this)), (1, va_rf x1)]) C dX1_open_11 4 hnL (by decide) (by cases x1 <;> rfl) ?_
    refine xg_aload_n (pc := 12) C dX1_open_12 2 rfl ?_
    refine xg_getr (pc := 13) (C1 := RX8) (T1 := TX8) (ci := 8) (ref := "SandGlasses$Text") C inm_X1_open_8 rfl (by decide) 2 (by decide) rfl dX1_open_13 (List.mem_of_getElem? (i := 3) rfl) rfl ha1 hka1 ?_
    refine xg_aload_n (pc := 16) C dX1_open_16 2 rfl ?_
    refine xg_geti (pc := 17) (C1 := RX8) (T1 := TX8) (ci := 8) (ref := "SandGlasses$Text") C inm_X1_open_8 rfl (by decide) 0 (by decide) rfl dX1_open_17 (List.mem_of_getElem? (i := 2) rfl) rfl ha1 hka1 ?_
    refine xg_cnI (pc := 20) (host := "SandGlasses") C (fun zs => [va_rf (xg_o h2 a1 2), .int (xg_i h2 a1 0)]) (by decide +kernel) (List.mem_of_getElem? (i := 16) rfl) (List.mem_of_getElem? (i := 15) rfl) (met_X11_codeOf Y (xg_o h2 a1 2) (xg_i h2 a1 0)) gX1_open_X11_codeOf_n82 rfl ⟨rfl, rfl⟩ nd_X11_codeOf.2 ⟨Nat.le_of_ble_eq_true rfl, Nat.le_of_ble_eq_true rfl⟩ rfl rfl (Nat.le_of_ble_eq_true rfl) ⟨Nat.zero_le _, Nat.zero_le _⟩ dX1_open_20 hF (fun r5 h4 hF => ?_)
    refine xg_istore_n (pc := 23) (lv2 := [(3, .int r5), (2, .int r3), (0, va_rf (some this)), (1, va_rf x1)]) C dX1_open_23 4 hnL (by decide) rfl ?_
    refine xg_iload_n (pc := 24) C dX1_open_24 1 rfl ?_
    refine xg_aload_n (pc := 25) C dX1_open_25 2 rfl ?_
    refine xg_geti (pc := 26) (C1 := RX1) (T1 := TX1) (ci := 1) (ref := "SandGlasses$Book") C inm_X1_open_1 rfl (by decide) 12 (by decide) rfl dX1_open_26 (List.mem_of_getElem? (i := 4) rfl) rfl rfl hthis ?_
    refine xg_icmp_ne (pc := 29) 41 C dX1_open_29 (by decide) (fun hc => ?_) (fun hc => ?_)
    · have hF := hF.1 hc
      refine xg_sub (lv2 := [(0, va_rf (some this)), (1, va_rf x1), (2, .int r3), (3, .int r5)]) [2, 3, 1, 0] rfl ?_
      exact hF
    · have hF := hF.2 hc
      refine xg_iload_n (pc := 32) C dX1_open_32 0 rfl ?_
      refine xg_aload_n (pc := 33) C dX1_open_33 2 rfl ?_
      refine xg_geti (pc := 34) (C1 := RX1) (T1 := TX1) (ci := 1) (ref := "SandGlasses$Book") C inm_X1_open_1 rfl (by decide) 13 (by decide) rfl dX1_open_34 (List.mem_of_getElem? (i := 5) rfl) rfl rfl hthis ?_
      refine xg_icmp_ne (pc := 37) 41 C dX1_open_37 (by decide) (fun hc => ?_) (fun hc => ?_)
      · have hF := hF.1 hc
        refine xg_sub (lv2 := [(0, va_rf (some this)), (1, va_rf x1), (2, .int r3), (3, .int r5)]) [2, 3, 1, 0] rfl ?_
        exact hF
      · have hF := hF.2 hc
        exact xg_retV (pc := 40) C E dX1_open_40 hF
def rm_X1_rowAt : Room := { frames := 4, cells := 0, slots := 0, locals := 100 }
theorem nd_X1_rowAt : yX1_rowAt.cls = RX1 ∧ yX1_rowAt.cls ≠ "java/lang/invoke/MethodHandle" ∧ yX1_rowAt.cls ≠ "java/lang/invoke/VarHandle" ∧ (parseMethodDescriptor yX1_rowAt.desc).map (fun d => d.parameters.length) = some 2 := by decide +kernel
theorem inm_X1_rowAt_1 : ∀ w ∈ u_ws RX1 TX1 (xg_N 1), w ∈ wsX1_rowAt := fun _ h9 => List.mem_cons_of_mem _ (List.mem_append_left _ (List.mem_append_left _ (List.mem_append_right _ h9)))
set_option maxHeartbeats 4000000 in
set_option maxRecDepth 100000 in
theorem met_X1_rowAt (Y : xg_Y) (this : Nat) (x1 : Int32) (x2 : Int32) : xg_MI yX1_rowAt wsX1_rowAt rm_X1_rowAt Y (fun zs => [va_rf (some this), .int x1, .int x2]) (fun Q h => wp_X1_rowAt Y Q this x1 x2 h) := by
  refine xg_startI (cc := cX1_rowAt) (maxL := 3) (own := RX1) (by decide) rfl rfl (fun zs => Nat.le_of_ble_eq_true rfl) (fun X Q h C hnL E hw => ?_)
  unfold wp_X1_rowAt at hw
  obtain ⟨hthis, hw⟩ := hw
  refine xg_sub (lv2 := [(0, va_rf (some this)), (1, .int x1), (2, .int x2)]) [0, 1, 2] rfl ?_
  refine mg_use (hw (fun (h : xg_H) => xg_W X 0 0 Y 32 [(0, va_rf (some this)), (2, .int x2)] [] h) ?_) (fun hF => ?_)
  · intro h hF
    refine xg_iload_n (pc := 32) C dX1_rowAt_32 1 rfl ?_
    refine xg_bipush (pc := 33) (v := 50) C dX1_rowAt_33 (by decide) ?_
    refine xg_icmp_lt (pc := 35) 59 C dX1_rowAt_35 (by decide) (fun hc => ?_) (fun hc => ?_)
    · have hF := hF.1 hc
      refine xg_iconst (pc := 59) (v := (-1)) C dX1_rowAt_59 (by decide) ?_
      exact xg_retI (pc := 60) C E dX1_rowAt_60 hF
    · have hF := hF.2 hc
      refine xg_iload_n (pc := 38) C dX1_rowAt_38 1 rfl ?_
      refine xg_bipush (pc := 39) (v := 50) C dX1_rowAt_39 (by decide) ?_
      refine xg_aload_n (pc := 41) C dX1_rowAt_41 0 rfl ?_
      refine xg_geti (pc := 42) (C1 := RX1) (T1 := TX1) (ci := 1) (ref := "SandGlasses$Book") C inm_X1_rowAt_1 rfl (by decide) 10 (by decide) rfl dX1_rowAt_42 (List.mem_of_getElem? (i := 1) rfl) rfl rfl hthis ?_
      refine xg_iadd (pc := 45) C dX1_rowAt_45 ?_
      refine xg_icmp_ge (pc := 46) 59 C dX1_rowAt_46 (by decide) (fun hc => ?_) (fun hc => ?_)
      · have hF := hF.1 hc
        refine xg_iconst (pc := 59) (v := (-1)) C dX1_rowAt_59 (by decide) ?_
        exact xg_retI (pc := 60) C E dX1_rowAt_60 hF
      · have hF := hF.2 hc
        refine xg_aload_n (pc := 49) C dX1_rowAt_49 0 rfl ?_
        refine xg_getr (pc := 50) (C1 := RX1) (T1 := TX1) (ci := 1) (ref := "SandGlasses$Book") C inm_X1_rowAt_1 rfl (by decide) 9 (by decide) rfl dX1_rowAt_50 (List.mem_of_getElem? (i := 3) rfl) rfl rfl hthis ?_
        refine xg_iload_n (pc := 53) C dX1_rowAt_53 1 rfl ?_
        refine xg_bipush (pc := 54) (v := 50) C dX1_rowAt_54 (by decide) ?_
        refine xg_isub (pc := 56) C dX1_rowAt_56 ?_
        obtain ⟨a3, ha3, hka3, hF⟩ := hF
        obtain ⟨hi, hF⟩ := hF
        refine xg_iald (pc := 57) C ha3 hka3 hi dX1_rowAt_57 ?_
        exact xg_retI (pc := 58) C E dX1_rowAt_58 hF
  · skip
    refine xg_aload_n (pc := 0) C dX1_rowAt_0 0 rfl ?_
    refine xg_iload_n (pc := 1) C dX1_rowAt_1 1 rfl ?_
    refine xg_cvV (pc := 2) (C1 := RX1) (T1 := TX1) (ci := 1) C (fun zs => [.int x1]) rfl hthis (by decide) rfl (met_X1_findRow Y this x1) gX1_rowAt_X1_findRow rfl ⟨rfl, rfl⟩ nd_X1_findRow ⟨Nat.le_of_ble_eq_true rfl, Nat.le_of_ble_eq_true rfl⟩ rfl rfl (Nat.le_of_ble_eq_true rfl) ⟨Nat.zero_le _, Nat.zero_le _⟩ dX1_rowAt_2 hF (fun h1 hF => ?_)
    refine xg_iload_n (pc := 5) C dX1_rowAt_5 2 rfl ?_
    refine xg_bipush (pc := 6) (v := 10) C dX1_rowAt_6 (by decide) ?_
    refine xg_icmp_lt (pc := 8) 32 C dX1_rowAt_8 (by decide) (fun hc => ?_) (fun hc => ?_)
    · have hF := hF.1 hc
      refine xg_sub (lv2 := [(0, va_rf (some this)), (2, .int x2)]) [0, 2] rfl ?_
      exact hF
    · have hF := hF.2 hc
      refine xg_iload_n (pc := 11) C dX1_rowAt_11 2 rfl ?_
      refine xg_bipush (pc := 12) (v := 10) C dX1_rowAt_12 (by decide) ?_
      refine xg_aload_n (pc := 14) C dX1_rowAt_14 0 rfl ?_
      refine xg_geti (pc := 15) (C1 := RX1) (T1 := TX1) (ci := 1) (ref := "SandGlasses$Book") C inm_X1_rowAt_1 rfl (by decide) 10 (by decide) rfl dX1_rowAt_15 (List.mem_of_getElem? (i := 1) rfl) rfl rfl hthis ?_
      refine xg_iadd (pc := 18) C dX1_rowAt_18 ?_
      refine xg_icmp_ge (pc := 19) 32 C dX1_rowAt_19 (by decide) (fun hc => ?_) (fun hc => ?_)
      · have hF := hF.1 hc
        refine xg_sub (lv2 := [(0, va_rf (some this)), (2, .int x2)]) [0, 2] rfl ?_
        exact hF
      · have hF := hF.2 hc
        refine xg_aload_n (pc := 22) C dX1_rowAt_22 0 rfl ?_
        refine xg_getr (pc := 23) (C1 := RX1) (T1 := TX1) (ci := 1) (ref := "SandGlasses$Book") C inm_X1_rowAt_1 rfl (by decide) 8 (by decide) rfl dX1_rowAt_23 (List.mem_of_getElem? (i := 2) rfl) rfl rfl hthis ?_
        refine xg_iload_n (pc := 26) C dX1_rowAt_26 2 rfl ?_
        refine xg_bipush (pc := 27) (v := 10) C dX1_rowAt_27 (by decide) ?_
        refine xg_isub (pc := 29) C dX1_rowAt_29 ?_
        obtain ⟨a2, ha2, hka2, hF⟩ := hF
        obtain ⟨hi, hF⟩ := hF
        refine xg_iald (pc := 30) C ha2 hka2 hi dX1_rowAt_30 ?_
        exact xg_retI (pc := 31) C E dX1_rowAt_31 hF
def rm_X1_usedInRow : Room := { frames := 4, cells := 0, slots := 0, locals := 100 }
theorem nd_X1_usedInRow : yX1_usedInRow.cls = RX1 ∧ yX1_usedInRow.cls ≠ "java/lang/invoke/MethodHandle" ∧ yX1_usedInRow.cls ≠ "java/lang/invoke/VarHandle" ∧ (parseMethodDescriptor yX1_usedInRow.desc).map (fun d => d.parameters.length) = some 2 := by decide +kernel
theorem inm_X1_usedInRow_1 : ∀ w ∈ u_ws RX1 TX1 (xg_N 1), w ∈ wsX1_usedInRow := fun _ h9 => List.mem_cons_of_mem _ (List.mem_append_left _ (List.mem_append_left _ (List.mem_append_right _ h9)))
set_option maxHeartbeats 4000000 in
set_option maxRecDepth 100000 in
theorem met_X1_usedInRow (Y : xg_Y) (this : Nat) (x1 : Int32) (x2 : Int32) : xg_MI yX1_usedInRow wsX1_usedInRow rm_X1_usedInRow Y (fun zs => [va_rf (some this), .int x1, .int x2]) (fun Q h => wp_X1_usedInRow Y Q this x1 x2 h) := by
  refine xg_startI (cc := cX1_usedInRow) (maxL := 5) (own := RX1) (by decide) rfl rfl (fun zs => Nat.le_of_ble_eq_true rfl) (fun X Q h C hnL E hw => ?_)
  unfold wp_X1_usedInRow at hw
  obtain ⟨hthis, hw⟩ := hw
  refine xg_sub (lv2 := [(0, va_rf (some this)), (1, .int x1), (2, .int x2)]) [0, 1, 2] rfl ?_
  refine mg_use (hw (fun (y3 : Int32) (y4 : Int32) (h : xg_H) => xg_W X 0 0 Y 10 [(0, va_rf (some this)), (2, .int x2), (3, .int y3), (4, .int y4)] [] h) (fun (y4 : Int32) (s0 : Int32) (s1 : Int32) (h : xg_H) => xg_W X 0 0 Y 39 [(0, va_rf (some this)), (2, .int x2), (4, .int y4)] [.int s0, .int s1] h) ?_ ?_) (fun hF => ?_)
  · intro y3 y4 h hF
    refine xg_iload (pc := 10) C dX1_usedInRow_10 3 rfl ?_
    refine xg_aload_n (pc := 12) C dX1_usedInRow_12 0 rfl ?_
    refine xg_geti (pc := 13) (C1 := RX1) (T1 := TX1) (ci := 1) (ref := "SandGlasses$Book") C inm_X1_usedInRow_1 rfl (by decide) 10 (by decide) rfl dX1_usedInRow_13 (List.mem_of_getElem? (i := 1) rfl) rfl rfl hthis ?_
    refine xg_icmp_ge (pc := 16) 47 C dX1_usedInRow_16 (by decide) (fun hc => ?_) (fun hc => ?_)
    · have hF := hF.1 hc
      refine xg_iload_n (pc := 47) C dX1_usedInRow_47 2 rfl ?_
      exact xg_retI (pc := 48) C E dX1_usedInRow_48 hF
    · have hF := hF.2 hc
      refine xg_iload_n (pc := 19) C dX1_usedInRow_19 2 rfl ?_
      refine xg_aload_n (pc := 20) C dX1_usedInRow_20 0 rfl ?_
      refine xg_getr (pc := 21) (C1 := RX1) (T1 := TX1) (ci := 1) (ref := "SandGlasses$Book") C inm_X1_usedInRow_1 rfl (by decide) 8 (by decide) rfl dX1_usedInRow_21 (List.mem_of_getElem? (i := 2) rfl) rfl rfl hthis ?_
      refine xg_iload (pc := 24) C dX1_usedInRow_24 3 rfl ?_
      obtain ⟨a2, ha2, hka2, hF⟩ := hF
      obtain ⟨hi, hF⟩ := hF
      refine xg_iald (pc := 26) C ha2 hka2 hi dX1_usedInRow_26 ?_
      refine xg_iload_n (pc := 27) C dX1_usedInRow_27 1 rfl ?_
      refine xg_cnI (pc := 28) (host := "SandGlasses") C (fun zs => [.int (xg_i h a2 y4.toNatClampNeg), .int x2]) (by decide +kernel) (List.mem_of_getElem? (i := 66) rfl) (List.mem_of_getElem? (i := 69) rfl) (met_X11_has Y (xg_i h a2 y4.toNatClampNeg) x2) gX1_usedInRow_X11_has_n143 rfl ⟨rfl, rfl⟩ nd_X11_has.2 ⟨Nat.le_of_ble_eq_true rfl, Nat.le_of_ble_eq_true rfl⟩ rfl rfl (Nat.le_of_ble_eq_true rfl) ⟨Nat.zero_le _, Nat.zero_le _⟩ dX1_usedInRow_28 hF (fun r4 h3 hF => ?_)
      refine xg_if_eq (pc := 31) 38 C dX1_usedInRow_31 (by decide) (fun hc => ?_) (fun hc => ?_)
      · have hF := hF.1 hc
        refine xg_iconst (pc := 38) (v := 0) C dX1_usedInRow_38 (by decide) ?_
        refine xg_sub (lv2 := [(0, va_rf (some this)), (2, .int x2), (4, .int y4)]) [0, 1, 3] rfl ?_
        exact hF
      · have hF := hF.2 hc
        refine xg_iconst (pc := 34) (v := 1) C dX1_usedInRow_34 (by decide) ?_
        refine xg_goto (pc := 35) 39 C dX1_usedInRow_35 (by decide) ?_
        refine xg_sub (lv2 := [(0, va_rf (some this)), (2, .int x2), (4, .int y4)]) [0, 1, 3] rfl ?_
        exact hF
  · intro y4 s0 s1 h hF
    refine xg_iadd (pc := 39) C dX1_usedInRow_39 ?_
    refine xg_topi (pc := 40) (fun z5 ez5 => ?_)
    have hF := hF z5 ez5
    refine xg_istore_n (pc := 40) (lv2 := [(3, .int z5), (0, va_rf (some this)), (2, .int x2), (4, .int y4)]) C dX1_usedInRow_40 5 hnL (by decide) rfl ?_
    obtain ⟨z6, ez6⟩ : ∃ y : Int32, y = y4 + 1 := ⟨_, rfl⟩
    have hF := hF z6 ez6
    refine xg_iinc (pc := 41) (v := z6) (lv2 := [(4, .int z6), (3, .int z5), (0, va_rf (some this)), (2, .int x2)]) C dX1_usedInRow_41 3 rfl (by rw [ez6]; rfl) 5 hnL (by decide) rfl ?_
    refine xg_goto (pc := 44) 10 C dX1_usedInRow_44 (by decide) ?_
    refine xg_sub (lv2 := [(0, va_rf (some this)), (2, .int x2), (3, .int z5), (4, .int z6)]) [2, 3, 1, 0] rfl ?_
    exact hF
  · skip
    refine xg_aload_n (pc := 0) C dX1_usedInRow_0 0 rfl ?_
    refine xg_iload_n (pc := 1) C dX1_usedInRow_1 1 rfl ?_
    refine xg_cvV (pc := 2) (C1 := RX1) (T1 := TX1) (ci := 1) C (fun zs => [.int x1]) rfl hthis (by decide) rfl (met_X1_findRow Y this x1) gX1_usedInRow_X1_findRow rfl ⟨rfl, rfl⟩ nd_X1_findRow ⟨Nat.le_of_ble_eq_true rfl, Nat.le_of_ble_eq_true rfl⟩ rfl rfl (Nat.le_of_ble_eq_true rfl) ⟨Nat.zero_le _, Nat.zero_le _⟩ dX1_usedInRow_2 hF (fun h1 hF => ?_)
    refine xg_iconst (pc := 5) (v := 0) C dX1_usedInRow_5 (by decide) ?_
    refine xg_istore_n (pc := 6) (lv2 := [(3, .int 0), (0, va_rf (some this)), (1, .int x1), (2, .int x2)]) C dX1_usedInRow_6 5 hnL (by decide) rfl ?_
    refine xg_iconst (pc := 7) (v := 0) C dX1_usedInRow_7 (by decide) ?_
    refine xg_istore (pc := 8) (lv2 := [(4, .int 0), (3, .int 0), (0, va_rf (some this)), (1, .int x1), (2, .int x2)]) C dX1_usedInRow_8 5 hnL (by decide) rfl ?_
    refine xg_sub (lv2 := [(0, va_rf (some this)), (2, .int x2), (3, .int 0), (4, .int 0)]) [2, 4, 1, 0] rfl ?_
    exact hF
def rm_X4_behind : Room := { frames := 4, cells := 0, slots := 0, locals := 90 }
theorem nd_X4_behind : yX4_behind.cls = RX4 ∧ yX4_behind.cls ≠ "java/lang/invoke/MethodHandle" ∧ yX4_behind.cls ≠ "java/lang/invoke/VarHandle" ∧ (parseMethodDescriptor yX4_behind.desc).map (fun d => d.parameters.length) = some 1 := by decide +kernel
set_option maxHeartbeats 4000000 in
set_option maxRecDepth 100000 in
theorem met_X4_behind (Y : xg_Y) (this : Nat) (x1 : Int32) : xg_MI yX4_behind wsX4_behind rm_X4_behind Y (fun zs => [va_rf (some this), .int x1]) (fun Q h => wp_X4_behind Y Q this x1 h) := by
  refine xg_startI (cc := cX4_behind) (maxL := 2) (own := RX4) (by decide) rfl rfl (fun zs => Nat.le_of_ble_eq_true rfl) (fun X Q h C hnL E hw => ?_)
  unfold wp_X4_behind at hw
  obtain ⟨hthis, hw⟩ := hw
  refine xg_sub (lv2 := [(0, va_rf (some this)), (1, .int x1)]) [0, 1] rfl ?_
  have hF := hw
  refine xg_aload_n (pc := 0) C dX4_behind_0 0 rfl ?_
  refine xg_iload_n (pc := 1) C dX4_behind_1 1 rfl ?_
  refine xg_cvI (pc := 2) (C1 := RX4) (T1 := TX4) (ci := 4) C (fun zs => [.int x1]) rfl hthis (by decide) rfl (met_X4_allTurned Y this x1) gX4_behind_X4_allTurned rfl ⟨rfl, rfl⟩ nd_X4_allTurned ⟨Nat.le_of_ble_eq_true rfl, Nat.le_of_ble_eq_true rfl⟩ rfl rfl (Nat.le_of_ble_eq_true rfl) ⟨Nat.zero_le _, Nat.zero_le _⟩ dX4_behind_2 hF (fun r2 h1 hF => ?_)
  refine xg_sipush (pc := 5) (v := 4095) C dX4_behind_5 (by decide) ?_
  refine xg_iand (pc := 8) C dX4_behind_8 ?_
  exact xg_retI (pc := 9) C E dX4_behind_9 hF
def rm_X4_roundLength : Room := { frames := 5, cells := 0, slots := 0, locals := 111 }
theorem nd_X4_roundLength : yX4_roundLength.cls = RX4 ∧ yX4_roundLength.cls ≠ "java/lang/invoke/MethodHandle" ∧ yX4_roundLength.cls ≠ "java/lang/invoke/VarHandle" ∧ (parseMethodDescriptor yX4_roundLength.desc).map (fun d => d.parameters.length) = some 0 := by decide +kernel
theorem inm_X4_roundLength_4 : ∀ w ∈ u_ws RX4 TX4 (xg_N 4), w ∈ wsX4_roundLength := fun _ h9 => List.mem_cons_of_mem _ (List.mem_append_left _ (List.mem_append_right _ h9))
set_option maxHeartbeats 4000000 in
set_option maxRecDepth 100000 in
theorem met_X4_roundLength (Y : xg_Y) (this : Nat) : xg_MI yX4_roundLength wsX4_roundLength rm_X4_roundLength Y (fun zs => [va_rf (some this)]) (fun Q h => wp_X4_roundLength Y Q this h) := by
  refine xg_startI (cc := cX4_roundLength) (maxL := 6) (own := RX4) (by decide) rfl rfl (fun zs => Nat.le_of_ble_eq_true rfl) (fun X Q h C hnL E hw => ?_)
  unfold wp_X4_roundLength at hw
  obtain ⟨hthis, hw⟩ := hw
  refine xg_sub (lv2 := [(0, va_rf (some this))]) [0] rfl ?_
  refine mg_use (hw (fun (y1 : Int32) (y2 : Int32) (y3 : Int32) (y4 : Int32) (y5 : Int32) (h : xg_H) => xg_W X 0 0 Y 22 [(0, va_rf (some this)), (1, .int y1), (2, .int y2), (3, .int y3), (4, .int y4), (5, .int y5)] [] h) (fun (y1 : Int32) (y2 : Int32) (y3 : Int32) (y4 : Int32) (y5 : Int32) (h : xg_H) => xg_W X 0 0 Y 51 [(0, va_rf (some this)), (1, .int y1), (2, .int y2), (3, .int y3), (4, .int y4), (5, .int y5)] [] h) ?_ ?_) (fun hF => ?_)
  · intro y1 y2 y3 y4 y5 h hF
    refine xg_iload (pc := 22) C dX4_roundLength_22 5 rfl ?_
    refine xg_sipush (pc := 24) (v := 16384) C dX4_roundLength_24 (by decide) ?_
    refine xg_icmp_ge (pc := 27) 66 C dX4_roundLength_27 (by decide) (fun hc => ?_) (fun hc => ?_)
    · have hF := hF.1 hc
      refine xg_iload_n (pc := 66) C dX4_roundLength_66 3 rfl ?_
      exact xg_retI (pc := 67) C E dX4_roundLength_67 hF
    · have hF := hF.2 hc
      refine xg_iload_n (pc := 30) C dX4_roundLength_30 2 rfl ?_
      refine xg_iload_n (pc := 31) C dX4_roundLength_31 1 rfl ?_
      refine xg_icmp_eq (pc := 32) 66 C dX4_roundLength_32 (by decide) (fun hc => ?_) (fun hc => ?_)
      · have hF := hF.1 hc
        refine xg_iload_n (pc := 66) C dX4_roundLength_66 3 rfl ?_
        exact xg_retI (pc := 67) C E dX4_roundLength_67 hF
      · have hF := hF.2 hc
        refine xg_iload_n (pc := 35) C dX4_roundLength_35 3 rfl ?_
        refine xg_iload (pc := 36) C dX4_roundLength_36 4 rfl ?_
        refine xg_icmp_ne (pc := 38) 51 C dX4_roundLength_38 (by decide) (fun hc => ?_) (fun hc => ?_)
        · have hF := hF.1 hc
          exact hF
        · have hF := hF.2 hc
          refine xg_iload_n (pc := 41) C dX4_roundLength_41 2 rfl ?_
          refine xg_istore_n (pc := 42) (lv2 := [(1, .int y2), (0, va_rf (some this)), (2, .int y2), (3, .int y3), (4, .int y4), (5, .int y5)]) C dX4_roundLength_42 6 hnL (by decide) rfl ?_
          refine xg_iload (pc := 43) C dX4_roundLength_43 4 rfl ?_
          refine xg_iconst (pc := 45) (v := 2) C dX4_roundLength_45 (by decide) ?_
          refine xg_imul (pc := 46) C dX4_roundLength_46 ?_
          refine xg_topi (pc := 47) (fun z4 ez4 => ?_)
          have hF := hF z4 ez4
          refine xg_istore (pc := 47) (lv2 := [(4, .int z4), (1, .int y2), (0, va_rf (some this)), (2, .int y2), (3, .int y3), (5, .int y5)]) C dX4_roundLength_47 6 hnL (by decide) rfl ?_
          refine xg_iconst (pc := 49) (v := 0) C dX4_roundLength_49 (by decide) ?_
          refine xg_istore_n (pc := 50) (lv2 := [(3, .int 0), (4, .int z4), (1, .int y2), (0, va_rf (some this)), (2, .int y2), (5, .int y5)]) C dX4_roundLength_50 6 hnL (by decide) rfl ?_
          refine xg_sub (lv2 := [(0, va_rf (some this)), (1, .int y2), (2, .int y2), (3, .int 0), (4, .int z4), (5, .int y5)]) [3, 2, 4, 0, 1, 5] rfl ?_
          exact hF
  · intro y1 y2 y3 y4 y5 h hF
    refine xg_aload_n (pc := 51) C dX4_roundLength_51 0 rfl ?_
    refine xg_iload_n (pc := 52) C dX4_roundLength_52 2 rfl ?_
    refine xg_cvI (pc := 53) (C1 := RX4) (T1 := TX4) (ci := 4) C (fun zs => [.int y2]) rfl hthis (by decide) rfl (met_X4_behind Y this y2) gX4_roundLength_X4_behind rfl ⟨rfl, rfl⟩ nd_X4_behind ⟨Nat.le_of_ble_eq_true rfl, Nat.le_of_ble_eq_true rfl⟩ rfl rfl (Nat.le_of_ble_eq_true rfl) ⟨Nat.zero_le _, Nat.zero_le _⟩ dX4_roundLength_53 hF (fun r6 h5 hF => ?_)
    refine xg_istore_n (pc := 56) (lv2 := [(2, .int r6), (0, va_rf (some this)), (1, .int y1), (3, .int y3), (4, .int y4), (5, .int y5)]) C dX4_roundLength_56 6 hnL (by decide) rfl ?_
    obtain ⟨z7, ez7⟩ : ∃ y : Int32, y = y3 + 1 := ⟨_, rfl⟩
    have hF := hF z7 ez7
    refine xg_iinc (pc := 57) (v := z7) (lv2 := [(3, .int z7), (2, .int r6), (0, va_rf (some this)), (1, .int y1), (4, .int y4), (5, .int y5)]) C dX4_roundLength_57 3 rfl (by rw [ez7]; rfl) 6 hnL (by decide) rfl ?_
    obtain ⟨z8, ez8⟩ : ∃ y : Int32, y = y5 + 1 := ⟨_, rfl⟩
    have hF := hF z8 ez8
    refine xg_iinc (pc := 60) (v := z8) (lv2 := [(5, .int z8), (3, .int z7), (2, .int r6), (0, va_rf (some this)), (1, .int y1), (4, .int y4)]) C dX4_roundLength_60 5 rfl (by rw [ez8]; rfl) 6 hnL (by decide) rfl ?_
    refine xg_goto (pc := 63) 22 C dX4_roundLength_63 (by decide) ?_
    refine xg_sub (lv2 := [(0, va_rf (some this)), (1, .int y1), (2, .int r6), (3, .int z7), (4, .int y4), (5, .int z8)]) [3, 4, 2, 1, 5, 0] rfl ?_
    exact hF
  · skip
    refine xg_aload_n (pc := 0) C dX4_roundLength_0 0 rfl ?_
    refine xg_geti (pc := 1) (C1 := RX4) (T1 := TX4) (ci := 4) (ref := "SandGlasses$Game") C inm_X4_roundLength_4 rfl (by decide) 4 (by decide) rfl dX4_roundLength_1 (List.mem_of_getElem? (i := 1) rfl) rfl rfl hthis ?_
    refine xg_topi (pc := 4) (fun z1 ez1 => ?_)
    have hF := hF z1 ez1
    refine xg_istore_n (pc := 4) (lv2 := [(1, .int z1), (0, va_rf (some this))]) C dX4_roundLength_4 6 hnL (by decide) rfl ?_
    refine xg_aload_n (pc := 5) C dX4_roundLength_5 1 rfl ?_
    refine xg_aload_n (pc := 6) C dX4_roundLength_6 1 rfl ?_
    refine xg_geti (pc := 7) (C1 := RX4) (T1 := TX4) (ci := 4) (ref := "SandGlasses$Game") C inm_X4_roundLength_4 rfl (by decide) 4 (by decide) rfl dX4_roundLength_7 (List.mem_of_getElem? (i := 1) rfl) rfl rfl hthis ?_
    refine xg_cvI (pc := 10) (C1 := RX4) (T1 := TX4) (ci := 4) C (fun zs => [.int (xg_i h this 4)]) rfl hthis (by decide) rfl (met_X4_behind Y this (xg_i h this 4)) gX4_roundLength_X4_behind rfl ⟨rfl, rfl⟩ nd_X4_behind ⟨Nat.le_of_ble_eq_true rfl, Nat.le_of_ble_eq_true rfl⟩ rfl rfl (Nat.le_of_ble_eq_true rfl) ⟨Nat.zero_le _, Nat.zero_le _⟩ dX4_roundLength_10 hF (fun r3 h2 hF => ?_)
    refine xg_istore_n (pc := 13) (lv2 := [(2, .int r3), (1, .int z1), (0, va_rf (some this))]) C dX4_roundLength_13 6 hnL (by decide) rfl ?_
    refine xg_iconst (pc := 14) (v := 1) C dX4_roundLength_14 (by decide) ?_
    refine xg_istore_n (pc := 15) (lv2 := [(3, .int 1), (2, .int r3), (1, .int z1), (0, va_rf (some this))]) C dX4_roundLength_15 6 hnL (by decide) rfl ?_
    refine xg_iconst (pc := 16) (v := 1) C dX4_roundLength_16 (by decide) ?_
    refine xg_istore (pc := 17) (lv2 := [(4, .int 1), (3, .int 1), (2, .int r3), (1, .int z1), (0, va_rf (some this))]) C dX4_roundLength_17 6 hnL (by decide) rfl ?_
    refine xg_iconst (pc := 19) (v := 0) C dX4_roundLength_19 (by decide) ?_
    refine xg_istore (pc := 20) (lv2 := [(5, .int 0), (4, .int 1), (3, .int 1), (2, .int r3), (1, .int z1), (0, va_rf (some this))]) C dX4_roundLength_20 6 hnL (by decide) rfl ?_
    refine xg_sub (lv2 := [(0, va_rf (some this)), (1, .int z1), (2, .int r3), (3, .int 1), (4, .int 1), (5, .int 0)]) [5, 4, 3, 2, 1, 0] rfl ?_
    exact hF
def rm_X4_goRound : Room := { frames := 6, cells := 0, slots := 0, locals := 136 }
theorem nd_X4_goRound : yX4_goRound.cls = RX4 ∧ yX4_goRound.cls ≠ "java/lang/invoke/MethodHandle" ∧ yX4_goRound.cls ≠ "java/lang/invoke/VarHandle" ∧ (parseMethodDescriptor yX4_goRound.desc).map (fun d => d.parameters.length) = some 0 := by decide +kernel
theorem inm_X4_goRound_4 : ∀ w ∈ u_ws RX4 TX4 (xg_N 4), w ∈ wsX4_goRound := fun _ h9 => List.mem_cons_of_mem _ (List.mem_append_left _ (List.mem_append_right _ h9))
set_option maxHeartbeats 4000000 in
set_option maxRecDepth 100000 in
theorem met_X4_goRound (Y : xg_Y) (this : Nat) : xg_MV yX4_goRound wsX4_goRound rm_X4_goRound Y (fun zs => [va_rf (some this)]) (fun Q h => wp_X4_goRound Y Q this h) := by
  refine xg_startV (cc := cX4_goRound) (maxL := 4) (own := RX4) (by decide) rfl rfl (fun zs => Nat.le_of_ble_eq_true rfl) (fun X Q h C hnL E hw => ?_)
  unfold wp_X4_goRound at hw
  obtain ⟨hthis, hw⟩ := hw
  refine xg_sub (lv2 := [(0, va_rf (some this))]) [0] rfl ?_
  refine mg_use (hw (fun (y1 : Int32) (y2 : Int32) (y3 : Int32) (h : xg_H) => xg_W X 0 0 Y 47 [(0, va_rf (some this)), (1, .int y1), (2, .int y2), (3, .int y3)] [] h) (fun (y1 : Int32) (y2 : Int32) (y3 : Int32) (h : xg_H) => xg_W X 0 0 Y 74 [(0, va_rf (some this)), (1, .int y1), (2, .int y2), (3, .int y3)] [] h) (fun (y1 : Int32) (h : xg_H) => xg_W X 0 0 Y 114 [(0, va_rf (some this)), (1, .int y1)] [] h) (fun (y1 : Int32) (y3 : Int32) (h : xg_H) => xg_W X 0 0 Y 121 [(0, va_rf (some this)), (1, .int y1), (3, .int y3)] [] h) ?_ ?_ ?_ ?_) (fun hF => ?_)
  · intro y1 y2 y3 h hF
    refine xg_iload_n (pc := 47) C dX4_goRound_47 3 rfl ?_
    refine xg_aload_n (pc := 48) C dX4_goRound_48 0 rfl ?_
    refine xg_geti (pc := 49) (C1 := RX4) (T1 := TX4) (ci := 4) (ref := "SandGlasses$Game") C inm_X4_goRound_4 rfl (by decide) 1 (by decide) rfl dX4_goRound_49 (List.mem_of_getElem? (i := 2) rfl) rfl rfl hthis ?_
    refine xg_icmp_ge (pc := 52) 67 C dX4_goRound_52 (by decide) (fun hc => ?_) (fun hc => ?_)
    · have hF := hF.1 hc
      refine xg_aload_n (pc := 67) C dX4_goRound_67 0 rfl ?_
      refine xg_iconst (pc := 68) (v := 0) C dX4_goRound_68 (by decide) ?_
      refine xg_puti (pc := 69) (C1 := RX4) (T1 := TX4) (ci := 4) (ref := "SandGlasses$Game") C inm_X4_goRound_4 rfl (by decide) tyX4 tyX4_ok nmX4 0 (by decide) rfl dX4_goRound_69 (List.mem_of_getElem? (i := 1) rfl) rfl rfl (tyX4_ok 0 (by decide)) rfl hthis (fun h11 eh11 => ?_)
      have hF := hF h11 eh11
      refine xg_iconst (pc := 72) (v := 0) C dX4_goRound_72 (by decide) ?_
      refine xg_istore_n (pc := 73) (lv2 := [(3, .int 0), (0, va_rf (some this)), (1, .int y1), (2, .int y2)]) C dX4_goRound_73 4 hnL (by decide) rfl ?_
      refine xg_sub (lv2 := [(0, va_rf (some this)), (1, .int y1), (2, .int y2), (3, .int 0)]) [1, 2, 3, 0] rfl ?_
      exact hF
    · have hF := hF.2 hc
      refine xg_aload_n (pc := 55) C dX4_goRound_55 0 rfl ?_
      refine xg_iload_n (pc := 56) C dX4_goRound_56 2 rfl ?_
      refine xg_cvI (pc := 57) (C1 := RX4) (T1 := TX4) (ci := 4) C (fun zs => [.int y2]) rfl hthis (by decide) rfl (met_X4_behind Y this y2) gX4_goRound_X4_behind rfl ⟨rfl, rfl⟩ nd_X4_behind ⟨Nat.le_of_ble_eq_true rfl, Nat.le_of_ble_eq_true rfl⟩ rfl rfl (Nat.le_of_ble_eq_true rfl) ⟨Nat.zero_le _, Nat.zero_le _⟩ dX4_goRound_57 hF (fun r13 h12 hF => ?_)
      refine xg_istore_n (pc := 60) (lv2 := [(2, .int r13), (0, va_rf (some this)), (1, .int y1), (3, .int y3)]) C dX4_goRound_60 4 hnL (by decide) rfl ?_
      obtain ⟨z14, ez14⟩ : ∃ y : Int32, y = y3 + 1 := ⟨_, rfl⟩
      have hF := hF z14 ez14
      refine xg_iinc (pc := 61) (v := z14) (lv2 := [(3, .int z14), (2, .int r13), (0, va_rf (some this)), (1, .int y1)]) C dX4_goRound_61 3 rfl (by rw [ez14]; rfl) 4 hnL (by decide) rfl ?_
      refine xg_goto (pc := 64) 47 C dX4_goRound_64 (by decide) ?_
      refine xg_sub (lv2 := [(0, va_rf (some this)), (1, .int y1), (2, .int r13), (3, .int z14)]) [2, 3, 1, 0] rfl ?_
      exact hF
  · intro y1 y2 y3 h hF
    refine xg_iload_n (pc := 74) C dX4_goRound_74 3 rfl ?_
    refine xg_sipush (pc := 75) (v := 4096) C dX4_goRound_75 (by decide) ?_
    refine xg_icmp_ge (pc := 78) 114 C dX4_goRound_78 (by decide) (fun hc => ?_) (fun hc => ?_)
    · have hF := hF.1 hc
      refine xg_sub (lv2 := [(0, va_rf (some this)), (1, .int y1)]) [0, 1] rfl ?_
      exact hF
    · have hF := hF.2 hc
      refine xg_iload_n (pc := 81) C dX4_goRound_81 1 rfl ?_
      refine xg_iload_n (pc := 82) C dX4_goRound_82 2 rfl ?_
      refine xg_icmp_eq (pc := 83) 114 C dX4_goRound_83 (by decide) (fun hc => ?_) (fun hc => ?_)
      · have hF := hF.1 hc
        refine xg_sub (lv2 := [(0, va_rf (some this)), (1, .int y1)]) [0, 1] rfl ?_
        exact hF
      · have hF := hF.2 hc
        refine xg_aload_n (pc := 86) C dX4_goRound_86 0 rfl ?_
        refine xg_iload_n (pc := 87) C dX4_goRound_87 1 rfl ?_
        refine xg_cvI (pc := 88) (C1 := RX4) (T1 := TX4) (ci := 4) C (fun zs => [.int y1]) rfl hthis (by decide) rfl (met_X4_behind Y this y1) gX4_goRound_X4_behind rfl ⟨rfl, rfl⟩ nd_X4_behind ⟨Nat.le_of_ble_eq_true rfl, Nat.le_of_ble_eq_true rfl⟩ rfl rfl (Nat.le_of_ble_eq_true rfl) ⟨Nat.zero_le _, Nat.zero_le _⟩ dX4_goRound_88 hF (fun r16 h15 hF => ?_)
        refine xg_istore_n (pc := 91) (lv2 := [(1, .int r16), (0, va_rf (some this)), (2, .int y2), (3, .int y3)]) C dX4_goRound_91 4 hnL (by decide) rfl ?_
        refine xg_aload_n (pc := 92) C dX4_goRound_92 1 rfl ?_
        refine xg_iload_n (pc := 93) C dX4_goRound_93 2 rfl ?_
        refine xg_cvI (pc := 94) (C1 := RX4) (T1 := TX4) (ci := 4) C (fun zs => [.int y2]) rfl hthis (by decide) rfl (met_X4_behind Y this y2) gX4_goRound_X4_behind rfl ⟨rfl, rfl⟩ nd_X4_behind ⟨Nat.le_of_ble_eq_true rfl, Nat.le_of_ble_eq_true rfl⟩ rfl rfl (Nat.le_of_ble_eq_true rfl) ⟨Nat.zero_le _, Nat.zero_le _⟩ dX4_goRound_94 hF (fun r18 h17 hF => ?_)
        refine xg_istore_n (pc := 97) (lv2 := [(2, .int r18), (1, .int r16), (0, va_rf (some this)), (3, .int y3)]) C dX4_goRound_97 4 hnL (by decide) rfl ?_
        refine xg_aload_n (pc := 98) C dX4_goRound_98 2 rfl ?_
        refine xg_dup (pc := 99) C dX4_goRound_99 (xg_rf_cat _) ?_
        refine xg_geti (pc := 100) (C1 := RX4) (T1 := TX4) (ci := 4) (ref := "SandGlasses$Game") C inm_X4_goRound_4 rfl (by decide) 0 (by decide) rfl dX4_goRound_100 (List.mem_of_getElem? (i := 1) rfl) rfl rfl hthis ?_
        refine xg_iconst (pc := 103) (v := 1) C dX4_goRound_103 (by decide) ?_
        refine xg_iadd (pc := 104) C dX4_goRound_104 ?_
        refine xg_puti (pc := 105) (C1 := RX4) (T1 := TX4) (ci := 4) (ref := "SandGlasses$Game") C inm_X4_goRound_4 rfl (by decide) tyX4 tyX4_ok nmX4 0 (by decide) rfl dX4_goRound_105 (List.mem_of_getElem? (i := 1) rfl) rfl rfl (tyX4_ok 0 (by decide)) rfl hthis (fun h19 eh19 => ?_)
        have hF := hF h19 eh19
        obtain ⟨z20, ez20⟩ : ∃ y : Int32, y = y3 + 1 := ⟨_, rfl⟩
        have hF := hF z20 ez20
        refine xg_iinc (pc := 108) (v := z20) (lv2 := [(3, .int z20), (2, .int r18), (1, .int r16), (0, va_rf (some this))]) C dX4_goRound_108 3 rfl (by rw [ez20]; rfl) 4 hnL (by decide) rfl ?_
        refine xg_goto (pc := 111) 74 C dX4_goRound_111 (by decide) ?_
        refine xg_sub (lv2 := [(0, va_rf (some this)), (1, .int r16), (2, .int r18), (3, .int z20)]) [3, 2, 1, 0] rfl ?_
        exact hF
  · intro y1 h hF
    refine xg_aload_n (pc := 114) C dX4_goRound_114 0 rfl ?_
    refine xg_iconst (pc := 115) (v := 0) C dX4_goRound_115 (by decide) ?_
    refine xg_puti (pc := 116) (C1 := RX4) (T1 := TX4) (ci := 4) (ref := "SandGlasses$Game") C inm_X4_goRound_4 rfl (by decide) tyX4 tyX4_ok nmX4 2 (by decide) rfl dX4_goRound_116 (List.mem_of_getElem? (i := 3) rfl) rfl rfl (tyX4_ok 2 (by decide)) rfl hthis (fun h21 eh21 => ?_)
    have hF := hF h21 eh21
    refine xg_iconst (pc := 119) (v := 0) C dX4_goRound_119 (by decide) ?_
    refine xg_istore_n (pc := 120) (lv2 := [(3, .int 0), (0, va_rf (some this)), (1, .int y1)]) C dX4_goRound_120 4 hnL (by decide) rfl ?_
    refine xg_sub (lv2 := [(0, va_rf (some this)), (1, .int y1), (3, .int 0)]) [1, 2, 0] rfl ?_
    exact hF
  · intro y1 y3 h hF
    refine xg_iload_n (pc := 121) C dX4_goRound_121 2 rfl ?_
    refine xg_aload_n (pc := 122) C dX4_goRound_122 0 rfl ?_
    refine xg_geti (pc := 123) (C1 := RX4) (T1 := TX4) (ci := 4) (ref := "SandGlasses$Game") C inm_X4_goRound_4 rfl (by decide) 1 (by decide) rfl dX4_goRound_123 (List.mem_of_getElem? (i := 2) rfl) rfl rfl hthis ?_
    refine xg_icmp_ge (pc := 126) 158 C dX4_goRound_126 (by decide) (fun hc => ?_) (fun hc => ?_)
    · have hF := hF.1 hc
      exact xg_retV (pc := 158) C E dX4_goRound_158 hF
    · have hF := hF.2 hc
      refine xg_aload_n (pc := 129) C dX4_goRound_129 0 rfl ?_
      refine xg_dup (pc := 130) C dX4_goRound_130 (xg_rf_cat _) ?_
      refine xg_geti (pc := 131) (C1 := RX4) (T1 := TX4) (ci := 4) (ref := "SandGlasses$Game") C inm_X4_goRound_4 rfl (by decide) 2 (by decide) rfl dX4_goRound_131 (List.mem_of_getElem? (i := 3) rfl) rfl rfl hthis ?_
      refine xg_aload_n (pc := 134) C dX4_goRound_134 0 rfl ?_
      refine xg_iload_n (pc := 135) C dX4_goRound_135 1 rfl ?_
      refine xg_cvI (pc := 136) (C1 := RX4) (T1 := TX4) (ci := 4) C (fun zs => [.int y1]) rfl hthis (by decide) rfl (met_X4_allTurned Y this y1) gX4_goRound_X4_allTurned rfl ⟨rfl, rfl⟩ nd_X4_allTurned ⟨Nat.le_of_ble_eq_true rfl, Nat.le_of_ble_eq_true rfl⟩ rfl rfl (Nat.le_of_ble_eq_true rfl) ⟨Nat.zero_le _, Nat.zero_le _⟩ dX4_goRound_136 hF (fun r23 h22 hF => ?_)
      refine xg_bipush (pc := 139) (v := 12) C dX4_goRound_139 (by decide) ?_
      refine xg_ishr (pc := 141) C dX4_goRound_141 ?_
      refine xg_iadd (pc := 142) C dX4_goRound_142 ?_
      refine xg_puti (pc := 143) (C1 := RX4) (T1 := TX4) (ci := 4) (ref := "SandGlasses$Game") C inm_X4_goRound_4 rfl (by decide) tyX4 tyX4_ok nmX4 2 (by decide) rfl dX4_goRound_143 (List.mem_of_getElem? (i := 3) rfl) rfl rfl (tyX4_ok 2 (by decide)) rfl hthis (fun h24 eh24 => ?_)
      have hF := hF h24 eh24
      refine xg_aload_n (pc := 146) C dX4_goRound_146 0 rfl ?_
      refine xg_iload_n (pc := 147) C dX4_goRound_147 1 rfl ?_
      refine xg_cvI (pc := 148) (C1 := RX4) (T1 := TX4) (ci := 4) C (fun zs => [.int y1]) rfl hthis (by decide) rfl (met_X4_behind Y this y1) gX4_goRound_X4_behind rfl ⟨rfl, rfl⟩ nd_X4_behind ⟨Nat.le_of_ble_eq_true rfl, Nat.le_of_ble_eq_true rfl⟩ rfl rfl (Nat.le_of_ble_eq_true rfl) ⟨Nat.zero_le _, Nat.zero_le _⟩ dX4_goRound_148 hF (fun r26 h25 hF => ?_)
      refine xg_istore_n (pc := 151) (lv2 := [(1, .int r26), (0, va_rf (some this)), (3, .int y3)]) C dX4_goRound_151 4 hnL (by decide) rfl ?_
      obtain ⟨z27, ez27⟩ : ∃ y : Int32, y = y3 + 1 := ⟨_, rfl⟩
      have hF := hF z27 ez27
      refine xg_iinc (pc := 152) (v := z27) (lv2 := [(3, .int z27), (1, .int r26), (0, va_rf (some this))]) C dX4_goRound_152 2 rfl (by rw [ez27]; rfl) 4 hnL (by decide) rfl ?_
      refine xg_goto (pc := 155) 121 C dX4_goRound_155 (by decide) ?_
      refine xg_sub (lv2 := [(0, va_rf (some this)), (1, .int r26), (3, .int z27)]) [2, 1, 0] rfl ?_
      exact hF
  · skip
    refine xg_aload_n (pc := 0) C dX4_goRound_0 0 rfl ?_
    refine xg_iconst (pc := 1) (v := (-1)) C dX4_goRound_1 (by decide) ?_
    refine xg_puti (pc := 2) (C1 := RX4) (T1 := TX4) (ci := 4) (ref := "SandGlasses$Game") C inm_X4_goRound_4 rfl (by decide) tyX4 tyX4_ok nmX4 0 (by decide) rfl dX4_goRound_2 (List.mem_of_getElem? (i := 1) rfl) rfl rfl (tyX4_ok 0 (by decide)) rfl hthis (fun h1 eh1 => ?_)
    have hF := hF h1 eh1
    refine xg_aload_n (pc := 5) C dX4_goRound_5 0 rfl ?_
    refine xg_iconst (pc := 6) (v := (-1)) C dX4_goRound_6 (by decide) ?_
    refine xg_puti (pc := 7) (C1 := RX4) (T1 := TX4) (ci := 4) (ref := "SandGlasses$Game") C inm_X4_goRound_4 rfl (by decide) tyX4 tyX4_ok nmX4 1 (by decide) rfl dX4_goRound_7 (List.mem_of_getElem? (i := 2) rfl) rfl rfl (tyX4_ok 1 (by decide)) rfl hthis (fun h2 eh2 => ?_)
    have hF := hF h2 eh2
    refine xg_aload_n (pc := 10) C dX4_goRound_10 0 rfl ?_
    refine xg_iconst (pc := 11) (v := (-1)) C dX4_goRound_11 (by decide) ?_
    refine xg_puti (pc := 12) (C1 := RX4) (T1 := TX4) (ci := 4) (ref := "SandGlasses$Game") C inm_X4_goRound_4 rfl (by decide) tyX4 tyX4_ok nmX4 2 (by decide) rfl dX4_goRound_12 (List.mem_of_getElem? (i := 3) rfl) rfl rfl (tyX4_ok 2 (by decide)) rfl hthis (fun h3 eh3 => ?_)
    have hF := hF h3 eh3
    refine xg_aload_n (pc := 15) C dX4_goRound_15 0 rfl ?_
    refine xg_aload_n (pc := 16) C dX4_goRound_16 0 rfl ?_
    refine xg_geti (pc := 17) (C1 := RX4) (T1 := TX4) (ci := 4) (ref := "SandGlasses$Game") C inm_X4_goRound_4 rfl (by decide) 4 (by decide) rfl dX4_goRound_17 (List.mem_of_getElem? (i := 4) rfl) rfl rfl hthis ?_
    refine xg_cvI (pc := 20) (C1 := RX4) (T1 := TX4) (ci := 4) C (fun zs => [.int (xg_i h3 this 4)]) rfl hthis (by decide) rfl (met_X4_allTurned Y this (xg_i h3 this 4)) gX4_goRound_X4_allTurned rfl ⟨rfl, rfl⟩ nd_X4_allTurned ⟨Nat.le_of_ble_eq_true rfl, Nat.le_of_ble_eq_true rfl⟩ rfl rfl (Nat.le_of_ble_eq_true rfl) ⟨Nat.zero_le _, Nat.zero_le _⟩ dX4_goRound_20 hF (fun r5 h4 hF => ?_)
    refine xg_if_ne (pc := 23) 27 C dX4_goRound_23 (by decide) (fun hc => ?_) (fun hc => ?_)
    · have hF := hF.1 hc
      refine xg_aload_n (pc := 27) C dX4_goRound_27 0 rfl ?_
      refine xg_aload_n (pc := 28) C dX4_goRound_28 0 rfl ?_
      refine xg_cvI (pc := 29) (C1 := RX4) (T1 := TX4) (ci := 4) C (fun zs => []) rfl hthis (by decide) rfl (met_X4_roundLength Y this) gX4_goRound_X4_roundLength rfl ⟨rfl, rfl⟩ nd_X4_roundLength ⟨Nat.le_of_ble_eq_true rfl, Nat.le_of_ble_eq_true rfl⟩ rfl rfl (Nat.le_of_ble_eq_true rfl) ⟨Nat.zero_le _, Nat.zero_le _⟩ dX4_goRound_29 hF (fun r7 h6 hF => ?_)
      refine xg_puti (pc := 32) (C1 := RX4) (T1 := TX4) (ci := 4) (ref := "SandGlasses$Game") C inm_X4_goRound_4 rfl (by decide) tyX4 tyX4_ok nmX4 1 (by decide) rfl dX4_goRound_32 (List.mem_of_getElem? (i := 2) rfl) rfl rfl (tyX4_ok 1 (by decide)) rfl hthis (fun h8 eh8 => ?_)
      have hF := hF h8 eh8
      refine xg_aload_n (pc := 35) C dX4_goRound_35 0 rfl ?_
      refine xg_geti (pc := 36) (C1 := RX4) (T1 := TX4) (ci := 4) (ref := "SandGlasses$Game") C inm_X4_goRound_4 rfl (by decide) 4 (by decide) rfl dX4_goRound_36 (List.mem_of_getElem? (i := 4) rfl) rfl rfl hthis ?_
      refine xg_topi (pc := 39) (fun z9 ez9 => ?_)
      have hF := hF z9 ez9
      refine xg_istore_n (pc := 39) (lv2 := [(1, .int z9), (0, va_rf (some this))]) C dX4_goRound_39 4 hnL (by decide) rfl ?_
      refine xg_aload_n (pc := 40) C dX4_goRound_40 1 rfl ?_
      refine xg_geti (pc := 41) (C1 := RX4) (T1 := TX4) (ci := 4) (ref := "SandGlasses$Game") C inm_X4_goRound_4 rfl (by decide) 4 (by decide) rfl dX4_goRound_41 (List.mem_of_getElem? (i := 4) rfl) rfl rfl hthis ?_
      refine xg_topi (pc := 44) (fun z10 ez10 => ?_)
      have hF := hF z10 ez10
      refine xg_istore_n (pc := 44) (lv2 := [(2, .int z10), (1, .int z9), (0, va_rf (some this))]) C dX4_goRound_44 4 hnL (by decide) rfl ?_
      refine xg_iconst (pc := 45) (v := 0) C dX4_goRound_45 (by decide) ?_
      refine xg_istore_n (pc := 46) (lv2 := [(3, .int 0), (2, .int z10), (1, .int z9), (0, va_rf (some this))]) C dX4_goRound_46 4 hnL (by decide) rfl ?_
      refine xg_sub (lv2 := [(0, va_rf (some this)), (1, .int z9), (2, .int z10), (3, .int 0)]) [3, 2, 1, 0] rfl ?_
      exact hF
    · have hF := hF.2 hc
      exact xg_retV (pc := 26) C E dX4_goRound_26 hF
