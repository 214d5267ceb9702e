def rm_X3_of : Room := { frames := 0, cells := 0, slots := 0, locals := 0 }
theorem nd_X3_of : yX3_of.cls = RX3 ∧ yX3_of.cls ≠ "java/lang/invoke/MethodHandle" ∧ yX3_of.cls ≠ "java/lang/invoke/VarHandle" ∧ (parseMethodDescriptor yX3_of.desc).map (fun d => d.parameters.length) = some 2 := by decide +kernel
theorem inm_X3_of_3 : ∀ w ∈ u_ws RX3 TX3 (xg_N 3), w ∈ wsX3_of := fun _ h9 => List.mem_cons_of_mem _ (List.mem_append_right _ h9)
set_option maxHeartbeats 4000000 in
set_option maxRecDepth 100000 in
theorem met_X3_of (Y : xg_Y) (this : Nat) (x1 : Int32) (x2 : Int32) : xg_MI yX3_of wsX3_of rm_X3_of Y [va_rf (some this), .int x1, .int x2] (fun Q h => wp_X3_of Y Q this x1 x2 h) := by
  refine xg_startI (cc := cX3_of) (maxL := 3) (own := RX3) (by decide) rfl rfl (Nat.le_of_ble_eq_true rfl) (fun X Q h C hnL E hw => ?_)
  unfold wp_X3_of at hw
  obtain ⟨hthis, hw⟩ := hw
  refine xg_sub (lv2 := [(0, va_rf (some this)), (1, .int x1), (2, .int x2)]) [0, 1, 2] rfl ?_
  refine mg_use (hw (fun (h : xg_H) => xg_W X 0 0 Y 27 [] [] h) ?_) (fun hF => ?_)
  · intro h hF
    refine xg_ldc (pc := 27) (v := 1000000) C dX3_of_27 (List.mem_of_getElem? (i := 3) rfl) ?_
    exact xg_retI (pc := 29) C E dX3_of_29 hF
  · skip
    refine xg_iload_n (pc := 0) C dX3_of_0 2 rfl ?_
    refine xg_iconst (pc := 1) (v := 1) C dX3_of_1 (by decide) ?_
    refine xg_icmp_lt (pc := 2) 27 C dX3_of_2 (by decide) (fun hc => ?_) (fun hc => ?_)
    · have hF := hF.1 hc
      refine xg_sub (lv2 := []) [] rfl ?_
      exact hF
    · have hF := hF.2 hc
      refine xg_iload_n (pc := 5) C dX3_of_5 2 rfl ?_
      refine xg_bipush (pc := 6) (v := 30) C dX3_of_6 (by decide) ?_
      refine xg_icmp_gt (pc := 8) 27 C dX3_of_8 (by decide) (fun hc => ?_) (fun hc => ?_)
      · have hF := hF.1 hc
        refine xg_sub (lv2 := []) [] rfl ?_
        exact hF
      · have hF := hF.2 hc
        refine xg_aload_n (pc := 11) C dX3_of_11 0 rfl ?_
        refine xg_getr (pc := 12) (C1 := RX3) (T1 := TX3) (ci := 3) (ref := "SandGlasses$Costs") C inm_X3_of_3 rfl (by decide) 4 (by decide) rfl dX3_of_12 (List.mem_of_getElem? (i := 1) rfl) rfl rfl hthis ?_
        refine xg_iload_n (pc := 15) C dX3_of_15 2 rfl ?_
        refine xg_aload_n (pc := 16) C dX3_of_16 0 rfl ?_
        refine xg_geti (pc := 17) (C1 := RX3) (T1 := TX3) (ci := 3) (ref := "SandGlasses$Costs") C inm_X3_of_3 rfl (by decide) 3 (by decide) rfl dX3_of_17 (List.mem_of_getElem? (i := 2) rfl) rfl rfl hthis ?_
        refine xg_imul (pc := 20) C dX3_of_20 ?_
        refine xg_iload_n (pc := 21) C dX3_of_21 1 rfl ?_
        refine xg_iadd (pc := 22) C dX3_of_22 ?_
        obtain ⟨a1, ha1, hka1, hF⟩ := hF
        obtain ⟨hi, hF⟩ := hF
        refine xg_iald (pc := 23) C ha1 hka1 hi dX3_of_23 ?_
        refine xg_goto (pc := 24) 29 C dX3_of_24 (by decide) ?_
        exact xg_retI (pc := 29) C E dX3_of_29 hF
def rm_X1_knowTurns : Room := { frames := 2, cells := 0, slots := 0, locals := 51 }
theorem nd_X1_knowTurns : yX1_knowTurns.cls = RX1 ∧ yX1_knowTurns.cls ≠ "java/lang/invoke/MethodHandle" ∧ yX1_knowTurns.cls ≠ "java/lang/invoke/VarHandle" ∧ (parseMethodDescriptor yX1_knowTurns.desc).map (fun d => d.parameters.length) = some 0 := by decide +kernel
theorem inm_X1_knowTurns_1 : ∀ w ∈ u_ws RX1 TX1 (xg_N 1), w ∈ wsX1_knowTurns := fun _ h9 => List.mem_cons_of_mem _ (List.mem_append_left _ (List.mem_append_left _ (List.mem_append_right _ h9)))
theorem inm_X1_knowTurns_3 : ∀ w ∈ u_ws RX3 TX3 (xg_N 3), w ∈ wsX1_knowTurns := fun _ h9 => List.mem_cons_of_mem _ (List.mem_append_left _ (List.mem_append_right _ h9))
theorem inm_X1_knowTurns_10 : ∀ w ∈ u_ws RX10 TX10 (xg_N 10), w ∈ wsX1_knowTurns := fun _ h9 => List.mem_cons_of_mem _ (List.mem_append_right _ h9)
set_option maxHeartbeats 4000000 in
set_option maxRecDepth 100000 in
theorem met_X1_knowTurns (Y : xg_Y) (this : Nat) : xg_MV yX1_knowTurns wsX1_knowTurns rm_X1_knowTurns Y [va_rf (some this)] (fun Q h => wp_X1_knowTurns Y Q this h) := by
  refine xg_startV (cc := cX1_knowTurns) (maxL := 4) (own := RX1) (by decide) rfl rfl (Nat.le_of_ble_eq_true rfl) (fun X Q h C hnL E hw => ?_)
  unfold wp_X1_knowTurns at hw
  obtain ⟨hthis, hw⟩ := hw
  refine xg_sub (lv2 := [(0, va_rf (some this))]) [0] rfl ?_
  refine mg_use (hw (fun (y1 : Int32) (h : xg_H) => xg_W X 0 0 Y 2 [(0, va_rf (some this)), (1, .int y1)] [] h) (fun (y1 : Int32) (h : xg_H) => xg_W X 0 0 Y 68 [(0, va_rf (some this)), (1, .int y1)] [] h) (fun (y1 : Int32) (h : xg_H) => xg_W X 0 0 Y 97 [(0, va_rf (some this)), (1, .int y1)] [] h) (fun (y1 : Int32) (y2 : Int32) (y3 : Int32) (h : xg_H) => xg_W X 0 0 Y 123 [(0, va_rf (some this)), (1, .int y1), (2, .int y2), (3, .int y3)] [] h) (fun (y1 : Int32) (h : xg_H) => xg_W X 0 0 Y 172 [(0, va_rf (some this)), (1, .int y1)] [] h) (fun (y1 : Int32) (y2 : Int32) (y3 : Int32) (h : xg_H) => xg_W X 0 0 Y 166 [(0, va_rf (some this)), (1, .int y1), (2, .int y2), (3, .int y3)] [] h) ?_ ?_ ?_ ?_ ?_ ?_) (fun hF => ?_)
  · intro y1 h hF
    refine xg_iload_n (pc := 2) C dX1_knowTurns_2 1 rfl ?_
    refine xg_bipush (pc := 3) (v := 16) C dX1_knowTurns_3 (by decide) ?_
    refine xg_icmp_ge (pc := 5) 27 C dX1_knowTurns_5 (by decide) (fun hc => ?_) (fun hc => ?_)
    · have hF := hF.1 hc
      refine xg_aload_n (pc := 27) C dX1_knowTurns_27 0 rfl ?_
      refine xg_getr (pc := 28) (C1 := RX1) (T1 := TX1) (ci := 1) (ref := "SandGlasses$Book") C inm_X1_knowTurns_1 rfl (by decide) 2 (by decide) rfl dX1_knowTurns_28 (List.mem_of_getElem? (i := 1) rfl) rfl rfl hthis ?_
      obtain ⟨a1, ha1, hka1, hF⟩ := hF
      refine xg_getr (pc := 31) (C1 := RX3) (T1 := TX3) (ci := 3) (ref := "SandGlasses$Costs") C inm_X1_knowTurns_3 rfl (by decide) 1 (by decide) rfl dX1_knowTurns_31 (List.mem_of_getElem? (i := 3) rfl) rfl ha1 hka1 ?_
      refine xg_iconst (pc := 34) (v := 0) C dX1_knowTurns_34 (by decide) ?_
      refine xg_csV (pc := 35) C [va_rf (xg_o h a1 1), .int 0] (met_J7_fill_53178 Y (xg_o h a1 1) 0) gX1_knowTurns_J7_fill_53178 rfl ⟨rfl, rfl⟩ nd_J7_fill_53178.2 ⟨Nat.le_of_ble_eq_true rfl, Nat.le_of_ble_eq_true rfl⟩ rfl rfl (Nat.le_of_ble_eq_true rfl) ⟨Nat.zero_le _, Nat.zero_le _⟩ dX1_knowTurns_35 hF (fun h2 hF => ?_)
      refine xg_aload_n (pc := 38) C dX1_knowTurns_38 0 rfl ?_
      refine xg_getr (pc := 39) (C1 := RX1) (T1 := TX1) (ci := 1) (ref := "SandGlasses$Book") C inm_X1_knowTurns_1 rfl (by decide) 2 (by decide) rfl dX1_knowTurns_39 (List.mem_of_getElem? (i := 1) rfl) rfl rfl hthis ?_
      refine xg_bipush (pc := 42) (v := 30) C dX1_knowTurns_42 (by decide) ?_
      obtain ⟨a3, ha3, hka3, hF⟩ := hF
      refine xg_cvV (pc := 44) (C1 := RX3) (T1 := TX3) (ci := 3) C [.int 30] ha3 hka3 (by decide) rfl (met_X3_workOut Y a3 30) gX1_knowTurns_X3_workOut rfl ⟨rfl, rfl⟩ nd_X3_workOut ⟨Nat.le_of_ble_eq_true rfl, Nat.le_of_ble_eq_true rfl⟩ rfl rfl (Nat.le_of_ble_eq_true rfl) ⟨Nat.zero_le _, Nat.zero_le _⟩ dX1_knowTurns_44 hF (fun h4 hF => ?_)
      refine xg_aload_n (pc := 47) C dX1_knowTurns_47 0 rfl ?_
      refine xg_iconst (pc := 48) (v := 1) C dX1_knowTurns_48 (by decide) ?_
      refine xg_putz (pc := 49) (C1 := RX1) (T1 := TX1) (ci := 1) (ref := "SandGlasses$Book") C inm_X1_knowTurns_1 rfl (by decide) tyX1 tyX1_ok nmX1 19 (by decide) rfl (Or.inr rfl) dX1_knowTurns_49 (List.mem_of_getElem? (i := 4) rfl) rfl rfl (tyX1_ok 19 (by decide)) rfl hthis (fun h5 eh5 => ?_)
      have hF := hF h5 eh5
      refine xg_aload_n (pc := 52) C dX1_knowTurns_52 0 rfl ?_
      refine xg_iconst (pc := 53) (v := 1) C dX1_knowTurns_53 (by decide) ?_
      refine xg_putz (pc := 54) (C1 := RX1) (T1 := TX1) (ci := 1) (ref := "SandGlasses$Book") C inm_X1_knowTurns_1 rfl (by decide) tyX1 tyX1_ok nmX1 17 (by decide) rfl (Or.inr rfl) dX1_knowTurns_54 (List.mem_of_getElem? (i := 5) rfl) rfl rfl (tyX1_ok 17 (by decide)) rfl hthis (fun h6 eh6 => ?_)
      have hF := hF h6 eh6
      refine xg_aload_n (pc := 57) C dX1_knowTurns_57 0 rfl ?_
      refine xg_getr (pc := 58) (C1 := RX1) (T1 := TX1) (ci := 1) (ref := "SandGlasses$Book") C inm_X1_knowTurns_1 rfl (by decide) 5 (by decide) rfl dX1_knowTurns_58 (List.mem_of_getElem? (i := 6) rfl) rfl rfl hthis ?_
      refine xg_ldc (pc := 61) (v := 1000000) C dX1_knowTurns_61 (List.mem_of_getElem? (i := 7) rfl) ?_
      refine xg_csV (pc := 63) C [va_rf (xg_o h6 this 5), .int 1000000] (met_J7_fill_53178 Y (xg_o h6 this 5) 1000000) gX1_knowTurns_J7_fill_53178 rfl ⟨rfl, rfl⟩ nd_J7_fill_53178.2 ⟨Nat.le_of_ble_eq_true rfl, Nat.le_of_ble_eq_true rfl⟩ rfl rfl (Nat.le_of_ble_eq_true rfl) ⟨Nat.zero_le _, Nat.zero_le _⟩ dX1_knowTurns_63 hF (fun h7 hF => ?_)
      refine xg_iconst (pc := 66) (v := 1) C dX1_knowTurns_66 (by decide) ?_
      refine xg_istore_n (pc := 67) (lv2 := [(1, .int 1), (0, va_rf (some this))]) C dX1_knowTurns_67 4 hnL (by decide) rfl ?_
      refine xg_sub (lv2 := [(0, va_rf (some this)), (1, .int 1)]) [1, 0] rfl ?_
      exact hF
    · have hF := hF.2 hc
      refine xg_aload_n (pc := 8) C dX1_knowTurns_8 0 rfl ?_
      refine xg_getr (pc := 9) (C1 := RX1) (T1 := TX1) (ci := 1) (ref := "SandGlasses$Book") C inm_X1_knowTurns_1 rfl (by decide) 2 (by decide) rfl dX1_knowTurns_9 (List.mem_of_getElem? (i := 1) rfl) rfl rfl hthis ?_
      obtain ⟨a8, ha8, hka8, hF⟩ := hF
      refine xg_getr (pc := 12) (C1 := RX3) (T1 := TX3) (ci := 3) (ref := "SandGlasses$Costs") C inm_X1_knowTurns_3 rfl (by decide) 0 (by decide) rfl dX1_knowTurns_12 (List.mem_of_getElem? (i := 2) rfl) rfl ha8 hka8 ?_
      refine xg_iload_n (pc := 15) C dX1_knowTurns_15 1 rfl ?_
      refine xg_iload_n (pc := 16) C dX1_knowTurns_16 1 rfl ?_
      refine xg_csI (pc := 17) C [.int y1] (met_J6_bitCount_0f7a4 Y y1) gX1_knowTurns_J6_bitCount_0f7a4 rfl ⟨rfl, rfl⟩ nd_J6_bitCount_0f7a4.2 ⟨Nat.le_of_ble_eq_true rfl, Nat.le_of_ble_eq_true rfl⟩ rfl rfl (by simp [xg_rf_cat, xg_cat_i, xg_cat_l, xg_cat_a]) ⟨Nat.zero_le _, Nat.zero_le _⟩ dX1_knowTurns_17 hF (fun r10 h9 hF => ?_)
      obtain ⟨a11, ha11, hka11, hF⟩ := hF
      obtain ⟨hi, hF⟩ := hF
      refine xg_iast (pc := 20) C ha11 hka11 hi dX1_knowTurns_20 (fun h12 eh12 => ?_)
      have hF := hF h12 eh12
      obtain ⟨z13, ez13⟩ : ∃ y : Int32, y = y1 + 1 := ⟨_, rfl⟩
      have hF := hF z13 ez13
      refine xg_iinc (pc := 21) (v := z13) (lv2 := [(1, .int z13), (0, va_rf (some this))]) C dX1_knowTurns_21 1 rfl (by rw [ez13]; rfl) 4 hnL (by decide) rfl ?_
      refine xg_goto (pc := 24) 2 C dX1_knowTurns_24 (by decide) ?_
      refine xg_sub (lv2 := [(0, va_rf (some this)), (1, .int z13)]) [1, 0] rfl ?_
      exact hF
  · intro y1 h hF
    refine xg_iload_n (pc := 68) C dX1_knowTurns_68 1 rfl ?_
    refine xg_bipush (pc := 69) (v := 30) C dX1_knowTurns_69 (by decide) ?_
    refine xg_icmp_gt (pc := 71) 95 C dX1_knowTurns_71 (by decide) (fun hc => ?_) (fun hc => ?_)
    · have hF := hF.1 hc
      refine xg_iconst (pc := 95) (v := 0) C dX1_knowTurns_95 (by decide) ?_
      refine xg_istore_n (pc := 96) (lv2 := [(1, .int 0), (0, va_rf (some this))]) C dX1_knowTurns_96 4 hnL (by decide) rfl ?_
      refine xg_sub (lv2 := [(0, va_rf (some this)), (1, .int 0)]) [1, 0] rfl ?_
      exact hF
    · have hF := hF.2 hc
      refine xg_aload_n (pc := 74) C dX1_knowTurns_74 0 rfl ?_
      refine xg_getr (pc := 75) (C1 := RX1) (T1 := TX1) (ci := 1) (ref := "SandGlasses$Book") C inm_X1_knowTurns_1 rfl (by decide) 3 (by decide) rfl dX1_knowTurns_75 (List.mem_of_getElem? (i := 8) rfl) rfl rfl hthis ?_
      refine xg_iload_n (pc := 78) C dX1_knowTurns_78 1 rfl ?_
      refine xg_aload_n (pc := 79) C dX1_knowTurns_79 0 rfl ?_
      refine xg_getr (pc := 80) (C1 := RX1) (T1 := TX1) (ci := 1) (ref := "SandGlasses$Book") C inm_X1_knowTurns_1 rfl (by decide) 2 (by decide) rfl dX1_knowTurns_80 (List.mem_of_getElem? (i := 1) rfl) rfl rfl hthis ?_
      refine xg_iconst (pc := 83) (v := 0) C dX1_knowTurns_83 (by decide) ?_
      refine xg_iload_n (pc := 84) C dX1_knowTurns_84 1 rfl ?_
      obtain ⟨a14, ha14, hka14, hF⟩ := hF
      refine xg_cvI (pc := 85) (C1 := RX3) (T1 := TX3) (ci := 3) C [.int 0, .int y1] ha14 hka14 (by decide) rfl (met_X3_of Y a14 0 y1) gX1_knowTurns_X3_of rfl ⟨rfl, rfl⟩ nd_X3_of ⟨Nat.le_of_ble_eq_true rfl, Nat.le_of_ble_eq_true rfl⟩ rfl rfl (by simp [xg_rf_cat, xg_cat_i, xg_cat_l, xg_cat_a]) ⟨Nat.zero_le _, Nat.zero_le _⟩ dX1_knowTurns_85 hF (fun r16 h15 hF => ?_)
      obtain ⟨a17, ha17, hka17, hF⟩ := hF
      obtain ⟨hi, hF⟩ := hF
      refine xg_iast (pc := 88) C ha17 hka17 hi dX1_knowTurns_88 (fun h18 eh18 => ?_)
      have hF := hF h18 eh18
      obtain ⟨z19, ez19⟩ : ∃ y : Int32, y = y1 + 1 := ⟨_, rfl⟩
      have hF := hF z19 ez19
      refine xg_iinc (pc := 89) (v := z19) (lv2 := [(1, .int z19), (0, va_rf (some this))]) C dX1_knowTurns_89 1 rfl (by rw [ez19]; rfl) 4 hnL (by decide) rfl ?_
      refine xg_goto (pc := 92) 68 C dX1_knowTurns_92 (by decide) ?_
      refine xg_sub (lv2 := [(0, va_rf (some this)), (1, .int z19)]) [1, 0] rfl ?_
      exact hF
  · intro y1 h hF
    refine xg_iload_n (pc := 97) C dX1_knowTurns_97 1 rfl ?_
    refine xg_aload_n (pc := 98) C dX1_knowTurns_98 0 rfl ?_
    refine xg_getr (pc := 99) (C1 := RX1) (T1 := TX1) (ci := 1) (ref := "SandGlasses$Book") C inm_X1_knowTurns_1 rfl (by decide) 0 (by decide) rfl dX1_knowTurns_99 (List.mem_of_getElem? (i := 9) rfl) rfl rfl hthis ?_
    obtain ⟨a20, ha20, hka20, hF⟩ := hF
    refine xg_geti (pc := 102) (C1 := RX10) (T1 := TX10) (ci := 10) (ref := "SandGlasses$Walk") C inm_X1_knowTurns_10 rfl (by decide) 4 (by decide) rfl dX1_knowTurns_102 (List.mem_of_getElem? (i := 10) rfl) rfl ha20 hka20 ?_
    refine xg_icmp_ge (pc := 105) 178 C dX1_knowTurns_105 (by decide) (fun hc => ?_) (fun hc => ?_)
    · have hF := hF.1 hc
      exact xg_retV (pc := 178) C E dX1_knowTurns_178 hF
    · have hF := hF.2 hc
      refine xg_aload_n (pc := 108) C dX1_knowTurns_108 0 rfl ?_
      refine xg_getr (pc := 109) (C1 := RX1) (T1 := TX1) (ci := 1) (ref := "SandGlasses$Book") C inm_X1_knowTurns_1 rfl (by decide) 0 (by decide) rfl dX1_knowTurns_109 (List.mem_of_getElem? (i := 9) rfl) rfl rfl hthis ?_
      refine xg_getr (pc := 112) (C1 := RX10) (T1 := TX10) (ci := 10) (ref := "SandGlasses$Walk") C inm_X1_knowTurns_10 rfl (by decide) 1 (by decide) rfl dX1_knowTurns_112 (List.mem_of_getElem? (i := 11) rfl) rfl ha20 hka20 ?_
      refine xg_iload_n (pc := 115) C dX1_knowTurns_115 1 rfl ?_
      obtain ⟨a21, ha21, hka21, hF⟩ := hF
      obtain ⟨hi, hF⟩ := hF
      refine xg_iald (pc := 116) C ha21 hka21 hi dX1_knowTurns_116 ?_
      refine xg_cnI (pc := 117) (host := "SandGlasses") C [.int (xg_i h a21 y1.toNatClampNeg)] (by decide +kernel) (List.mem_of_getElem? (i := 51) rfl) (List.mem_of_getElem? (i := 50) rfl) (met_X11_lowest Y (xg_i h a21 y1.toNatClampNeg)) gX1_knowTurns_X11_lowest_n181 rfl ⟨rfl, rfl⟩ nd_X11_lowest.2 ⟨Nat.le_of_ble_eq_true rfl, Nat.le_of_ble_eq_true rfl⟩ rfl rfl (Nat.le_of_ble_eq_true rfl) ⟨Nat.zero_le _, Nat.zero_le _⟩ dX1_knowTurns_117 hF (fun r23 h22 hF => ?_)
      refine xg_istore_n (pc := 120) (lv2 := [(2, .int r23), (0, va_rf (some this)), (1, .int y1)]) C dX1_knowTurns_120 4 hnL (by decide) rfl ?_
      refine xg_iconst (pc := 121) (v := 1) C dX1_knowTurns_121 (by decide) ?_
      refine xg_istore_n (pc := 122) (lv2 := [(3, .int 1), (2, .int r23), (0, va_rf (some this)), (1, .int y1)]) C dX1_knowTurns_122 4 hnL (by decide) rfl ?_
      refine xg_sub (lv2 := [(0, va_rf (some this)), (1, .int y1), (2, .int r23), (3, .int 1)]) [2, 3, 1, 0] rfl ?_
      exact hF
  · intro y1 y2 y3 h hF
    refine xg_iload_n (pc := 123) C dX1_knowTurns_123 3 rfl ?_
    refine xg_bipush (pc := 124) (v := 30) C dX1_knowTurns_124 (by decide) ?_
    refine xg_icmp_gt (pc := 126) 172 C dX1_knowTurns_126 (by decide) (fun hc => ?_) (fun hc => ?_)
    · have hF := hF.1 hc
      refine xg_sub (lv2 := [(0, va_rf (some this)), (1, .int y1)]) [0, 1] rfl ?_
      exact hF
    · have hF := hF.2 hc
      refine xg_iload_n (pc := 129) C dX1_knowTurns_129 2 rfl ?_
      refine xg_iconst (pc := 130) (v := (-1)) C dX1_knowTurns_130 (by decide) ?_
      refine xg_icmp_eq (pc := 131) 172 C dX1_knowTurns_131 (by decide) (fun hc => ?_) (fun hc => ?_)
      · have hF := hF.1 hc
        refine xg_sub (lv2 := [(0, va_rf (some this)), (1, .int y1)]) [0, 1] rfl ?_
        exact hF
      · have hF := hF.2 hc
        refine xg_aload_n (pc := 134) C dX1_knowTurns_134 0 rfl ?_
        refine xg_getr (pc := 135) (C1 := RX1) (T1 := TX1) (ci := 1) (ref := "SandGlasses$Book") C inm_X1_knowTurns_1 rfl (by decide) 2 (by decide) rfl dX1_knowTurns_135 (List.mem_of_getElem? (i := 1) rfl) rfl rfl hthis ?_
        refine xg_iload_n (pc := 138) C dX1_knowTurns_138 1 rfl ?_
        refine xg_iload_n (pc := 139) C dX1_knowTurns_139 3 rfl ?_
        obtain ⟨a24, ha24, hka24, hF⟩ := hF
        refine xg_cvI (pc := 140) (C1 := RX3) (T1 := TX3) (ci := 3) C [.int y1, .int y3] ha24 hka24 (by decide) rfl (met_X3_of Y a24 y1 y3) gX1_knowTurns_X3_of rfl ⟨rfl, rfl⟩ nd_X3_of ⟨Nat.le_of_ble_eq_true rfl, Nat.le_of_ble_eq_true rfl⟩ rfl rfl (Nat.le_of_ble_eq_true rfl) ⟨Nat.zero_le _, Nat.zero_le _⟩ dX1_knowTurns_140 hF (fun r26 h25 hF => ?_)
        refine xg_ldc (pc := 143) (v := 1000000) C dX1_knowTurns_143 (List.mem_of_getElem? (i := 7) rfl) ?_
        refine xg_icmp_ge (pc := 145) 166 C dX1_knowTurns_145 (by decide) (fun hc => ?_) (fun hc => ?_)
        · have hF := hF.1 hc
          exact hF
        · have hF := hF.2 hc
          refine xg_aload_n (pc := 148) C dX1_knowTurns_148 0 rfl ?_
          refine xg_getr (pc := 149) (C1 := RX1) (T1 := TX1) (ci := 1) (ref := "SandGlasses$Book") C inm_X1_knowTurns_1 rfl (by decide) 5 (by decide) rfl dX1_knowTurns_149 (List.mem_of_getElem? (i := 6) rfl) rfl rfl hthis ?_
          refine xg_iload_n (pc := 152) C dX1_knowTurns_152 3 rfl ?_
          refine xg_aload_n (pc := 153) C dX1_knowTurns_153 0 rfl ?_
          refine xg_getr (pc := 154) (C1 := RX1) (T1 := TX1) (ci := 1) (ref := "SandGlasses$Book") C inm_X1_knowTurns_1 rfl (by decide) 5 (by decide) rfl dX1_knowTurns_154 (List.mem_of_getElem? (i := 6) rfl) rfl rfl hthis ?_
          refine xg_iload_n (pc := 157) C dX1_knowTurns_157 3 rfl ?_
          obtain ⟨a27, ha27, hka27, hF⟩ := hF
          obtain ⟨hi, hF⟩ := hF
          refine xg_iald (pc := 158) C ha27 hka27 hi dX1_knowTurns_158 ?_
          refine xg_iload_n (pc := 159) C dX1_knowTurns_159 2 rfl ?_
          refine xg_iload_n (pc := 160) C dX1_knowTurns_160 3 rfl ?_
          refine xg_iadd (pc := 161) C dX1_knowTurns_161 ?_
          refine xg_mmin (pc := 162) C (List.mem_of_getElem? (i := 12) rfl) (List.mem_of_getElem? (i := 13) rfl) (List.mem_of_getElem? (i := 14) rfl) (List.mem_of_getElem? (i := 15) rfl) (Nat.le_of_ble_eq_true rfl) (by simp [xg_rf_cat, xg_cat_i, xg_cat_l, xg_cat_a, rm_X1_knowTurns]) (Nat.zero_le _) (Nat.zero_le _) dX1_knowTurns_162 ?_
          refine xg_topi (pc := 165) (fun z28 ez28 => ?_)
          have hF := hF z28 ez28
          obtain ⟨hi, hF⟩ := hF
          refine xg_iast (pc := 165) C ha27 hka27 hi dX1_knowTurns_165 (fun h29 eh29 => ?_)
          have hF := hF h29 eh29
          exact hF
  · intro y1 h hF
    obtain ⟨z30, ez30⟩ : ∃ y : Int32, y = y1 + 1 := ⟨_, rfl⟩
    have hF := hF z30 ez30
    refine xg_iinc (pc := 172) (v := z30) (lv2 := [(1, .int z30), (0, va_rf (some this))]) C dX1_knowTurns_172 1 rfl (by rw [ez30]; rfl) 4 hnL (by decide) rfl ?_
    refine xg_goto (pc := 175) 97 C dX1_knowTurns_175 (by decide) ?_
    refine xg_sub (lv2 := [(0, va_rf (some this)), (1, .int z30)]) [1, 0] rfl ?_
    exact hF
  · intro y1 y2 y3 h hF
    obtain ⟨z31, ez31⟩ : ∃ y : Int32, y = y3 + 1 := ⟨_, rfl⟩
    have hF := hF z31 ez31
    refine xg_iinc (pc := 166) (v := z31) (lv2 := [(3, .int z31), (0, va_rf (some this)), (1, .int y1), (2, .int y2)]) C dX1_knowTurns_166 3 rfl (by rw [ez31]; rfl) 4 hnL (by decide) rfl ?_
    refine xg_goto (pc := 169) 123 C dX1_knowTurns_169 (by decide) ?_
    refine xg_sub (lv2 := [(0, va_rf (some this)), (1, .int y1), (2, .int y2), (3, .int z31)]) [1, 2, 3, 0] rfl ?_
    exact hF
  · skip
    refine xg_iconst (pc := 0) (v := 0) C dX1_knowTurns_0 (by decide) ?_
    refine xg_istore_n (pc := 1) (lv2 := [(1, .int 0), (0, va_rf (some this))]) C dX1_knowTurns_1 4 hnL (by decide) rfl ?_
    refine xg_sub (lv2 := [(0, va_rf (some this)), (1, .int 0)]) [1, 0] rfl ?_
    exact hF
def rm_X1_fewestTurns : Room := { frames := 3, cells := 0, slots := 0, locals := 74 }
theorem nd_X1_fewestTurns : yX1_fewestTurns.cls = RX1 ∧ yX1_fewestTurns.cls ≠ "java/lang/invoke/MethodHandle" ∧ yX1_fewestTurns.cls ≠ "java/lang/invoke/VarHandle" ∧ (parseMethodDescriptor yX1_fewestTurns.desc).map (fun d => d.parameters.length) = some 1 := by decide +kernel
theorem inm_X1_fewestTurns_1 : ∀ w ∈ u_ws RX1 TX1 (xg_N 1), w ∈ wsX1_fewestTurns := fun _ h9 => List.mem_cons_of_mem _ (List.mem_append_left _ (List.mem_append_left _ (List.mem_append_right _ h9)))
set_option maxHeartbeats 4000000 in
set_option maxRecDepth 100000 in
theorem met_X1_fewestTurns (Y : xg_Y) (this : Nat) (x1 : Int32) : xg_MI yX1_fewestTurns wsX1_fewestTurns rm_X1_fewestTurns Y [va_rf (some this), .int x1] (fun Q h => wp_X1_fewestTurns Y Q this x1 h) := by
  refine xg_startI (cc := cX1_fewestTurns) (maxL := 2) (own := RX1) (by decide) rfl rfl (Nat.le_of_ble_eq_true rfl) (fun X Q h C hnL E hw => ?_)
  unfold wp_X1_fewestTurns at hw
  obtain ⟨hthis, hw⟩ := hw
  refine xg_sub (lv2 := [(0, va_rf (some this)), (1, .int x1)]) [0, 1] rfl ?_
  refine mg_use (hw (fun (h : xg_H) => xg_W X 0 0 Y 11 [(0, va_rf (some this)), (1, .int x1)] [] h) ?_) (fun hF => ?_)
  · intro h hF
    refine xg_aload_n (pc := 11) C dX1_fewestTurns_11 0 rfl ?_
    refine xg_getr (pc := 12) (C1 := RX1) (T1 := TX1) (ci := 1) (ref := "SandGlasses$Book") C inm_X1_fewestTurns_1 rfl (by decide) 3 (by decide) rfl dX1_fewestTurns_12 (List.mem_of_getElem? (i := 2) rfl) rfl rfl hthis ?_
    refine xg_iload_n (pc := 15) C dX1_fewestTurns_15 1 rfl ?_
    obtain ⟨a2, ha2, hka2, hF⟩ := hF
    obtain ⟨hi, hF⟩ := hF
    refine xg_iald (pc := 16) C ha2 hka2 hi dX1_fewestTurns_16 ?_
    exact xg_retI (pc := 17) C E dX1_fewestTurns_17 hF
  · skip
    refine xg_aload_n (pc := 0) C dX1_fewestTurns_0 0 rfl ?_
    refine xg_geti (pc := 1) (C1 := RX1) (T1 := TX1) (ci := 1) (ref := "SandGlasses$Book") C inm_X1_fewestTurns_1 rfl (by decide) 17 (by decide) rfl dX1_fewestTurns_1 (List.mem_of_getElem? (i := 1) rfl) rfl rfl hthis ?_
    refine xg_if_ne (pc := 4) 11 C dX1_fewestTurns_4 (by decide) (fun hc => ?_) (fun hc => ?_)
    · have hF := hF.1 hc
      exact hF
    · have hF := hF.2 hc
      refine xg_aload_n (pc := 7) C dX1_fewestTurns_7 0 rfl ?_
      refine xg_cvV (pc := 8) (C1 := RX1) (T1 := TX1) (ci := 1) C [] rfl hthis (by decide) rfl (met_X1_knowTurns Y this) gX1_fewestTurns_X1_knowTurns rfl ⟨rfl, rfl⟩ nd_X1_knowTurns ⟨Nat.le_of_ble_eq_true rfl, Nat.le_of_ble_eq_true rfl⟩ rfl rfl (Nat.le_of_ble_eq_true rfl) ⟨Nat.zero_le _, Nat.zero_le _⟩ dX1_fewestTurns_8 hF (fun h1 hF => ?_)
      exact hF
def rm_X1_dearest : Room := { frames := 4, cells := 0, slots := 0, locals := 95 }
theorem nd_X1_dearest : yX1_dearest.cls = RX1 ∧ yX1_dearest.cls ≠ "java/lang/invoke/MethodHandle" ∧ yX1_dearest.cls ≠ "java/lang/invoke/VarHandle" ∧ (parseMethodDescriptor yX1_dearest.desc).map (fun d => d.parameters.length) = some 0 := by decide +kernel
theorem inm_X1_dearest_1 : ∀ w ∈ u_ws RX1 TX1 (xg_N 1), w ∈ wsX1_dearest := fun _ h9 => List.mem_cons_of_mem _ (List.mem_append_left _ (List.mem_append_left _ (List.mem_append_right _ h9)))
set_option maxHeartbeats 4000000 in
set_option maxRecDepth 100000 in
theorem met_X1_dearest (Y : xg_Y) (this : Nat) : xg_MI yX1_dearest wsX1_dearest rm_X1_dearest Y [va_rf (some this)] (fun Q h => wp_X1_dearest Y Q this h) := by
  refine xg_startI (cc := cX1_dearest) (maxL := 3) (own := RX1) (by decide) rfl rfl (Nat.le_of_ble_eq_true rfl) (fun X Q h C hnL E hw => ?_)
  unfold wp_X1_dearest at hw
  obtain ⟨hthis, hw⟩ := hw
  refine xg_sub (lv2 := [(0, va_rf (some this))]) [0] rfl ?_
  refine mg_use (hw (fun (y1 : Int32) (y2 : Int32) (h : xg_H) => xg_W X 0 0 Y 4 [(0, va_rf (some this)), (1, .int y1), (2, .int y2)] [] h) (fun (y1 : Int32) (y2 : Int32) (h : xg_H) => xg_W X 0 0 Y 41 [(0, va_rf (some this)), (1, .int y1), (2, .int y2)] [] h) (fun (y2 : Int32) (h : xg_H) => xg_W X 0 0 Y 39 [(0, va_rf (some this)), (2, .int y2)] [] h) ?_ ?_ ?_) (fun hF => ?_)
  · intro y1 y2 h hF
    refine xg_iload_n (pc := 4) C dX1_dearest_4 2 rfl ?_
    refine xg_bipush (pc := 5) (v := 30) C dX1_dearest_5 (by decide) ?_
    refine xg_icmp_gt (pc := 7) 47 C dX1_dearest_7 (by decide) (fun hc => ?_) (fun hc => ?_)
    · have hF := hF.1 hc
      refine xg_iload_n (pc := 47) C dX1_dearest_47 1 rfl ?_
      exact xg_retI (pc := 48) C E dX1_dearest_48 hF
    · have hF := hF.2 hc
      refine xg_aload_n (pc := 10) C dX1_dearest_10 0 rfl ?_
      refine xg_geti (pc := 11) (C1 := RX1) (T1 := TX1) (ci := 1) (ref := "SandGlasses$Book") C inm_X1_dearest_1 rfl (by decide) 16 (by decide) rfl dX1_dearest_11 (List.mem_of_getElem? (i := 1) rfl) rfl rfl hthis ?_
      refine xg_iload_n (pc := 14) C dX1_dearest_14 2 rfl ?_
      refine xg_cnI (pc := 15) (host := "SandGlasses") C [.int (xg_i h this 16), .int y2] (by decide +kernel) (List.mem_of_getElem? (i := 3) rfl) (List.mem_of_getElem? (i := 2) rfl) (met_X11_has Y (xg_i h this 16) y2) gX1_dearest_X11_has_n143 rfl ⟨rfl, rfl⟩ nd_X11_has.2 ⟨Nat.le_of_ble_eq_true rfl, Nat.le_of_ble_eq_true rfl⟩ rfl rfl (Nat.le_of_ble_eq_true rfl) ⟨Nat.zero_le _, Nat.zero_le _⟩ dX1_dearest_15 hF (fun r2 h1 hF => ?_)
      refine xg_if_eq (pc := 18) 41 C dX1_dearest_18 (by decide) (fun hc => ?_) (fun hc => ?_)
      · have hF := hF.1 hc
        exact hF
      · have hF := hF.2 hc
        refine xg_iload_n (pc := 21) C dX1_dearest_21 1 rfl ?_
        refine xg_iconst (pc := 22) (v := (-1)) C dX1_dearest_22 (by decide) ?_
        refine xg_icmp_eq (pc := 23) 39 C dX1_dearest_23 (by decide) (fun hc => ?_) (fun hc => ?_)
        · have hF := hF.1 hc
          refine xg_sub (lv2 := [(0, va_rf (some this)), (2, .int y2)]) [0, 2] rfl ?_
          exact hF
        · have hF := hF.2 hc
          refine xg_aload_n (pc := 26) C dX1_dearest_26 0 rfl ?_
          refine xg_iload_n (pc := 27) C dX1_dearest_27 2 rfl ?_
          refine xg_cvI (pc := 28) (C1 := RX1) (T1 := TX1) (ci := 1) C [.int y2] rfl hthis (by decide) rfl (met_X1_fewestTurns Y this y2) gX1_dearest_X1_fewestTurns rfl ⟨rfl, rfl⟩ nd_X1_fewestTurns ⟨Nat.le_of_ble_eq_true rfl, Nat.le_of_ble_eq_true rfl⟩ rfl rfl (Nat.le_of_ble_eq_true rfl) ⟨Nat.zero_le _, Nat.zero_le _⟩ dX1_dearest_28 hF (fun r4 h3 hF => ?_)
          refine xg_aload_n (pc := 31) C dX1_dearest_31 0 rfl ?_
          refine xg_iload_n (pc := 32) C dX1_dearest_32 1 rfl ?_
          refine xg_cvI (pc := 33) (C1 := RX1) (T1 := TX1) (ci := 1) C [.int y1] rfl hthis (by decide) rfl (met_X1_fewestTurns Y this y1) gX1_dearest_X1_fewestTurns rfl ⟨rfl, rfl⟩ nd_X1_fewestTurns ⟨Nat.le_of_ble_eq_true rfl, Nat.le_of_ble_eq_true rfl⟩ rfl rfl (Nat.le_of_ble_eq_true rfl) ⟨Nat.zero_le _, Nat.zero_le _⟩ dX1_dearest_33 hF (fun r6 h5 hF => ?_)
          refine xg_icmp_le (pc := 36) 41 C dX1_dearest_36 (by decide) (fun hc => ?_) (fun hc => ?_)
          · have hF := hF.1 hc
            exact hF
          · have hF := hF.2 hc
            refine xg_sub (lv2 := [(0, va_rf (some this)), (2, .int y2)]) [0, 2] rfl ?_
            exact hF
  · intro y1 y2 h hF
    obtain ⟨z7, ez7⟩ : ∃ y : Int32, y = y2 + 1 := ⟨_, rfl⟩
    have hF := hF z7 ez7
    refine xg_iinc (pc := 41) (v := z7) (lv2 := [(2, .int z7), (0, va_rf (some this)), (1, .int y1)]) C dX1_dearest_41 2 rfl (by rw [ez7]; rfl) 3 hnL (by decide) rfl ?_
    refine xg_goto (pc := 44) 4 C dX1_dearest_44 (by decide) ?_
    refine xg_sub (lv2 := [(0, va_rf (some this)), (1, .int y1), (2, .int z7)]) [1, 2, 0] rfl ?_
    exact hF
  · intro y2 h hF
    refine xg_iload_n (pc := 39) C dX1_dearest_39 1 rfl ?_
    refine xg_istore_n (pc := 40) (lv2 := [(1, .int y2), (0, va_rf (some this)), (2, .int y2)]) C dX1_dearest_40 3 hnL (by decide) rfl ?_
    refine xg_sub (lv2 := [(0, va_rf (some this)), (1, .int y2), (2, .int y2)]) [1, 0, 2] rfl ?_
    exact hF
  · skip
    refine xg_iconst (pc := 0) (v := (-1)) C dX1_dearest_0 (by decide) ?_
    refine xg_istore_n (pc := 1) (lv2 := [(1, .int (-1)), (0, va_rf (some this))]) C dX1_dearest_1 3 hnL (by decide) rfl ?_
    refine xg_iconst (pc := 2) (v := 1) C dX1_dearest_2 (by decide) ?_
    refine xg_istore_n (pc := 3) (lv2 := [(2, .int 1), (1, .int (-1)), (0, va_rf (some this))]) C dX1_dearest_3 3 hnL (by decide) rfl ?_
    refine xg_sub (lv2 := [(0, va_rf (some this)), (1, .int (-1)), (2, .int 1)]) [2, 1, 0] rfl ?_
    exact hF
def rm_X1_toldFree : Room := { frames := 4, cells := 0, slots := 0, locals := 95 }
theorem nd_X1_toldFree : yX1_toldFree.cls = RX1 ∧ yX1_toldFree.cls ≠ "java/lang/invoke/MethodHandle" ∧ yX1_toldFree.cls ≠ "java/lang/invoke/VarHandle" ∧ (parseMethodDescriptor yX1_toldFree.desc).map (fun d => d.parameters.length) = some 0 := by decide +kernel
theorem inm_X1_toldFree_1 : ∀ w ∈ u_ws RX1 TX1 (xg_N 1), w ∈ wsX1_toldFree := fun _ h9 => List.mem_cons_of_mem _ (List.mem_append_left _ (List.mem_append_left _ (List.mem_append_right _ h9)))
set_option maxHeartbeats 4000000 in
set_option maxRecDepth 100000 in
theorem met_X1_toldFree (Y : xg_Y) (this : Nat) : xg_MI yX1_toldFree wsX1_toldFree rm_X1_toldFree Y [va_rf (some this)] (fun Q h => wp_X1_toldFree Y Q this h) := by
  refine xg_startI (cc := cX1_toldFree) (maxL := 3) (own := RX1) (by decide) rfl rfl (Nat.le_of_ble_eq_true rfl) (fun X Q h C hnL E hw => ?_)
  unfold wp_X1_toldFree at hw
  obtain ⟨hthis, hw⟩ := hw
  refine xg_sub (lv2 := [(0, va_rf (some this))]) [0] rfl ?_
  refine mg_use (hw (fun (y1 : Int32) (y2 : Int32) (h : xg_H) => xg_W X 0 0 Y 4 [(0, va_rf (some this)), (1, .int y1), (2, .int y2)] [] h) (fun (y1 : Int32) (y2 : Int32) (h : xg_H) => xg_W X 0 0 Y 35 [(0, va_rf (some this)), (1, .int y1), (2, .int y2)] [] h) ?_ ?_) (fun hF => ?_)
  · intro y1 y2 h hF
    refine xg_iload_n (pc := 4) C dX1_toldFree_4 2 rfl ?_
    refine xg_bipush (pc := 5) (v := 30) C dX1_toldFree_5 (by decide) ?_
    refine xg_icmp_gt (pc := 7) 41 C dX1_toldFree_7 (by decide) (fun hc => ?_) (fun hc => ?_)
    · have hF := hF.1 hc
      refine xg_iload_n (pc := 41) C dX1_toldFree_41 1 rfl ?_
      exact xg_retI (pc := 42) C E dX1_toldFree_42 hF
    · have hF := hF.2 hc
      refine xg_aload_n (pc := 10) C dX1_toldFree_10 0 rfl ?_
      refine xg_geti (pc := 11) (C1 := RX1) (T1 := TX1) (ci := 1) (ref := "SandGlasses$Book") C inm_X1_toldFree_1 rfl (by decide) 16 (by decide) rfl dX1_toldFree_11 (List.mem_of_getElem? (i := 1) rfl) rfl rfl hthis ?_
      refine xg_iload_n (pc := 14) C dX1_toldFree_14 2 rfl ?_
      refine xg_cnI (pc := 15) (host := "SandGlasses") C [.int (xg_i h this 16), .int y2] (by decide +kernel) (List.mem_of_getElem? (i := 3) rfl) (List.mem_of_getElem? (i := 2) rfl) (met_X11_has Y (xg_i h this 16) y2) gX1_toldFree_X11_has_n143 rfl ⟨rfl, rfl⟩ nd_X11_has.2 ⟨Nat.le_of_ble_eq_true rfl, Nat.le_of_ble_eq_true rfl⟩ rfl rfl (Nat.le_of_ble_eq_true rfl) ⟨Nat.zero_le _, Nat.zero_le _⟩ dX1_toldFree_15 hF (fun r2 h1 hF => ?_)
      refine xg_if_eq (pc := 18) 35 C dX1_toldFree_18 (by decide) (fun hc => ?_) (fun hc => ?_)
      · have hF := hF.1 hc
        exact hF
      · have hF := hF.2 hc
        refine xg_aload_n (pc := 21) C dX1_toldFree_21 0 rfl ?_
        refine xg_iload_n (pc := 22) C dX1_toldFree_22 2 rfl ?_
        refine xg_cvI (pc := 23) (C1 := RX1) (T1 := TX1) (ci := 1) C [.int y2] rfl hthis (by decide) rfl (met_X1_fewestTurns Y this y2) gX1_toldFree_X1_fewestTurns rfl ⟨rfl, rfl⟩ nd_X1_fewestTurns ⟨Nat.le_of_ble_eq_true rfl, Nat.le_of_ble_eq_true rfl⟩ rfl rfl (Nat.le_of_ble_eq_true rfl) ⟨Nat.zero_le _, Nat.zero_le _⟩ dX1_toldFree_23 hF (fun r4 h3 hF => ?_)
        refine xg_if_ne (pc := 26) 35 C dX1_toldFree_26 (by decide) (fun hc => ?_) (fun hc => ?_)
        · have hF := hF.1 hc
          exact hF
        · have hF := hF.2 hc
          refine xg_iload_n (pc := 29) C dX1_toldFree_29 1 rfl ?_
          refine xg_iconst (pc := 30) (v := 1) C dX1_toldFree_30 (by decide) ?_
          refine xg_iload_n (pc := 31) C dX1_toldFree_31 2 rfl ?_
          refine xg_ishl (pc := 32) C dX1_toldFree_32 ?_
          refine xg_ior (pc := 33) C dX1_toldFree_33 ?_
          refine xg_topi (pc := 34) (fun z5 ez5 => ?_)
          have hF := hF z5 ez5
          refine xg_istore_n (pc := 34) (lv2 := [(1, .int z5), (0, va_rf (some this)), (2, .int y2)]) C dX1_toldFree_34 3 hnL (by decide) rfl ?_
          refine xg_sub (lv2 := [(0, va_rf (some this)), (1, .int z5), (2, .int y2)]) [1, 0, 2] rfl ?_
          exact hF
  · intro y1 y2 h hF
    obtain ⟨z6, ez6⟩ : ∃ y : Int32, y = y2 + 1 := ⟨_, rfl⟩
    have hF := hF z6 ez6
    refine xg_iinc (pc := 35) (v := z6) (lv2 := [(2, .int z6), (0, va_rf (some this)), (1, .int y1)]) C dX1_toldFree_35 2 rfl (by rw [ez6]; rfl) 3 hnL (by decide) rfl ?_
    refine xg_goto (pc := 38) 4 C dX1_toldFree_38 (by decide) ?_
    refine xg_sub (lv2 := [(0, va_rf (some this)), (1, .int y1), (2, .int z6)]) [1, 2, 0] rfl ?_
    exact hF
  · skip
    refine xg_iconst (pc := 0) (v := 0) C dX1_toldFree_0 (by decide) ?_
    refine xg_istore_n (pc := 1) (lv2 := [(1, .int 0), (0, va_rf (some this))]) C dX1_toldFree_1 3 hnL (by decide) rfl ?_
    refine xg_iconst (pc := 2) (v := 1) C dX1_toldFree_2 (by decide) ?_
    refine xg_istore_n (pc := 3) (lv2 := [(2, .int 1), (1, .int 0), (0, va_rf (some this))]) C dX1_toldFree_3 3 hnL (by decide) rfl ?_
    refine xg_sub (lv2 := [(0, va_rf (some this)), (1, .int 0), (2, .int 1)]) [2, 1, 0] rfl ?_
    exact hF
def rm_X11_ofTimes : Room := { frames := 5, cells := 0, slots := 0, locals := 117 }
theorem nd_X11_ofTimes : yX11_ofTimes.cls = RX11 ∧ yX11_ofTimes.cls ≠ "java/lang/invoke/MethodHandle" ∧ yX11_ofTimes.cls ≠ "java/lang/invoke/VarHandle" ∧ (parseMethodDescriptor yX11_ofTimes.desc).map (fun d => d.parameters.length) = some 2 := by decide +kernel
set_option maxHeartbeats 4000000 in
set_option maxRecDepth 100000 in
theorem met_X11_ofTimes (Y : xg_Y) (x0 : Option Nat) (x1 : Int32) : xg_MI yX11_ofTimes wsX11_ofTimes rm_X11_ofTimes Y [va_rf x0, .int x1] (fun Q h => wp_X11_ofTimes Y Q x0 x1 h) := by
  refine xg_startI (cc := cX11_ofTimes) (maxL := 3) (own := RX11) (by decide) rfl rfl (by cases x0 <;> exact Nat.le_of_ble_eq_true rfl) (fun X Q h C hnL E hw => ?_)
  unfold wp_X11_ofTimes at hw
  refine xg_sub (lv2 := [(0, va_rf x0), (1, .int x1)]) [0, 1] (by cases x0 <;> rfl) ?_
  have hF := hw
  refine xg_aload_n (pc := 0) C dX11_ofTimes_0 0 rfl ?_
  obtain ⟨a1, ha1, hka1, hF⟩ := hF
  refine xg_cvI (pc := 1) (C1 := RX1) (T1 := TX1) (ci := 1) C [] ha1 hka1 (by decide) rfl (met_X1_told Y a1) gX11_ofTimes_X1_told rfl ⟨rfl, rfl⟩ nd_X1_told ⟨Nat.le_of_ble_eq_true rfl, Nat.le_of_ble_eq_true rfl⟩ rfl rfl (Nat.le_of_ble_eq_true rfl) ⟨Nat.zero_le _, Nat.zero_le _⟩ dX11_ofTimes_1 hF (fun r3 h2 hF => ?_)
  refine xg_istore_n (pc := 4) (lv2 := [(2, .int r3), (0, va_rf x0), (1, .int x1)]) C dX11_ofTimes_4 3 hnL (by decide) rfl ?_
  refine xg_iload_n (pc := 5) C dX11_ofTimes_5 2 rfl ?_
  by_cases hs0 : x1 = 0
  · have hF := hF.1 hs0
    refine xg_tabIn (pc := 6) 52 C dX11_ofTimes_6 (by rw [hs0]; decide) (by rw [hs0]; decide) (off := 46) (by rw [hs0]; rfl) (by decide) ?_
    refine xg_iload_n (pc := 52) C dX11_ofTimes_52 0 rfl ?_
    exact xg_retI (pc := 53) C E dX11_ofTimes_53 hF
  have hF := hF.2
  by_cases hs1 : x1 = 1
  · have hF := hF.1 hs1
    refine xg_tabIn (pc := 6) 54 C dX11_ofTimes_6 (by rw [hs1]; decide) (by rw [hs1]; decide) (off := 48) (by rw [hs1]; rfl) (by decide) ?_
    refine xg_aload_n (pc := 54) C dX11_ofTimes_54 1 rfl ?_
    refine xg_ldcw (pc := 55) (v := 2147483647) C dX11_ofTimes_55 (List.mem_of_getElem? (i := 1) rfl) ?_
    refine xg_cvI (pc := 58) (C1 := RX1) (T1 := TX1) (ci := 1) C [.int 2147483647] ha1 hka1 (by decide) rfl (met_X1_rowsWithin Y a1 2147483647) gX11_ofTimes_X1_rowsWithin rfl ⟨rfl, rfl⟩ nd_X1_rowsWithin ⟨Nat.le_of_ble_eq_true rfl, Nat.le_of_ble_eq_true rfl⟩ rfl rfl (Nat.le_of_ble_eq_true rfl) ⟨Nat.zero_le _, Nat.zero_le _⟩ dX11_ofTimes_58 hF (fun r5 h4 hF => ?_)
    exact xg_retI (pc := 61) C E dX11_ofTimes_61 hF
  have hF := hF.2
  by_cases hs2 : x1 = 2
  · have hF := hF.1 hs2
    refine xg_tabIn (pc := 6) 62 C dX11_ofTimes_6 (by rw [hs2]; decide) (by rw [hs2]; decide) (off := 56) (by rw [hs2]; rfl) (by decide) ?_
    refine xg_iload_n (pc := 62) C dX11_ofTimes_62 0 rfl ?_
    refine xg_csI (pc := 63) C [.int r3] (met_X11_lowest Y r3) gX11_ofTimes_X11_lowest rfl ⟨rfl, rfl⟩ nd_X11_lowest.2 ⟨Nat.le_of_ble_eq_true rfl, Nat.le_of_ble_eq_true rfl⟩ rfl rfl (Nat.le_of_ble_eq_true rfl) ⟨Nat.zero_le _, Nat.zero_le _⟩ dX11_ofTimes_63 hF (fun r7 h6 hF => ?_)
    exact xg_retI (pc := 66) C E dX11_ofTimes_66 hF
  have hF := hF.2
  by_cases hs3 : x1 = 3
  · have hF := hF.1 hs3
    refine xg_tabIn (pc := 6) 67 C dX11_ofTimes_6 (by rw [hs3]; decide) (by rw [hs3]; decide) (off := 61) (by rw [hs3]; rfl) (by decide) ?_
    refine xg_iload_n (pc := 67) C dX11_ofTimes_67 0 rfl ?_
    refine xg_csI (pc := 68) C [.int r3] (met_X11_highest Y r3) gX11_ofTimes_X11_highest rfl ⟨rfl, rfl⟩ nd_X11_highest.2 ⟨Nat.le_of_ble_eq_true rfl, Nat.le_of_ble_eq_true rfl⟩ rfl rfl (Nat.le_of_ble_eq_true rfl) ⟨Nat.zero_le _, Nat.zero_le _⟩ dX11_ofTimes_68 hF (fun r9 h8 hF => ?_)
    exact xg_retI (pc := 71) C E dX11_ofTimes_71 hF
  have hF := hF.2
  by_cases hs4 : x1 = 4
  · have hF := hF.1 hs4
    refine xg_tabIn (pc := 6) 72 C dX11_ofTimes_6 (by rw [hs4]; decide) (by rw [hs4]; decide) (off := 66) (by rw [hs4]; rfl) (by decide) ?_
    refine xg_ldcw (pc := 72) (v := 2147483647) C dX11_ofTimes_72 (List.mem_of_getElem? (i := 1) rfl) ?_
    refine xg_iload_n (pc := 75) C dX11_ofTimes_75 0 rfl ?_
    refine xg_iconst (pc := 76) (v := (-1)) C dX11_ofTimes_76 (by decide) ?_
    refine xg_ixor (pc := 77) C dX11_ofTimes_77 ?_
    refine xg_iand (pc := 78) C dX11_ofTimes_78 ?_
    refine xg_bipush (pc := 79) (v := (-2)) C dX11_ofTimes_79 (by decide) ?_
    refine xg_iand (pc := 81) C dX11_ofTimes_81 ?_
    refine xg_csI (pc := 82) C [.int ((2147483647 &&& (r3 ^^^ (-1))) &&& (-2))] (met_X11_lowest Y ((2147483647 &&& (r3 ^^^ (-1))) &&& (-2))) gX11_ofTimes_X11_lowest rfl ⟨rfl, rfl⟩ nd_X11_lowest.2 ⟨Nat.le_of_ble_eq_true rfl, Nat.le_of_ble_eq_true rfl⟩ rfl rfl (Nat.le_of_ble_eq_true rfl) ⟨Nat.zero_le _, Nat.zero_le _⟩ dX11_ofTimes_82 hF (fun r11 h10 hF => ?_)
    exact xg_retI (pc := 85) C E dX11_ofTimes_85 hF
  have hF := hF.2
  by_cases hs5 : x1 = 5
  · have hF := hF.1 hs5
    refine xg_tabIn (pc := 6) 86 C dX11_ofTimes_6 (by rw [hs5]; decide) (by rw [hs5]; decide) (off := 80) (by rw [hs5]; rfl) (by decide) ?_
    refine xg_iload_n (pc := 86) C dX11_ofTimes_86 0 rfl ?_
    refine xg_csI (pc := 87) C [.int r3] (met_X11_longestRow Y r3) gX11_ofTimes_X11_longestRow rfl ⟨rfl, rfl⟩ nd_X11_longestRow.2 ⟨Nat.le_of_ble_eq_true rfl, Nat.le_of_ble_eq_true rfl⟩ rfl rfl (Nat.le_of_ble_eq_true rfl) ⟨Nat.zero_le _, Nat.zero_le _⟩ dX11_ofTimes_87 hF (fun r13 h12 hF => ?_)
    exact xg_retI (pc := 90) C E dX11_ofTimes_90 hF
  have hF := hF.2
  by_cases hs6 : x1 = 6
  · have hF := hF.1 hs6
    refine xg_tabIn (pc := 6) 91 C dX11_ofTimes_6 (by rw [hs6]; decide) (by rw [hs6]; decide) (off := 85) (by rw [hs6]; rfl) (by decide) ?_
    refine xg_aload_n (pc := 91) C dX11_ofTimes_91 1 rfl ?_
    refine xg_cvI (pc := 92) (C1 := RX1) (T1 := TX1) (ci := 1) C [] ha1 hka1 (by decide) rfl (met_X1_dearest Y a1) gX11_ofTimes_X1_dearest rfl ⟨rfl, rfl⟩ nd_X1_dearest ⟨Nat.le_of_ble_eq_true rfl, Nat.le_of_ble_eq_true rfl⟩ rfl rfl (Nat.le_of_ble_eq_true rfl) ⟨Nat.zero_le _, Nat.zero_le _⟩ dX11_ofTimes_92 hF (fun r15 h14 hF => ?_)
    exact xg_retI (pc := 95) C E dX11_ofTimes_95 hF
  have hF := hF.2
  by_cases hs7 : x1 = 7
  · have hF := hF.1 hs7
    refine xg_tabIn (pc := 6) 96 C dX11_ofTimes_6 (by rw [hs7]; decide) (by rw [hs7]; decide) (off := 90) (by rw [hs7]; rfl) (by decide) ?_
    refine xg_aload_n (pc := 96) C dX11_ofTimes_96 1 rfl ?_
    refine xg_cvI (pc := 97) (C1 := RX1) (T1 := TX1) (ci := 1) C [] ha1 hka1 (by decide) rfl (met_X1_dearest Y a1) gX11_ofTimes_X1_dearest rfl ⟨rfl, rfl⟩ nd_X1_dearest ⟨Nat.le_of_ble_eq_true rfl, Nat.le_of_ble_eq_true rfl⟩ rfl rfl (Nat.le_of_ble_eq_true rfl) ⟨Nat.zero_le _, Nat.zero_le _⟩ dX11_ofTimes_97 hF (fun r17 h16 hF => ?_)
    refine xg_iconst (pc := 100) (v := (-1)) C dX11_ofTimes_100 (by decide) ?_
    refine xg_icmp_ne (pc := 101) 108 C dX11_ofTimes_101 (by decide) (fun hc => ?_) (fun hc => ?_)
    · have hF := hF.1 hc
      refine xg_aload_n (pc := 108) C dX11_ofTimes_108 1 rfl ?_
      refine xg_aload_n (pc := 109) C dX11_ofTimes_109 1 rfl ?_
      refine xg_cvI (pc := 110) (C1 := RX1) (T1 := TX1) (ci := 1) C [] ha1 hka1 (by decide) rfl (met_X1_dearest Y a1) gX11_ofTimes_X1_dearest rfl ⟨rfl, rfl⟩ nd_X1_dearest ⟨Nat.le_of_ble_eq_true rfl, Nat.le_of_ble_eq_true rfl⟩ rfl rfl (by simp [xg_rf_cat, xg_cat_i, xg_cat_l, xg_cat_a]) ⟨Nat.zero_le _, Nat.zero_le _⟩ dX11_ofTimes_110 hF (fun r19 h18 hF => ?_)
      refine xg_cvI (pc := 113) (C1 := RX1) (T1 := TX1) (ci := 1) C [.int r19] ha1 hka1 (by decide) rfl (met_X1_fewestTurns Y a1 r19) gX11_ofTimes_X1_fewestTurns rfl ⟨rfl, rfl⟩ nd_X1_fewestTurns ⟨Nat.le_of_ble_eq_true rfl, Nat.le_of_ble_eq_true rfl⟩ rfl rfl (Nat.le_of_ble_eq_true rfl) ⟨Nat.zero_le _, Nat.zero_le _⟩ dX11_ofTimes_113 hF (fun r21 h20 hF => ?_)
      exact xg_retI (pc := 116) C E dX11_ofTimes_116 hF
    · have hF := hF.2 hc
      refine xg_iconst (pc := 104) (v := 0) C dX11_ofTimes_104 (by decide) ?_
      refine xg_goto (pc := 105) 116 C dX11_ofTimes_105 (by decide) ?_
      exact xg_retI (pc := 116) C E dX11_ofTimes_116 hF
  have hF := hF.2
  have hF := hF hs0 hs1 hs2 hs3 hs4 hs5 hs6 hs7
  refine xg_tabOut (pc := 6) 117 C dX11_ofTimes_6 (mg_swd x1 0 7 (fun v h1 h2 => ?_)) (by decide) ?_
  · rcases (show v = 0 ∨ v = 1 ∨ v = 2 ∨ v = 3 ∨ v = 4 ∨ v = 5 ∨ v = 6 ∨ v = 7 by omega) with rfl | rfl | rfl | rfl | rfl | rfl | rfl | rfl
    · exact hs0
    · exact hs1
    · exact hs2
    · exact hs3
    · exact hs4
    · exact hs5
    · exact hs6
    · exact hs7
  refine xg_aload_n (pc := 117) C dX11_ofTimes_117 1 rfl ?_
  refine xg_cvI (pc := 118) (C1 := RX1) (T1 := TX1) (ci := 1) C [] ha1 hka1 (by decide) rfl (met_X1_toldFree Y a1) gX11_ofTimes_X1_toldFree rfl ⟨rfl, rfl⟩ nd_X1_toldFree ⟨Nat.le_of_ble_eq_true rfl, Nat.le_of_ble_eq_true rfl⟩ rfl rfl (Nat.le_of_ble_eq_true rfl) ⟨Nat.zero_le _, Nat.zero_le _⟩ dX11_ofTimes_118 hF (fun r23 h22 hF => ?_)
  exact xg_retI (pc := 121) C E dX11_ofTimes_121 hF
def rm_X11_order : Room := { frames := 1, cells := 0, slots := 0, locals := 22 }
theorem nd_X11_order : yX11_order.cls = RX11 ∧ yX11_order.cls ≠ "java/lang/invoke/MethodHandle" ∧ yX11_order.cls ≠ "java/lang/invoke/VarHandle" ∧ (parseMethodDescriptor yX11_order.desc).map (fun d => d.parameters.length) = some 2 := by decide +kernel
theorem inm_X11_order_8 : ∀ w ∈ u_ws RX8 TX8 (xg_N 8), w ∈ wsX11_order := fun _ h9 => List.mem_cons_of_mem _ (List.mem_append_left _ (List.mem_append_right _ h9))
theorem inm_X11_order_11 : ∀ w ∈ u_ws RX11 TX11 (xg_N 11), w ∈ wsX11_order := fun _ h9 => List.mem_cons_of_mem _ (List.mem_append_left _ (List.mem_append_left _ (List.mem_append_right _ h9)))
set_option maxHeartbeats 4000000 in
set_option maxRecDepth 100000 in
theorem met_X11_order (Y : xg_Y) (this : Nat) (x1 : Int32) (x2 : Int32) : xg_MI yX11_order wsX11_order rm_X11_order Y [va_rf (some this), .int x1, .int x2] (fun Q h => wp_X11_order Y Q this x1 x2 h) := by
  refine xg_startI (cc := cX11_order) (maxL := 4) (own := RX11) (by decide) rfl rfl (Nat.le_of_ble_eq_true rfl) (fun X Q h C hnL E hw => ?_)
  unfold wp_X11_order at hw
  obtain ⟨hthis, hw⟩ := hw
  refine xg_sub (lv2 := [(0, va_rf (some this)), (1, .int x1), (2, .int x2)]) [0, 1, 2] rfl ?_
  have hF := hw
  refine xg_aload_n (pc := 0) C dX11_order_0 0 rfl ?_
  refine xg_getr (pc := 1) (C1 := RX11) (T1 := TX11) (ci := 11) (ref := "SandGlasses") C inm_X11_order_11 rfl (by decide) 0 (by decide) rfl dX11_order_1 (List.mem_of_getElem? (i := 1) rfl) rfl rfl hthis ?_
  refine xg_iconst (pc := 4) (v := 3) C dX11_order_4 (by decide) ?_
  refine xg_iload_n (pc := 5) C dX11_order_5 1 rfl ?_
  obtain ⟨a1, ha1, hka1, hF⟩ := hF
  refine xg_cvR (pc := 6) (C1 := RX9) (T1 := TX9) (ci := 9) C [.int 3, .int x1] ha1 hka1 (by decide) rfl (met_X9_find Y a1 3 x1) gX11_order_X9_find rfl ⟨rfl, rfl⟩ nd_X9_find ⟨Nat.le_of_ble_eq_true rfl, Nat.le_of_ble_eq_true rfl⟩ rfl rfl (Nat.le_of_ble_eq_true rfl) ⟨Nat.zero_le _, Nat.zero_le _⟩ dX11_order_6 hF (fun r3 h2 hF => ?_)
  refine xg_astore_n (pc := 9) (lv2 := [(3, va_rf r3), (0, va_rf (some this)), (1, .int x1), (2, .int x2)]) C dX11_order_9 4 hnL (by decide) rfl ?_
  refine xg_aload_n (pc := 10) C dX11_order_10 0 rfl ?_
  refine xg_ifnonnull (pc := 11) 16 C dX11_order_11 (by decide) (fun a4 ha4 => ?_) (fun hc => ?_)
  · have hF := hF.2 a4 ha4
    refine xg_iload_n (pc := 16) C dX11_order_16 3 rfl ?_
    refine xg_iconst (pc := 17) (v := (-1)) C dX11_order_17 (by decide) ?_
    refine xg_icmp_ne (pc := 18) 26 C dX11_order_18 (by decide) (fun hc => ?_) (fun hc => ?_)
    · have hF := hF.1 hc
      refine xg_iload_n (pc := 26) C dX11_order_26 3 rfl ?_
      refine xg_if_lt (pc := 27) 47 C dX11_order_27 (by decide) (fun hc => ?_) (fun hc => ?_)
      · have hF := hF.1 hc
        refine xg_iconst (pc := 47) (v := (-1)) C dX11_order_47 (by decide) ?_
        exact xg_retI (pc := 48) C E dX11_order_48 hF
      · have hF := hF.2 hc
        refine xg_iload_n (pc := 30) C dX11_order_30 3 rfl ?_
        refine xg_aload_n (pc := 31) C dX11_order_31 0 rfl ?_
        obtain ⟨hk5, hF⟩ := hF
        refine xg_geti (pc := 32) (C1 := RX8) (T1 := TX8) (ci := 8) (ref := "SandGlasses$Text") C inm_X11_order_8 rfl (by decide) 0 (by decide) rfl dX11_order_32 (List.mem_of_getElem? (i := 2) rfl) rfl ha4 hk5 ?_
        refine xg_icmp_ge (pc := 35) 47 C dX11_order_35 (by decide) (fun hc => ?_) (fun hc => ?_)
        · have hF := hF.1 hc
          refine xg_iconst (pc := 47) (v := (-1)) C dX11_order_47 (by decide) ?_
          exact xg_retI (pc := 48) C E dX11_order_48 hF
        · have hF := hF.2 hc
          refine xg_aload_n (pc := 38) C dX11_order_38 0 rfl ?_
          refine xg_getr (pc := 39) (C1 := RX8) (T1 := TX8) (ci := 8) (ref := "SandGlasses$Text") C inm_X11_order_8 rfl (by decide) 1 (by decide) rfl dX11_order_39 (List.mem_of_getElem? (i := 3) rfl) rfl ha4 hk5 ?_
          refine xg_iload_n (pc := 42) C dX11_order_42 3 rfl ?_
          obtain ⟨a6, ha6, hka6, hF⟩ := hF
          obtain ⟨hi, hF⟩ := hF
          refine xg_iald (pc := 43) C ha6 hka6 hi dX11_order_43 ?_
          refine xg_goto (pc := 44) 48 C dX11_order_44 (by decide) ?_
          exact xg_retI (pc := 48) C E dX11_order_48 hF
    · have hF := hF.2 hc
      refine xg_aload_n (pc := 21) C dX11_order_21 0 rfl ?_
      obtain ⟨hk7, hF⟩ := hF
      refine xg_geti (pc := 22) (C1 := RX8) (T1 := TX8) (ci := 8) (ref := "SandGlasses$Text") C inm_X11_order_8 rfl (by decide) 0 (by decide) rfl dX11_order_22 (List.mem_of_getElem? (i := 2) rfl) rfl ha4 hk7 ?_
      exact xg_retI (pc := 25) C E dX11_order_25 hF
  · have hF := hF.1 hc
    refine xg_iconst (pc := 14) (v := (-1)) C dX11_order_14 (by decide) ?_
    exact xg_retI (pc := 15) C E dX11_order_15 hF
def rm_X4_allTurned : Room := { frames := 3, cells := 0, slots := 0, locals := 69 }
theorem nd_X4_allTurned : yX4_allTurned.cls = RX4 ∧ yX4_allTurned.cls ≠ "java/lang/invoke/MethodHandle" ∧ yX4_allTurned.cls ≠ "java/lang/invoke/VarHandle" ∧ (parseMethodDescriptor yX4_allTurned.desc).map (fun d => d.parameters.length) = some 1 := by decide +kernel
theorem inm_X4_allTurned_4 : ∀ w ∈ u_ws RX4 TX4 (xg_N 4), w ∈ wsX4_allTurned := fun _ h9 => List.mem_cons_of_mem _ (List.mem_append_left _ (List.mem_append_right _ h9))
set_option maxHeartbeats 4000000 in
set_option maxRecDepth 100000 in
theorem met_X4_allTurned (Y : xg_Y) (this : Nat) (x1 : Int32) : xg_MI yX4_allTurned wsX4_allTurned rm_X4_allTurned Y [va_rf (some this), .int x1] (fun Q h => wp_X4_allTurned Y Q this x1 h) := by
  refine xg_startI (cc := cX4_allTurned) (maxL := 2) (own := RX4) (by decide) rfl rfl (Nat.le_of_ble_eq_true rfl) (fun X Q h C hnL E hw => ?_)
  unfold wp_X4_allTurned at hw
  obtain ⟨hthis, hw⟩ := hw
  refine xg_sub (lv2 := [(0, va_rf (some this)), (1, .int x1)]) [0, 1] rfl ?_
  have hF := hw
  refine xg_aload_n (pc := 0) C dX4_allTurned_0 0 rfl ?_
  refine xg_getr (pc := 1) (C1 := RX4) (T1 := TX4) (ci := 4) (ref := "SandGlasses$Game") C inm_X4_allTurned_4 rfl (by decide) 4 (by decide) rfl dX4_allTurned_1 (List.mem_of_getElem? (i := 1) rfl) rfl rfl hthis ?_
  refine xg_aload_n (pc := 4) C dX4_allTurned_4 0 rfl ?_
  refine xg_geti (pc := 5) (C1 := RX4) (T1 := TX4) (ci := 4) (ref := "SandGlasses$Game") C inm_X4_allTurned_4 rfl (by decide) 5 (by decide) rfl dX4_allTurned_5 (List.mem_of_getElem? (i := 2) rfl) rfl rfl hthis ?_
  refine xg_iload_n (pc := 8) C dX4_allTurned_8 1 rfl ?_
  refine xg_isub (pc := 9) C dX4_allTurned_9 ?_
  obtain ⟨a1, ha1, hka1, hF⟩ := hF
  refine xg_cvI (pc := 10) (C1 := RX7) (T1 := TX7) (ci := 7) C [.int ((xg_i h this 5) - x1)] ha1 hka1 (by decide) rfl (met_X7_from Y a1 ((xg_i h this 5) - x1)) gX4_allTurned_X7_from rfl ⟨rfl, rfl⟩ nd_X7_from ⟨Nat.le_of_ble_eq_true rfl, Nat.le_of_ble_eq_true rfl⟩ rfl rfl (Nat.le_of_ble_eq_true rfl) ⟨Nat.zero_le _, Nat.zero_le _⟩ dX4_allTurned_10 hF (fun r3 h2 hF => ?_)
  exact xg_retI (pc := 13) C E dX4_allTurned_13 hF
def rm_X4_roundComesTo : Room := { frames := 4, cells := 0, slots := 0, locals := 90 }
theorem nd_X4_roundComesTo : yX4_roundComesTo.cls = RX4 ∧ yX4_roundComesTo.cls ≠ "java/lang/invoke/MethodHandle" ∧ yX4_roundComesTo.cls ≠ "java/lang/invoke/VarHandle" ∧ (parseMethodDescriptor yX4_roundComesTo.desc).map (fun d => d.parameters.length) = some 1 := by decide +kernel
theorem inm_X4_roundComesTo_4 : ∀ w ∈ u_ws RX4 TX4 (xg_N 4), w ∈ wsX4_roundComesTo := fun _ h9 => List.mem_cons_of_mem _ (List.mem_append_left _ (List.mem_append_right _ h9))
set_option maxHeartbeats 4000000 in
set_option maxRecDepth 100000 in
theorem met_X4_roundComesTo (Y : xg_Y) (this : Nat) (x1 : Int32) : xg_MI yX4_roundComesTo wsX4_roundComesTo rm_X4_roundComesTo Y [va_rf (some this), .int x1] (fun Q h => wp_X4_roundComesTo Y Q this x1 h) := by
  refine xg_startI (cc := cX4_roundComesTo) (maxL := 6) (own := RX4) (by decide) rfl rfl (Nat.le_of_ble_eq_true rfl) (fun X Q h C hnL E hw => ?_)
  unfold wp_X4_roundComesTo at hw
  obtain ⟨hthis, hw⟩ := hw
  refine xg_sub (lv2 := [(0, va_rf (some this)), (1, .int x1)]) [0, 1] rfl ?_
  refine mg_use (hw (fun (y2 : Int32) (y3 : Int32) (y4 : Int32) (h : xg_H) => xg_W X 0 0 Y 10 [(0, va_rf (some this)), (1, .int x1), (2, .int y2), (3, .int y3), (4, .int y4)] [] h) (fun (y3 : Int32) (h : xg_H) => xg_W X 0 0 Y 56 [(1, .int x1), (3, .int y3)] [] h) ?_ ?_) (fun hF => ?_)
  · intro y2 y3 y4 h hF
    refine xg_iload (pc := 10) C dX4_roundComesTo_10 4 rfl ?_
    refine xg_iload_n (pc := 12) C dX4_roundComesTo_12 1 rfl ?_
    refine xg_icmp_ge (pc := 13) 56 C dX4_roundComesTo_13 (by decide) (fun hc => ?_) (fun hc => ?_)
    · have hF := hF.1 hc
      refine xg_sub (lv2 := [(1, .int x1), (3, .int y3)]) [1, 3] rfl ?_
      exact hF
    · have hF := hF.2 hc
      refine xg_iload_n (pc := 16) C dX4_roundComesTo_16 3 rfl ?_
      refine xg_iload_n (pc := 17) C dX4_roundComesTo_17 1 rfl ?_
      refine xg_icmp_ge (pc := 18) 56 C dX4_roundComesTo_18 (by decide) (fun hc => ?_) (fun hc => ?_)
      · have hF := hF.1 hc
        refine xg_sub (lv2 := [(1, .int x1), (3, .int y3)]) [1, 3] rfl ?_
        exact hF
      · have hF := hF.2 hc
        refine xg_aload_n (pc := 21) C dX4_roundComesTo_21 0 rfl ?_
        refine xg_iload_n (pc := 22) C dX4_roundComesTo_22 2 rfl ?_
        refine xg_cvI (pc := 23) (C1 := RX4) (T1 := TX4) (ci := 4) C [.int y2] rfl hthis (by decide) rfl (met_X4_allTurned Y this y2) gX4_roundComesTo_X4_allTurned rfl ⟨rfl, rfl⟩ nd_X4_allTurned ⟨Nat.le_of_ble_eq_true rfl, Nat.le_of_ble_eq_true rfl⟩ rfl rfl (Nat.le_of_ble_eq_true rfl) ⟨Nat.zero_le _, Nat.zero_le _⟩ dX4_roundComesTo_23 hF (fun r3 h2 hF => ?_)
        refine xg_istore (pc := 26) (lv2 := [(5, .int r3), (0, va_rf (some this)), (1, .int x1), (2, .int y2), (3, .int y3), (4, .int y4)]) C dX4_roundComesTo_26 6 hnL (by decide) rfl ?_
        refine xg_iload (pc := 28) C dX4_roundComesTo_28 0 rfl ?_
        refine xg_if_ne (pc := 30) 35 C dX4_roundComesTo_30 (by decide) (fun hc => ?_) (fun hc => ?_)
        · have hF := hF.1 hc
          refine xg_iload_n (pc := 35) C dX4_roundComesTo_35 4 rfl ?_
          refine xg_iload (pc := 36) C dX4_roundComesTo_36 0 rfl ?_
          refine xg_bipush (pc := 38) (v := 12) C dX4_roundComesTo_38 (by decide) ?_
          refine xg_ishr (pc := 40) C dX4_roundComesTo_40 ?_
          refine xg_iadd (pc := 41) C dX4_roundComesTo_41 ?_
          refine xg_topi (pc := 42) (fun z4 ez4 => ?_)
          have hF := hF z4 ez4
          refine xg_istore_n (pc := 42) (lv2 := [(3, .int z4), (5, .int r3), (0, va_rf (some this)), (1, .int x1), (2, .int y2), (4, .int y4)]) C dX4_roundComesTo_42 6 hnL (by decide) rfl ?_
          refine xg_iload (pc := 43) C dX4_roundComesTo_43 1 rfl ?_
          refine xg_sipush (pc := 45) (v := 4095) C dX4_roundComesTo_45 (by decide) ?_
          refine xg_iand (pc := 48) C dX4_roundComesTo_48 ?_
          refine xg_topi (pc := 49) (fun z5 ez5 => ?_)
          have hF := hF z5 ez5
          refine xg_istore_n (pc := 49) (lv2 := [(2, .int z5), (3, .int z4), (5, .int r3), (0, va_rf (some this)), (1, .int x1), (4, .int y4)]) C dX4_roundComesTo_49 6 hnL (by decide) rfl ?_
          obtain ⟨z6, ez6⟩ : ∃ y : Int32, y = y4 + 1 := ⟨_, rfl⟩
          have hF := hF z6 ez6
          refine xg_iinc (pc := 50) (v := z6) (lv2 := [(4, .int z6), (2, .int z5), (3, .int z4), (5, .int r3), (0, va_rf (some this)), (1, .int x1)]) C dX4_roundComesTo_50 5 rfl (by rw [ez6]; rfl) 6 hnL (by decide) rfl ?_
          refine xg_goto (pc := 53) 10 C dX4_roundComesTo_53 (by decide) ?_
          refine xg_sub (lv2 := [(0, va_rf (some this)), (1, .int x1), (2, .int z5), (3, .int z4), (4, .int z6)]) [4, 5, 1, 2, 0] rfl ?_
          exact hF
        · have hF := hF.2 hc
          refine xg_iconst (pc := 33) (v := 0) C dX4_roundComesTo_33 (by decide) ?_
          exact xg_retZ (pc := 34) C E (Or.inl rfl) dX4_roundComesTo_34 hF
  · intro y3 h hF
    refine xg_iload_n (pc := 56) C dX4_roundComesTo_56 1 rfl ?_
    refine xg_iload_n (pc := 57) C dX4_roundComesTo_57 0 rfl ?_
    refine xg_icmp_ne (pc := 58) 65 C dX4_roundComesTo_58 (by decide) (fun hc => ?_) (fun hc => ?_)
    · have hF := hF.1 hc
      refine xg_iconst (pc := 65) (v := 0) C dX4_roundComesTo_65 (by decide) ?_
      exact xg_retZ (pc := 66) C E (Or.inl rfl) dX4_roundComesTo_66 hF
    · have hF := hF.2 hc
      refine xg_iconst (pc := 61) (v := 1) C dX4_roundComesTo_61 (by decide) ?_
      refine xg_goto (pc := 62) 66 C dX4_roundComesTo_62 (by decide) ?_
      exact xg_retZ (pc := 66) C E (Or.inr rfl) dX4_roundComesTo_66 hF
  · skip
    refine xg_aload_n (pc := 0) C dX4_roundComesTo_0 0 rfl ?_
    refine xg_geti (pc := 1) (C1 := RX4) (T1 := TX4) (ci := 4) (ref := "SandGlasses$Game") C inm_X4_roundComesTo_4 rfl (by decide) 0 (by decide) rfl dX4_roundComesTo_1 (List.mem_of_getElem? (i := 1) rfl) rfl rfl hthis ?_
    refine xg_topi (pc := 4) (fun z1 ez1 => ?_)
    have hF := hF z1 ez1
    refine xg_istore_n (pc := 4) (lv2 := [(2, .int z1), (0, va_rf (some this)), (1, .int x1)]) C dX4_roundComesTo_4 6 hnL (by decide) rfl ?_
    refine xg_iconst (pc := 5) (v := 0) C dX4_roundComesTo_5 (by decide) ?_
    refine xg_istore_n (pc := 6) (lv2 := [(3, .int 0), (2, .int z1), (0, va_rf (some this)), (1, .int x1)]) C dX4_roundComesTo_6 6 hnL (by decide) rfl ?_
    refine xg_iconst (pc := 7) (v := 0) C dX4_roundComesTo_7 (by decide) ?_
    refine xg_istore (pc := 8) (lv2 := [(4, .int 0), (3, .int 0), (2, .int z1), (0, va_rf (some this)), (1, .int x1)]) C dX4_roundComesTo_8 6 hnL (by decide) rfl ?_
    refine xg_sub (lv2 := [(0, va_rf (some this)), (1, .int x1), (2, .int z1), (3, .int 0), (4, .int 0)]) [3, 4, 2, 1, 0] rfl ?_
    exact hF
def rm_X11_same : Room := { frames := 5, cells := 0, slots := 0, locals := 115 }
theorem nd_X11_same : yX11_same.cls = RX11 ∧ yX11_same.cls ≠ "java/lang/invoke/MethodHandle" ∧ yX11_same.cls ≠ "java/lang/invoke/VarHandle" ∧ (parseMethodDescriptor yX11_same.desc).map (fun d => d.parameters.length) = some 2 := by decide +kernel
theorem inm_X11_same_11 : ∀ w ∈ u_ws RX11 TX11 (xg_N 11), w ∈ wsX11_same := fun _ h9 => List.mem_cons_of_mem _ (List.mem_append_left _ (List.mem_append_left _ (List.mem_append_left _ (List.mem_append_left _ (List.mem_append_right _ h9)))))
set_option maxHeartbeats 4000000 in
set_option maxRecDepth 100000 in
theorem met_X11_same (Y : xg_Y) (this : Nat) (x1 : Int32) (x2 : Int32) : xg_MI yX11_same wsX11_same rm_X11_same Y [va_rf (some this), .int x1, .int x2] (fun Q h => wp_X11_same Y Q this x1 x2 h) := by
  refine xg_startI (cc := cX11_same) (maxL := 4) (own := RX11) (by decide) rfl rfl (Nat.le_of_ble_eq_true rfl) (fun X Q h C hnL E hw => ?_)
  unfold wp_X11_same at hw
  obtain ⟨hthis, hw⟩ := hw
  refine xg_sub (lv2 := [(0, va_rf (some this)), (1, .int x1), (2, .int x2)]) [0, 1, 2] rfl ?_
  have hF := hw
  refine xg_aload_n (pc := 0) C dX11_same_0 0 rfl ?_
  refine xg_getr (pc := 1) (C1 := RX11) (T1 := TX11) (ci := 11) (ref := "SandGlasses") C inm_X11_same_11 rfl (by decide) 0 (by decide) rfl dX11_same_1 (List.mem_of_getElem? (i := 1) rfl) rfl rfl hthis ?_
  refine xg_iconst (pc := 4) (v := 0) C dX11_same_4 (by decide) ?_
  refine xg_iload_n (pc := 5) C dX11_same_5 1 rfl ?_
  obtain ⟨a1, ha1, hka1, hF⟩ := hF
  refine xg_cvR (pc := 6) (C1 := RX9) (T1 := TX9) (ci := 9) C [.int 0, .int x1] ha1 hka1 (by decide) rfl (met_X9_find Y a1 0 x1) gX11_same_X9_find rfl ⟨rfl, rfl⟩ nd_X9_find ⟨Nat.le_of_ble_eq_true rfl, Nat.le_of_ble_eq_true rfl⟩ rfl rfl (Nat.le_of_ble_eq_true rfl) ⟨Nat.zero_le _, Nat.zero_le _⟩ dX11_same_6 hF (fun r3 h2 hF => ?_)
  refine xg_astore_n (pc := 9) (lv2 := [(3, va_rf r3), (0, va_rf (some this)), (1, .int x1), (2, .int x2)]) C dX11_same_9 4 hnL (by decide) rfl ?_
  refine xg_aload_n (pc := 10) C dX11_same_10 0 rfl ?_
  refine xg_ifnull (pc := 11) 21 C dX11_same_11 (by decide) (fun hc => ?_) (fun a4 ha4 => ?_)
  · have hF := hF.1 hc
    refine xg_iconst (pc := 21) (v := (-1)) C dX11_same_21 (by decide) ?_
    exact xg_retI (pc := 22) C E dX11_same_22 hF
  · have hF := hF.2 a4 ha4
    refine xg_iload_n (pc := 14) C dX11_same_14 3 rfl ?_
    refine xg_csI (pc := 15) C [.int x2] (met_X11_isT Y x2) gX11_same_X11_isT rfl ⟨rfl, rfl⟩ nd_X11_isT.2 ⟨Nat.le_of_ble_eq_true rfl, Nat.le_of_ble_eq_true rfl⟩ rfl rfl (Nat.le_of_ble_eq_true rfl) ⟨Nat.zero_le _, Nat.zero_le _⟩ dX11_same_15 hF (fun r6 h5 hF => ?_)
    refine xg_if_ne (pc := 18) 23 C dX11_same_18 (by decide) (fun hc => ?_) (fun hc => ?_)
    · have hF := hF.1 hc
      refine xg_aload_n (pc := 23) C dX11_same_23 1 rfl ?_
      refine xg_getr (pc := 24) (C1 := RX11) (T1 := TX11) (ci := 11) (ref := "SandGlasses") C inm_X11_same_11 rfl (by decide) 6 (by decide) rfl dX11_same_24 (List.mem_of_getElem? (i := 2) rfl) rfl rfl hthis ?_
      refine xg_aload_n (pc := 27) C dX11_same_27 0 rfl ?_
      obtain ⟨a7, ha7, hka7, hF⟩ := hF
      refine xg_cvV (pc := 28) (C1 := RX4) (T1 := TX4) (ci := 4) C [va_rf r3] ha7 hka7 (by decide) rfl (met_X4_begin Y a7 r3) gX11_same_X4_begin rfl ⟨rfl, rfl⟩ nd_X4_begin ⟨Nat.le_of_ble_eq_true rfl, Nat.le_of_ble_eq_true rfl⟩ rfl rfl (Nat.le_of_ble_eq_true rfl) ⟨Nat.zero_le _, Nat.zero_le _⟩ dX11_same_28 hF (fun h8 hF => ?_)
      refine xg_aload_n (pc := 31) C dX11_same_31 1 rfl ?_
      refine xg_getr (pc := 32) (C1 := RX11) (T1 := TX11) (ci := 11) (ref := "SandGlasses") C inm_X11_same_11 rfl (by decide) 6 (by decide) rfl dX11_same_32 (List.mem_of_getElem? (i := 2) rfl) rfl rfl hthis ?_
      refine xg_iload_n (pc := 35) C dX11_same_35 3 rfl ?_
      obtain ⟨a9, ha9, hka9, hF⟩ := hF
      refine xg_cvI (pc := 36) (C1 := RX4) (T1 := TX4) (ci := 4) C [.int x2] ha9 hka9 (by decide) rfl (met_X4_roundComesTo Y a9 x2) gX11_same_X4_roundComesTo rfl ⟨rfl, rfl⟩ nd_X4_roundComesTo ⟨Nat.le_of_ble_eq_true rfl, Nat.le_of_ble_eq_true rfl⟩ rfl rfl (Nat.le_of_ble_eq_true rfl) ⟨Nat.zero_le _, Nat.zero_le _⟩ dX11_same_36 hF (fun r11 h10 hF => ?_)
      refine xg_if_eq (pc := 39) 46 C dX11_same_39 (by decide) (fun hc => ?_) (fun hc => ?_)
      · have hF := hF.1 hc
        refine xg_iconst (pc := 46) (v := 0) C dX11_same_46 (by decide) ?_
        exact xg_retI (pc := 47) C E dX11_same_47 hF
      · have hF := hF.2 hc
        refine xg_iconst (pc := 42) (v := 1) C dX11_same_42 (by decide) ?_
        refine xg_goto (pc := 43) 47 C dX11_same_43 (by decide) ?_
        exact xg_retI (pc := 47) C E dX11_same_47 hF
    · have hF := hF.2 hc
      refine xg_iconst (pc := 21) (v := (-1)) C dX11_same_21 (by decide) ?_
      exact xg_retI (pc := 22) C E dX11_same_22 hF
def rm_X11_shelf : Room := { frames := 1, cells := 0, slots := 0, locals := 22 }
theorem nd_X11_shelf : yX11_shelf.cls = RX11 ∧ yX11_shelf.cls ≠ "java/lang/invoke/MethodHandle" ∧ yX11_shelf.cls ≠ "java/lang/invoke/VarHandle" ∧ (parseMethodDescriptor yX11_shelf.desc).map (fun d => d.parameters.length) = some 2 := by decide +kernel
theorem inm_X11_shelf_8 : ∀ w ∈ u_ws RX8 TX8 (xg_N 8), w ∈ wsX11_shelf := fun _ h9 => List.mem_cons_of_mem _ (List.mem_append_left _ (List.mem_append_right _ h9))
theorem inm_X11_shelf_11 : ∀ w ∈ u_ws RX11 TX11 (xg_N 11), w ∈ wsX11_shelf := fun _ h9 => List.mem_cons_of_mem _ (List.mem_append_left _ (List.mem_append_left _ (List.mem_append_right _ h9)))
set_option maxHeartbeats 4000000 in
set_option maxRecDepth 100000 in
theorem met_X11_shelf (Y : xg_Y) (this : Nat) (x1 : Int32) (x2 : Int32) : xg_MI yX11_shelf wsX11_shelf rm_X11_shelf Y [va_rf (some this), .int x1, .int x2] (fun Q h => wp_X11_shelf Y Q this x1 x2 h) := by
  refine xg_startI (cc := cX11_shelf) (maxL := 4) (own := RX11) (by decide) rfl rfl (Nat.le_of_ble_eq_true rfl) (fun X Q h C hnL E hw => ?_)
  unfold wp_X11_shelf at hw
  obtain ⟨hthis, hw⟩ := hw
  refine xg_sub (lv2 := [(0, va_rf (some this)), (1, .int x1), (2, .int x2)]) [0, 1, 2] rfl ?_
  have hF := hw
  refine xg_aload_n (pc := 0) C dX11_shelf_0 0 rfl ?_
  refine xg_getr (pc := 1) (C1 := RX11) (T1 := TX11) (ci := 11) (ref := "SandGlasses") C inm_X11_shelf_11 rfl (by decide) 0 (by decide) rfl dX11_shelf_1 (List.mem_of_getElem? (i := 1) rfl) rfl rfl hthis ?_
  refine xg_iconst (pc := 4) (v := 0) C dX11_shelf_4 (by decide) ?_
  refine xg_iload_n (pc := 5) C dX11_shelf_5 1 rfl ?_
  obtain ⟨a1, ha1, hka1, hF⟩ := hF
  refine xg_cvR (pc := 6) (C1 := RX9) (T1 := TX9) (ci := 9) C [.int 0, .int x1] ha1 hka1 (by decide) rfl (met_X9_find Y a1 0 x1) gX11_shelf_X9_find rfl ⟨rfl, rfl⟩ nd_X9_find ⟨Nat.le_of_ble_eq_true rfl, Nat.le_of_ble_eq_true rfl⟩ rfl rfl (Nat.le_of_ble_eq_true rfl) ⟨Nat.zero_le _, Nat.zero_le _⟩ dX11_shelf_6 hF (fun r3 h2 hF => ?_)
  refine xg_astore_n (pc := 9) (lv2 := [(3, va_rf r3), (0, va_rf (some this)), (1, .int x1), (2, .int x2)]) C dX11_shelf_9 4 hnL (by decide) rfl ?_
  refine xg_aload_n (pc := 10) C dX11_shelf_10 0 rfl ?_
  refine xg_ifnonnull (pc := 11) 16 C dX11_shelf_11 (by decide) (fun a4 ha4 => ?_) (fun hc => ?_)
  · have hF := hF.2 a4 ha4
    refine xg_iload_n (pc := 16) C dX11_shelf_16 3 rfl ?_
    refine xg_if_ne (pc := 17) 25 C dX11_shelf_17 (by decide) (fun hc => ?_) (fun hc => ?_)
    · have hF := hF.1 hc
      refine xg_aload_n (pc := 25) C dX11_shelf_25 0 rfl ?_
      refine xg_iload_n (pc := 26) C dX11_shelf_26 3 rfl ?_
      refine xg_bipush (pc := 27) (v := 10) C dX11_shelf_27 (by decide) ?_
      refine xg_csI (pc := 29) C [va_rf r3, .int x2, .int 10] (met_X11_isGlass Y r3 x2 10) gX11_shelf_X11_isGlass rfl ⟨rfl, rfl⟩ nd_X11_isGlass.2 ⟨Nat.le_of_ble_eq_true rfl, Nat.le_of_ble_eq_true rfl⟩ rfl rfl (Nat.le_of_ble_eq_true rfl) ⟨Nat.zero_le _, Nat.zero_le _⟩ dX11_shelf_29 hF (fun r6 h5 hF => ?_)
      refine xg_if_eq (pc := 32) 45 C dX11_shelf_32 (by decide) (fun hc => ?_) (fun hc => ?_)
      · have hF := hF.1 hc
        refine xg_aload_n (pc := 45) C dX11_shelf_45 0 rfl ?_
        refine xg_iload_n (pc := 46) C dX11_shelf_46 3 rfl ?_
        refine xg_bipush (pc := 47) (v := 20) C dX11_shelf_47 (by decide) ?_
        refine xg_csI (pc := 49) C [va_rf r3, .int x2, .int 20] (met_X11_isGlass Y r3 x2 20) gX11_shelf_X11_isGlass rfl ⟨rfl, rfl⟩ nd_X11_isGlass.2 ⟨Nat.le_of_ble_eq_true rfl, Nat.le_of_ble_eq_true rfl⟩ rfl rfl (Nat.le_of_ble_eq_true rfl) ⟨Nat.zero_le _, Nat.zero_le _⟩ dX11_shelf_49 hF (fun r8 h7 hF => ?_)
        refine xg_if_eq (pc := 52) 65 C dX11_shelf_52 (by decide) (fun hc => ?_) (fun hc => ?_)
        · have hF := hF.1 hc
          refine xg_aload_n (pc := 65) C dX11_shelf_65 0 rfl ?_
          refine xg_iload_n (pc := 66) C dX11_shelf_66 3 rfl ?_
          refine xg_bipush (pc := 67) (v := 30) C dX11_shelf_67 (by decide) ?_
          refine xg_csI (pc := 69) C [va_rf r3, .int x2, .int 30] (met_X11_isGlass Y r3 x2 30) gX11_shelf_X11_isGlass rfl ⟨rfl, rfl⟩ nd_X11_isGlass.2 ⟨Nat.le_of_ble_eq_true rfl, Nat.le_of_ble_eq_true rfl⟩ rfl rfl (Nat.le_of_ble_eq_true rfl) ⟨Nat.zero_le _, Nat.zero_le _⟩ dX11_shelf_69 hF (fun r10 h9 hF => ?_)
          refine xg_if_eq (pc := 72) 85 C dX11_shelf_72 (by decide) (fun hc => ?_) (fun hc => ?_)
          · have hF := hF.1 hc
            refine xg_iconst (pc := 85) (v := (-1)) C dX11_shelf_85 (by decide) ?_
            exact xg_retI (pc := 86) C E dX11_shelf_86 hF
          · have hF := hF.2 hc
            refine xg_aload_n (pc := 75) C dX11_shelf_75 0 rfl ?_
            obtain ⟨hk11, hF⟩ := hF
            refine xg_getr (pc := 76) (C1 := RX8) (T1 := TX8) (ci := 8) (ref := "SandGlasses$Text") C inm_X11_shelf_8 rfl (by decide) 3 (by decide) rfl dX11_shelf_76 (List.mem_of_getElem? (i := 5) rfl) rfl ha4 hk11 ?_
            refine xg_iload_n (pc := 79) C dX11_shelf_79 3 rfl ?_
            refine xg_bipush (pc := 80) (v := 30) C dX11_shelf_80 (by decide) ?_
            refine xg_isub (pc := 82) C dX11_shelf_82 ?_
            obtain ⟨a12, ha12, hka12, hF⟩ := hF
            obtain ⟨hi, hF⟩ := hF
            refine xg_iald (pc := 83) C ha12 hka12 hi dX11_shelf_83 ?_
            exact xg_retI (pc := 84) C E dX11_shelf_84 hF
        · have hF := hF.2 hc
          refine xg_aload_n (pc := 55) C dX11_shelf_55 0 rfl ?_
          obtain ⟨hk13, hF⟩ := hF
          refine xg_getr (pc := 56) (C1 := RX8) (T1 := TX8) (ci := 8) (ref := "SandGlasses$Text") C inm_X11_shelf_8 rfl (by decide) 2 (by decide) rfl dX11_shelf_56 (List.mem_of_getElem? (i := 4) rfl) rfl ha4 hk13 ?_
          refine xg_iload_n (pc := 59) C dX11_shelf_59 3 rfl ?_
          refine xg_bipush (pc := 60) (v := 20) C dX11_shelf_60 (by decide) ?_
          refine xg_isub (pc := 62) C dX11_shelf_62 ?_
          obtain ⟨a14, ha14, hka14, hF⟩ := hF
          obtain ⟨hi, hF⟩ := hF
          refine xg_iald (pc := 63) C ha14 hka14 hi dX11_shelf_63 ?_
          exact xg_retI (pc := 64) C E dX11_shelf_64 hF
      · have hF := hF.2 hc
        refine xg_aload_n (pc := 35) C dX11_shelf_35 0 rfl ?_
        obtain ⟨hk15, hF⟩ := hF
        refine xg_getr (pc := 36) (C1 := RX8) (T1 := TX8) (ci := 8) (ref := "SandGlasses$Text") C inm_X11_shelf_8 rfl (by decide) 1 (by decide) rfl dX11_shelf_36 (List.mem_of_getElem? (i := 3) rfl) rfl ha4 hk15 ?_
        refine xg_iload_n (pc := 39) C dX11_shelf_39 3 rfl ?_
        refine xg_bipush (pc := 40) (v := 10) C dX11_shelf_40 (by decide) ?_
        refine xg_isub (pc := 42) C dX11_shelf_42 ?_
        obtain ⟨a16, ha16, hka16, hF⟩ := hF
        obtain ⟨hi, hF⟩ := hF
        refine xg_iald (pc := 43) C ha16 hka16 hi dX11_shelf_43 ?_
        exact xg_retI (pc := 44) C E dX11_shelf_44 hF
    · have hF := hF.2 hc
      refine xg_aload_n (pc := 20) C dX11_shelf_20 0 rfl ?_
      obtain ⟨hk17, hF⟩ := hF
      refine xg_geti (pc := 21) (C1 := RX8) (T1 := TX8) (ci := 8) (ref := "SandGlasses$Text") C inm_X11_shelf_8 rfl (by decide) 0 (by decide) rfl dX11_shelf_21 (List.mem_of_getElem? (i := 2) rfl) rfl ha4 hk17 ?_
      exact xg_retI (pc := 24) C E dX11_shelf_24 hF
  · have hF := hF.1 hc
    refine xg_iconst (pc := 14) (v := (-1)) C dX11_shelf_14 (by decide) ?_
    exact xg_retI (pc := 15) C E dX11_shelf_15 hF
def rm_X11_state : Room := { frames := 4, cells := 0, slots := 0, locals := 93 }
theorem nd_X11_state : yX11_state.cls = RX11 ∧ yX11_state.cls ≠ "java/lang/invoke/MethodHandle" ∧ yX11_state.cls ≠ "java/lang/invoke/VarHandle" ∧ (parseMethodDescriptor yX11_state.desc).map (fun d => d.parameters.length) = some 4 := by decide +kernel
theorem inm_X11_state_8 : ∀ w ∈ u_ws RX8 TX8 (xg_N 8), w ∈ wsX11_state := fun _ h9 => List.mem_cons_of_mem _ (List.mem_append_left _ (List.mem_append_left _ (List.mem_append_left _ (List.mem_append_right _ h9))))
theorem inm_X11_state_11 : ∀ w ∈ u_ws RX11 TX11 (xg_N 11), w ∈ wsX11_state := fun _ h9 => List.mem_cons_of_mem _ (List.mem_append_left _ (List.mem_append_left _ (List.mem_append_left _ (List.mem_append_left _ (List.mem_append_right _ h9)))))
set_option maxHeartbeats 4000000 in
set_option maxRecDepth 100000 in
theorem met_X11_state (Y : xg_Y) (this : Nat) (x1 : Int32) (x2 : Int32) (x3 : Int32) (x4 : Int32) : xg_MI yX11_state wsX11_state rm_X11_state Y [va_rf (some this), .int x1, .int x2, .int x3, .int x4] (fun Q h => wp_X11_state Y Q this x1 x2 x3 x4 h) := by
  refine xg_startI (cc := cX11_state) (maxL := 7) (own := RX11) (by decide) rfl rfl (Nat.le_of_ble_eq_true rfl) (fun X Q h C hnL E hw => ?_)
  unfold wp_X11_state at hw
  obtain ⟨hthis, hw⟩ := hw
  refine xg_sub (lv2 := [(0, va_rf (some this)), (1, .int x1), (2, .int x2), (3, .int x3), (4, .int x4)]) [0, 1, 2, 3, 4] rfl ?_
  have hF := hw
  refine xg_aload_n (pc := 0) C dX11_state_0 0 rfl ?_
  refine xg_getr (pc := 1) (C1 := RX11) (T1 := TX11) (ci := 11) (ref := "SandGlasses") C inm_X11_state_11 rfl (by decide) 0 (by decide) rfl dX11_state_1 (List.mem_of_getElem? (i := 1) rfl) rfl rfl hthis ?_
  refine xg_iconst (pc := 4) (v := 0) C dX11_state_4 (by decide) ?_
  refine xg_iload_n (pc := 5) C dX11_state_5 1 rfl ?_
  obtain ⟨a1, ha1, hka1, hF⟩ := hF
  refine xg_cvR (pc := 6) (C1 := RX9) (T1 := TX9) (ci := 9) C [.int 0, .int x1] ha1 hka1 (by decide) rfl (met_X9_find Y a1 0 x1) gX11_state_X9_find rfl ⟨rfl, rfl⟩ nd_X9_find ⟨Nat.le_of_ble_eq_true rfl, Nat.le_of_ble_eq_true rfl⟩ rfl rfl (Nat.le_of_ble_eq_true rfl) ⟨Nat.zero_le _, Nat.zero_le _⟩ dX11_state_6 hF (fun r3 h2 hF => ?_)
  refine xg_astore (pc := 9) (lv2 := [(5, va_rf r3), (0, va_rf (some this)), (1, .int x1), (2, .int x2), (3, .int x3), (4, .int x4)]) C dX11_state_9 7 hnL (by decide) rfl ?_
  refine xg_aload_n (pc := 11) C dX11_state_11 1 rfl ?_
  refine xg_getr (pc := 12) (C1 := RX11) (T1 := TX11) (ci := 11) (ref := "SandGlasses") C inm_X11_state_11 rfl (by decide) 0 (by decide) rfl dX11_state_12 (List.mem_of_getElem? (i := 1) rfl) rfl rfl hthis ?_
  refine xg_iconst (pc := 15) (v := 1) C dX11_state_15 (by decide) ?_
  refine xg_iload_n (pc := 16) C dX11_state_16 3 rfl ?_
  obtain ⟨a4, ha4, hka4, hF⟩ := hF
  refine xg_cvR (pc := 17) (C1 := RX9) (T1 := TX9) (ci := 9) C [.int 1, .int x2] ha4 hka4 (by decide) rfl (met_X9_find Y a4 1 x2) gX11_state_X9_find rfl ⟨rfl, rfl⟩ nd_X9_find ⟨Nat.le_of_ble_eq_true rfl, Nat.le_of_ble_eq_true rfl⟩ rfl rfl (Nat.le_of_ble_eq_true rfl) ⟨Nat.zero_le _, Nat.zero_le _⟩ dX11_state_17 hF (fun r6 h5 hF => ?_)
  refine xg_astore (pc := 20) (lv2 := [(6, va_rf r6), (5, va_rf r3), (0, va_rf (some this)), (1, .int x1), (2, .int x2), (3, .int x3), (4, .int x4)]) C dX11_state_20 7 hnL (by decide) (by cases r3 <;> rfl) ?_
  refine xg_aload (pc := 22) C dX11_state_22 1 rfl ?_
  refine xg_ifnull (pc := 24) 45 C dX11_state_24 (by decide) (fun hc => ?_) (fun a7 ha7 => ?_)
  · have hF := hF.1 hc
    refine xg_iconst (pc := 45) (v := (-1)) C dX11_state_45 (by decide) ?_
    exact xg_retI (pc := 46) C E dX11_state_46 hF
  · have hF := hF.2 a7 ha7
    refine xg_aload (pc := 27) C dX11_state_27 0 rfl ?_
    refine xg_ifnull (pc := 29) 45 C dX11_state_29 (by decide) (fun hc => ?_) (fun a8 ha8 => ?_)
    · have hF := hF.1 hc
      refine xg_iconst (pc := 45) (v := (-1)) C dX11_state_45 (by decide) ?_
      exact xg_retI (pc := 46) C E dX11_state_46 hF
    · have hF := hF.2 a8 ha8
      refine xg_iload_n (pc := 32) C dX11_state_32 5 rfl ?_
      refine xg_if_lt (pc := 33) 45 C dX11_state_33 (by decide) (fun hc => ?_) (fun hc => ?_)
      · have hF := hF.1 hc
        refine xg_iconst (pc := 45) (v := (-1)) C dX11_state_45 (by decide) ?_
        exact xg_retI (pc := 46) C E dX11_state_46 hF
      · have hF := hF.2 hc
        refine xg_iload_n (pc := 36) C dX11_state_36 5 rfl ?_
        refine xg_aload (pc := 37) C dX11_state_37 0 rfl ?_
        obtain ⟨hk9, hF⟩ := hF
        refine xg_geti (pc := 39) (C1 := RX8) (T1 := TX8) (ci := 8) (ref := "SandGlasses$Text") C inm_X11_state_8 rfl (by decide) 0 (by decide) rfl dX11_state_39 (List.mem_of_getElem? (i := 2) rfl) rfl ha8 hk9 ?_
        refine xg_icmp_le (pc := 42) 47 C dX11_state_42 (by decide) (fun hc => ?_) (fun hc => ?_)
        · have hF := hF.1 hc
          refine xg_aload_n (pc := 47) C dX11_state_47 2 rfl ?_
          refine xg_getr (pc := 48) (C1 := RX11) (T1 := TX11) (ci := 11) (ref := "SandGlasses") C inm_X11_state_11 rfl (by decide) 3 (by decide) rfl dX11_state_48 (List.mem_of_getElem? (i := 3) rfl) rfl rfl hthis ?_
          refine xg_aload (pc := 51) C dX11_state_51 1 rfl ?_
          obtain ⟨a10, ha10, hka10, hF⟩ := hF
          refine xg_cvV (pc := 53) (C1 := RX0) (T1 := TX0) (ci := 0) C [va_rf r3] ha10 hka10 (by decide) rfl (met_X0_begin Y a10 r3) gX11_state_X0_begin rfl ⟨rfl, rfl⟩ nd_X0_begin ⟨Nat.le_of_ble_eq_true rfl, Nat.le_of_ble_eq_true rfl⟩ rfl rfl (Nat.le_of_ble_eq_true rfl) ⟨Nat.zero_le _, Nat.zero_le _⟩ dX11_state_53 hF (fun h11 hF => ?_)
          refine xg_aload_n (pc := 56) C dX11_state_56 2 rfl ?_
          refine xg_getr (pc := 57) (C1 := RX11) (T1 := TX11) (ci := 11) (ref := "SandGlasses") C inm_X11_state_11 rfl (by decide) 3 (by decide) rfl dX11_state_57 (List.mem_of_getElem? (i := 3) rfl) rfl rfl hthis ?_
          refine xg_aload (pc := 60) C dX11_state_60 0 rfl ?_
          refine xg_iload_n (pc := 62) C dX11_state_62 5 rfl ?_
          obtain ⟨a12, ha12, hka12, hF⟩ := hF
          refine xg_cvI (pc := 63) (C1 := RX0) (T1 := TX0) (ci := 0) C [va_rf r6, .int x3] ha12 hka12 (by decide) rfl (met_X0_play Y a12 r6 x3) gX11_state_X0_play rfl ⟨rfl, rfl⟩ nd_X0_play ⟨Nat.le_of_ble_eq_true rfl, Nat.le_of_ble_eq_true rfl⟩ rfl rfl (Nat.le_of_ble_eq_true rfl) ⟨Nat.zero_le _, Nat.zero_le _⟩ dX11_state_63 hF (fun r14 h13 hF => ?_)
          refine xg_iload_n (pc := 66) C dX11_state_66 5 rfl ?_
          refine xg_icmp_ne (pc := 67) 82 C dX11_state_67 (by decide) (fun hc => ?_) (fun hc => ?_)
          · have hF := hF.1 hc
            refine xg_iconst (pc := 82) (v := (-1)) C dX11_state_82 (by decide) ?_
            exact xg_retI (pc := 83) C E dX11_state_83 hF
          · have hF := hF.2 hc
            refine xg_aload_n (pc := 70) C dX11_state_70 2 rfl ?_
            refine xg_getr (pc := 71) (C1 := RX11) (T1 := TX11) (ci := 11) (ref := "SandGlasses") C inm_X11_state_11 rfl (by decide) 3 (by decide) rfl dX11_state_71 (List.mem_of_getElem? (i := 3) rfl) rfl rfl hthis ?_
            refine xg_iload (pc := 74) C dX11_state_74 6 rfl ?_
            obtain ⟨a15, ha15, hka15, hF⟩ := hF
            refine xg_cvI (pc := 76) (C1 := RX0) (T1 := TX0) (ci := 0) C [.int x4] ha15 hka15 (by decide) rfl (met_X0_look Y a15 x4) gX11_state_X0_look rfl ⟨rfl, rfl⟩ nd_X0_look ⟨Nat.le_of_ble_eq_true rfl, Nat.le_of_ble_eq_true rfl⟩ rfl rfl (Nat.le_of_ble_eq_true rfl) ⟨Nat.zero_le _, Nat.zero_le _⟩ dX11_state_76 hF (fun r17 h16 hF => ?_)
            refine xg_goto (pc := 79) 83 C dX11_state_79 (by decide) ?_
            exact xg_retI (pc := 83) C E dX11_state_83 hF
        · have hF := hF.2 hc
          refine xg_iconst (pc := 45) (v := (-1)) C dX11_state_45 (by decide) ?_
          exact xg_retI (pc := 46) C E dX11_state_46 hF
def rm_X11_stop : Room := { frames := 4, cells := 0, slots := 0, locals := 93 }
theorem nd_X11_stop : yX11_stop.cls = RX11 ∧ yX11_stop.cls ≠ "java/lang/invoke/MethodHandle" ∧ yX11_stop.cls ≠ "java/lang/invoke/VarHandle" ∧ (parseMethodDescriptor yX11_stop.desc).map (fun d => d.parameters.length) = some 2 := by decide +kernel
theorem inm_X11_stop_8 : ∀ w ∈ u_ws RX8 TX8 (xg_N 8), w ∈ wsX11_stop := fun _ h9 => List.mem_cons_of_mem _ (List.mem_append_left _ (List.mem_append_left _ (List.mem_append_left _ (List.mem_append_right _ h9))))
theorem inm_X11_stop_11 : ∀ w ∈ u_ws RX11 TX11 (xg_N 11), w ∈ wsX11_stop := fun _ h9 => List.mem_cons_of_mem _ (List.mem_append_left _ (List.mem_append_left _ (List.mem_append_left _ (List.mem_append_left _ (List.mem_append_right _ h9)))))
set_option maxHeartbeats 4000000 in
set_option maxRecDepth 100000 in
theorem met_X11_stop (Y : xg_Y) (this : Nat) (x1 : Int32) (x2 : Int32) : xg_MI yX11_stop wsX11_stop rm_X11_stop Y [va_rf (some this), .int x1, .int x2] (fun Q h => wp_X11_stop Y Q this x1 x2 h) := by
  refine xg_startI (cc := cX11_stop) (maxL := 5) (own := RX11) (by decide) rfl rfl (Nat.le_of_ble_eq_true rfl) (fun X Q h C hnL E hw => ?_)
  unfold wp_X11_stop at hw
  obtain ⟨hthis, hw⟩ := hw
  refine xg_sub (lv2 := [(0, va_rf (some this)), (1, .int x1), (2, .int x2)]) [0, 1, 2] rfl ?_
  have hF := hw
  refine xg_aload_n (pc := 0) C dX11_stop_0 0 rfl ?_
  refine xg_getr (pc := 1) (C1 := RX11) (T1 := TX11) (ci := 11) (ref := "SandGlasses") C inm_X11_stop_11 rfl (by decide) 0 (by decide) rfl dX11_stop_1 (List.mem_of_getElem? (i := 1) rfl) rfl rfl hthis ?_
  refine xg_iconst (pc := 4) (v := 0) C dX11_stop_4 (by decide) ?_
  refine xg_iload_n (pc := 5) C dX11_stop_5 1 rfl ?_
  obtain ⟨a1, ha1, hka1, hF⟩ := hF
  refine xg_cvR (pc := 6) (C1 := RX9) (T1 := TX9) (ci := 9) C [.int 0, .int x1] ha1 hka1 (by decide) rfl (met_X9_find Y a1 0 x1) gX11_stop_X9_find rfl ⟨rfl, rfl⟩ nd_X9_find ⟨Nat.le_of_ble_eq_true rfl, Nat.le_of_ble_eq_true rfl⟩ rfl rfl (Nat.le_of_ble_eq_true rfl) ⟨Nat.zero_le _, Nat.zero_le _⟩ dX11_stop_6 hF (fun r3 h2 hF => ?_)
  refine xg_astore_n (pc := 9) (lv2 := [(3, va_rf r3), (0, va_rf (some this)), (1, .int x1), (2, .int x2)]) C dX11_stop_9 5 hnL (by decide) rfl ?_
  refine xg_aload_n (pc := 10) C dX11_stop_10 1 rfl ?_
  refine xg_getr (pc := 11) (C1 := RX11) (T1 := TX11) (ci := 11) (ref := "SandGlasses") C inm_X11_stop_11 rfl (by decide) 0 (by decide) rfl dX11_stop_11 (List.mem_of_getElem? (i := 1) rfl) rfl rfl hthis ?_
  refine xg_iconst (pc := 14) (v := 1) C dX11_stop_14 (by decide) ?_
  refine xg_iload_n (pc := 15) C dX11_stop_15 3 rfl ?_
  obtain ⟨a4, ha4, hka4, hF⟩ := hF
  refine xg_cvR (pc := 16) (C1 := RX9) (T1 := TX9) (ci := 9) C [.int 1, .int x2] ha4 hka4 (by decide) rfl (met_X9_find Y a4 1 x2) gX11_stop_X9_find rfl ⟨rfl, rfl⟩ nd_X9_find ⟨Nat.le_of_ble_eq_true rfl, Nat.le_of_ble_eq_true rfl⟩ rfl rfl (Nat.le_of_ble_eq_true rfl) ⟨Nat.zero_le _, Nat.zero_le _⟩ dX11_stop_16 hF (fun r6 h5 hF => ?_)
  refine xg_astore (pc := 19) (lv2 := [(4, va_rf r6), (3, va_rf r3), (0, va_rf (some this)), (1, .int x1), (2, .int x2)]) C dX11_stop_19 5 hnL (by decide) (by cases r3 <;> rfl) ?_
  refine xg_aload_n (pc := 21) C dX11_stop_21 1 rfl ?_
  refine xg_ifnull (pc := 22) 30 C dX11_stop_22 (by decide) (fun hc => ?_) (fun a7 ha7 => ?_)
  · have hF := hF.1 hc
    refine xg_iconst (pc := 30) (v := (-1)) C dX11_stop_30 (by decide) ?_
    exact xg_retI (pc := 31) C E dX11_stop_31 hF
  · have hF := hF.2 a7 ha7
    refine xg_aload (pc := 25) C dX11_stop_25 0 rfl ?_
    refine xg_ifnonnull (pc := 27) 32 C dX11_stop_27 (by decide) (fun a8 ha8 => ?_) (fun hc => ?_)
    · have hF := hF.2 a8 ha8
      refine xg_aload_n (pc := 32) C dX11_stop_32 2 rfl ?_
      refine xg_getr (pc := 33) (C1 := RX11) (T1 := TX11) (ci := 11) (ref := "SandGlasses") C inm_X11_stop_11 rfl (by decide) 3 (by decide) rfl dX11_stop_33 (List.mem_of_getElem? (i := 2) rfl) rfl rfl hthis ?_
      refine xg_aload_n (pc := 36) C dX11_stop_36 1 rfl ?_
      obtain ⟨a9, ha9, hka9, hF⟩ := hF
      refine xg_cvV (pc := 37) (C1 := RX0) (T1 := TX0) (ci := 0) C [va_rf r3] ha9 hka9 (by decide) rfl (met_X0_begin Y a9 r3) gX11_stop_X0_begin rfl ⟨rfl, rfl⟩ nd_X0_begin ⟨Nat.le_of_ble_eq_true rfl, Nat.le_of_ble_eq_true rfl⟩ rfl rfl (Nat.le_of_ble_eq_true rfl) ⟨Nat.zero_le _, Nat.zero_le _⟩ dX11_stop_37 hF (fun h10 hF => ?_)
      refine xg_aload_n (pc := 40) C dX11_stop_40 2 rfl ?_
      refine xg_getr (pc := 41) (C1 := RX11) (T1 := TX11) (ci := 11) (ref := "SandGlasses") C inm_X11_stop_11 rfl (by decide) 3 (by decide) rfl dX11_stop_41 (List.mem_of_getElem? (i := 2) rfl) rfl rfl hthis ?_
      refine xg_aload (pc := 44) C dX11_stop_44 0 rfl ?_
      refine xg_aload (pc := 46) C dX11_stop_46 0 rfl ?_
      obtain ⟨hk11, hF⟩ := hF
      refine xg_geti (pc := 48) (C1 := RX8) (T1 := TX8) (ci := 8) (ref := "SandGlasses$Text") C inm_X11_stop_8 rfl (by decide) 0 (by decide) rfl dX11_stop_48 (List.mem_of_getElem? (i := 3) rfl) rfl ha8 hk11 ?_
      obtain ⟨a12, ha12, hka12, hF⟩ := hF
      refine xg_cvI (pc := 51) (C1 := RX0) (T1 := TX0) (ci := 0) C [va_rf r6, .int (xg_i h10 a8 0)] ha12 hka12 (by decide) rfl (met_X0_play Y a12 r6 (xg_i h10 a8 0)) gX11_stop_X0_play rfl ⟨rfl, rfl⟩ nd_X0_play ⟨Nat.le_of_ble_eq_true rfl, Nat.le_of_ble_eq_true rfl⟩ rfl rfl (Nat.le_of_ble_eq_true rfl) ⟨Nat.zero_le _, Nat.zero_le _⟩ dX11_stop_51 hF (fun r14 h13 hF => ?_)
      exact xg_retI (pc := 54) C E dX11_stop_54 hF
    · have hF := hF.1 hc
      refine xg_iconst (pc := 30) (v := (-1)) C dX11_stop_30 (by decide) ?_
      exact xg_retI (pc := 31) C E dX11_stop_31 hF
def rm_X1_allGlasses : Room := { frames := 0, cells := 0, slots := 0, locals := 0 }
theorem nd_X1_allGlasses : yX1_allGlasses.cls = RX1 ∧ yX1_allGlasses.cls ≠ "java/lang/invoke/MethodHandle" ∧ yX1_allGlasses.cls ≠ "java/lang/invoke/VarHandle" ∧ (parseMethodDescriptor yX1_allGlasses.desc).map (fun d => d.parameters.length) = some 0 := by decide +kernel
theorem inm_X1_allGlasses_1 : ∀ w ∈ u_ws RX1 TX1 (xg_N 1), w ∈ wsX1_allGlasses := fun _ h9 => List.mem_cons_of_mem _ (List.mem_append_right _ h9)
set_option maxHeartbeats 4000000 in
set_option maxRecDepth 100000 in
theorem met_X1_allGlasses (Y : xg_Y) (this : Nat) : xg_MI yX1_allGlasses wsX1_allGlasses rm_X1_allGlasses Y [va_rf (some this)] (fun Q h => wp_X1_allGlasses Y Q this h) := by
  refine xg_startI (cc := cX1_allGlasses) (maxL := 1) (own := RX1) (by decide) rfl rfl (Nat.le_of_ble_eq_true rfl) (fun X Q h C hnL E hw => ?_)
  unfold wp_X1_allGlasses at hw
  obtain ⟨hthis, hw⟩ := hw
  refine xg_sub (lv2 := [(0, va_rf (some this))]) [0] rfl ?_
  have hF := hw
  refine xg_iconst (pc := 0) (v := 1) C dX1_allGlasses_0 (by decide) ?_
  refine xg_aload_n (pc := 1) C dX1_allGlasses_1 0 rfl ?_
  refine xg_geti (pc := 2) (C1 := RX1) (T1 := TX1) (ci := 1) (ref := "SandGlasses$Book") C inm_X1_allGlasses_1 rfl (by decide) 14 (by decide) rfl dX1_allGlasses_2 (List.mem_of_getElem? (i := 1) rfl) rfl rfl hthis ?_
  refine xg_ishl (pc := 5) C dX1_allGlasses_5 ?_
  refine xg_iconst (pc := 6) (v := 1) C dX1_allGlasses_6 (by decide) ?_
  refine xg_isub (pc := 7) C dX1_allGlasses_7 ?_
  exact xg_retI (pc := 8) C E dX1_allGlasses_8 hF
def rm_X1_allAtOnce : Room := { frames := 1, cells := 0, slots := 0, locals := 23 }
theorem nd_X1_allAtOnce : yX1_allAtOnce.cls = RX1 ∧ yX1_allAtOnce.cls ≠ "java/lang/invoke/MethodHandle" ∧ yX1_allAtOnce.cls ≠ "java/lang/invoke/VarHandle" ∧ (parseMethodDescriptor yX1_allAtOnce.desc).map (fun d => d.parameters.length) = some 0 := by decide +kernel
theorem inm_X1_allAtOnce_1 : ∀ w ∈ u_ws RX1 TX1 (xg_N 1), w ∈ wsX1_allAtOnce := fun _ h9 => List.mem_cons_of_mem _ (List.mem_append_left _ (List.mem_append_right _ h9))
theorem inm_X1_allAtOnce_10 : ∀ w ∈ u_ws RX10 TX10 (xg_N 10), w ∈ wsX1_allAtOnce := fun _ h9 => List.mem_cons_of_mem _ (List.mem_append_right _ h9)
set_option maxHeartbeats 4000000 in
set_option maxRecDepth 100000 in
theorem met_X1_allAtOnce (Y : xg_Y) (this : Nat) : xg_MI yX1_allAtOnce wsX1_allAtOnce rm_X1_allAtOnce Y [va_rf (some this)] (fun Q h => wp_X1_allAtOnce Y Q this h) := by
  refine xg_startI (cc := cX1_allAtOnce) (maxL := 6) (own := RX1) (by decide) rfl rfl (Nat.le_of_ble_eq_true rfl) (fun X Q h C hnL E hw => ?_)
  unfold wp_X1_allAtOnce at hw
  obtain ⟨hthis, hw⟩ := hw
  refine xg_sub (lv2 := [(0, va_rf (some this))]) [0] rfl ?_
  refine mg_use (hw (fun (y1 : Int32) (y2 : Int32) (y3 : Int32) (h : xg_H) => xg_W X 0 0 Y 19 [(0, va_rf (some this)), (1, .int y1), (2, .int y2), (3, .int y3)] [] h) (fun (y1 : Int32) (y2 : Int32) (y3 : Int32) (y4 : Int32) (h : xg_H) => xg_W X 0 0 Y 33 [(0, va_rf (some this)), (1, .int y1), (2, .int y2), (3, .int y3), (4, .int y4)] [] h) (fun (y1 : Int32) (y2 : Int32) (y3 : Int32) (h : xg_H) => xg_W X 0 0 Y 131 [(0, va_rf (some this)), (1, .int y1), (2, .int y2), (3, .int y3)] [] h) (fun (y1 : Int32) (y2 : Int32) (y3 : Int32) (y4 : Int32) (h : xg_H) => xg_W X 0 0 Y 125 [(0, va_rf (some this)), (1, .int y1), (2, .int y2), (3, .int y3), (4, .int y4)] [] h) ?_ ?_ ?_ ?_) (fun hF => ?_)
  · intro y1 y2 y3 h hF
    refine xg_iload_n (pc := 19) C dX1_allAtOnce_19 3 rfl ?_
    refine xg_aload_n (pc := 20) C dX1_allAtOnce_20 0 rfl ?_
    refine xg_getr (pc := 21) (C1 := RX1) (T1 := TX1) (ci := 1) (ref := "SandGlasses$Book") C inm_X1_allAtOnce_1 rfl (by decide) 0 (by decide) rfl dX1_allAtOnce_21 (List.mem_of_getElem? (i := 1) rfl) rfl rfl hthis ?_
    obtain ⟨a4, ha4, hka4, hF⟩ := hF
    refine xg_geti (pc := 24) (C1 := RX10) (T1 := TX10) (ci := 10) (ref := "SandGlasses$Walk") C inm_X1_allAtOnce_10 rfl (by decide) 4 (by decide) rfl dX1_allAtOnce_24 (List.mem_of_getElem? (i := 2) rfl) rfl ha4 hka4 ?_
    refine xg_icmp_ge (pc := 27) 137 C dX1_allAtOnce_27 (by decide) (fun hc => ?_) (fun hc => ?_)
    · have hF := hF.1 hc
      refine xg_iload_n (pc := 137) C dX1_allAtOnce_137 2 rfl ?_
      exact xg_retI (pc := 138) C E dX1_allAtOnce_138 hF
    · have hF := hF.2 hc
      refine xg_iconst (pc := 30) (v := 0) C dX1_allAtOnce_30 (by decide) ?_
      refine xg_istore (pc := 31) (lv2 := [(4, .int 0), (0, va_rf (some this)), (1, .int y1), (2, .int y2), (3, .int y3)]) C dX1_allAtOnce_31 6 hnL (by decide) rfl ?_
      refine xg_sub (lv2 := [(0, va_rf (some this)), (1, .int y1), (2, .int y2), (3, .int y3), (4, .int 0)]) [1, 2, 3, 4, 0] rfl ?_
      exact hF
  · intro y1 y2 y3 y4 h hF
    refine xg_iload (pc := 33) C dX1_allAtOnce_33 4 rfl ?_
    refine xg_aload_n (pc := 35) C dX1_allAtOnce_35 0 rfl ?_
    refine xg_getr (pc := 36) (C1 := RX1) (T1 := TX1) (ci := 1) (ref := "SandGlasses$Book") C inm_X1_allAtOnce_1 rfl (by decide) 0 (by decide) rfl dX1_allAtOnce_36 (List.mem_of_getElem? (i := 1) rfl) rfl rfl hthis ?_
    obtain ⟨a5, ha5, hka5, hF⟩ := hF
    refine xg_geti (pc := 39) (C1 := RX10) (T1 := TX10) (ci := 10) (ref := "SandGlasses$Walk") C inm_X1_allAtOnce_10 rfl (by decide) 5 (by decide) rfl dX1_allAtOnce_39 (List.mem_of_getElem? (i := 3) rfl) rfl ha5 hka5 ?_
    refine xg_icmp_ge (pc := 42) 131 C dX1_allAtOnce_42 (by decide) (fun hc => ?_) (fun hc => ?_)
    · have hF := hF.1 hc
      refine xg_sub (lv2 := [(0, va_rf (some this)), (1, .int y1), (2, .int y2), (3, .int y3)]) [0, 1, 2, 3] rfl ?_
      exact hF
    · have hF := hF.2 hc
      refine xg_aload_n (pc := 45) C dX1_allAtOnce_45 0 rfl ?_
      refine xg_getr (pc := 46) (C1 := RX1) (T1 := TX1) (ci := 1) (ref := "SandGlasses$Book") C inm_X1_allAtOnce_1 rfl (by decide) 0 (by decide) rfl dX1_allAtOnce_46 (List.mem_of_getElem? (i := 1) rfl) rfl rfl hthis ?_
      refine xg_getr (pc := 49) (C1 := RX10) (T1 := TX10) (ci := 10) (ref := "SandGlasses$Walk") C inm_X1_allAtOnce_10 rfl (by decide) 1 (by decide) rfl dX1_allAtOnce_49 (List.mem_of_getElem? (i := 4) rfl) rfl ha5 hka5 ?_
      refine xg_iload_n (pc := 52) C dX1_allAtOnce_52 3 rfl ?_
      obtain ⟨a6, ha6, hka6, hF⟩ := hF
      obtain ⟨hi, hF⟩ := hF
      refine xg_iald (pc := 53) C ha6 hka6 hi dX1_allAtOnce_53 ?_
      refine xg_if_eq (pc := 54) 131 C dX1_allAtOnce_54 (by decide) (fun hc => ?_) (fun hc => ?_)
      · have hF := hF.1 hc
        refine xg_sub (lv2 := [(0, va_rf (some this)), (1, .int y1), (2, .int y2), (3, .int y3)]) [0, 1, 2, 3] rfl ?_
        exact hF
      · have hF := hF.2 hc
        refine xg_aload_n (pc := 57) C dX1_allAtOnce_57 0 rfl ?_
        refine xg_getr (pc := 58) (C1 := RX1) (T1 := TX1) (ci := 1) (ref := "SandGlasses$Book") C inm_X1_allAtOnce_1 rfl (by decide) 0 (by decide) rfl dX1_allAtOnce_58 (List.mem_of_getElem? (i := 1) rfl) rfl rfl hthis ?_
        refine xg_getr (pc := 61) (C1 := RX10) (T1 := TX10) (ci := 10) (ref := "SandGlasses$Walk") C inm_X1_allAtOnce_10 rfl (by decide) 3 (by decide) rfl dX1_allAtOnce_61 (List.mem_of_getElem? (i := 5) rfl) rfl ha5 hka5 ?_
        refine xg_iload_n (pc := 64) C dX1_allAtOnce_64 3 rfl ?_
        refine xg_bipush (pc := 65) (v := 16) C dX1_allAtOnce_65 (by decide) ?_
        refine xg_imul (pc := 67) C dX1_allAtOnce_67 ?_
        refine xg_iload (pc := 68) C dX1_allAtOnce_68 4 rfl ?_
        refine xg_iadd (pc := 70) C dX1_allAtOnce_70 ?_
        obtain ⟨a7, ha7, hka7, hF⟩ := hF
        obtain ⟨hi, hF⟩ := hF
        refine xg_iald (pc := 71) C ha7 hka7 hi dX1_allAtOnce_71 ?_
        refine xg_bipush (pc := 72) (v := 12) C dX1_allAtOnce_72 (by decide) ?_
        refine xg_ishr (pc := 74) C dX1_allAtOnce_74 ?_
        refine xg_topi (pc := 75) (fun z8 ez8 => ?_)
        have hF := hF z8 ez8
        refine xg_istore (pc := 75) (lv2 := [(5, .int z8), (0, va_rf (some this)), (1, .int y1), (2, .int y2), (3, .int y3), (4, .int y4)]) C dX1_allAtOnce_75 6 hnL (by decide) rfl ?_
        refine xg_iload (pc := 77) C dX1_allAtOnce_77 0 rfl ?_
        refine xg_if_le (pc := 79) 125 C dX1_allAtOnce_79 (by decide) (fun hc => ?_) (fun hc => ?_)
        · have hF := hF.1 hc
          refine xg_sub (lv2 := [(0, va_rf (some this)), (1, .int y1), (2, .int y2), (3, .int y3), (4, .int y4)]) [1, 2, 3, 4, 5] rfl ?_
          exact hF
        · have hF := hF.2 hc
          refine xg_aload_n (pc := 82) C dX1_allAtOnce_82 1 rfl ?_
          refine xg_geti (pc := 83) (C1 := RX1) (T1 := TX1) (ci := 1) (ref := "SandGlasses$Book") C inm_X1_allAtOnce_1 rfl (by decide) 12 (by decide) rfl dX1_allAtOnce_83 (List.mem_of_getElem? (i := 6) rfl) rfl rfl hthis ?_
          refine xg_aload_n (pc := 86) C dX1_allAtOnce_86 1 rfl ?_
          refine xg_getr (pc := 87) (C1 := RX1) (T1 := TX1) (ci := 1) (ref := "SandGlasses$Book") C inm_X1_allAtOnce_1 rfl (by decide) 0 (by decide) rfl dX1_allAtOnce_87 (List.mem_of_getElem? (i := 1) rfl) rfl rfl hthis ?_
          refine xg_getr (pc := 90) (C1 := RX10) (T1 := TX10) (ci := 10) (ref := "SandGlasses$Walk") C inm_X1_allAtOnce_10 rfl (by decide) 0 (by decide) rfl dX1_allAtOnce_90 (List.mem_of_getElem? (i := 7) rfl) rfl ha5 hka5 ?_
          refine xg_iload_n (pc := 93) C dX1_allAtOnce_93 4 rfl ?_
          obtain ⟨a9, ha9, hka9, hF⟩ := hF
          obtain ⟨hi, hF⟩ := hF
          refine xg_iald (pc := 94) C ha9 hka9 hi dX1_allAtOnce_94 ?_
          refine xg_iload (pc := 95) C dX1_allAtOnce_95 5 rfl ?_
          refine xg_cnI (pc := 97) (host := "SandGlasses") C [.int (xg_i h this 12), .int (xg_i h a9 y3.toNatClampNeg), .int y4] (by decide +kernel) (List.mem_of_getElem? (i := 16) rfl) (List.mem_of_getElem? (i := 15) rfl) (met_X11_turned Y (xg_i h this 12) (xg_i h a9 y3.toNatClampNeg) y4) gX1_allAtOnce_X11_turned_n162 rfl ⟨rfl, rfl⟩ nd_X11_turned.2 ⟨Nat.le_of_ble_eq_true rfl, Nat.le_of_ble_eq_true rfl⟩ rfl rfl (Nat.le_of_ble_eq_true rfl) ⟨Nat.zero_le _, Nat.zero_le _⟩ dX1_allAtOnce_97 hF (fun r11 h10 hF => ?_)
          refine xg_iload (pc := 100) C dX1_allAtOnce_100 0 rfl ?_
          refine xg_iload_n (pc := 102) C dX1_allAtOnce_102 2 rfl ?_
          refine xg_imul (pc := 103) C dX1_allAtOnce_103 ?_
          refine xg_icmp_ne (pc := 104) 125 C dX1_allAtOnce_104 (by decide) (fun hc => ?_) (fun hc => ?_)
          · have hF := hF.1 hc
            refine xg_sub (lv2 := [(0, va_rf (some this)), (1, .int y1), (2, .int y2), (3, .int y3), (4, .int y4)]) [1, 2, 3, 4, 5] rfl ?_
            exact hF
          · have hF := hF.2 hc
            refine xg_iload_n (pc := 107) C dX1_allAtOnce_107 3 rfl ?_
            refine xg_aload_n (pc := 108) C dX1_allAtOnce_108 1 rfl ?_
            refine xg_getr (pc := 109) (C1 := RX1) (T1 := TX1) (ci := 1) (ref := "SandGlasses$Book") C inm_X1_allAtOnce_1 rfl (by decide) 0 (by decide) rfl dX1_allAtOnce_109 (List.mem_of_getElem? (i := 1) rfl) rfl rfl hthis ?_
            obtain ⟨a12, ha12, hka12, hF⟩ := hF
            refine xg_getr (pc := 112) (C1 := RX10) (T1 := TX10) (ci := 10) (ref := "SandGlasses$Walk") C inm_X1_allAtOnce_10 rfl (by decide) 1 (by decide) rfl dX1_allAtOnce_112 (List.mem_of_getElem? (i := 4) rfl) rfl ha12 hka12 ?_
            refine xg_iload_n (pc := 115) C dX1_allAtOnce_115 4 rfl ?_
            obtain ⟨a13, ha13, hka13, hF⟩ := hF
            obtain ⟨hi, hF⟩ := hF
            refine xg_iald (pc := 116) C ha13 hka13 hi dX1_allAtOnce_116 ?_
            refine xg_iload (pc := 117) C dX1_allAtOnce_117 0 rfl ?_
            refine xg_ishl (pc := 119) C dX1_allAtOnce_119 ?_
            refine xg_ldc (pc := 120) (v := 2147483647) C dX1_allAtOnce_120 (List.mem_of_getElem? (i := 8) rfl) ?_
            refine xg_iand (pc := 122) C dX1_allAtOnce_122 ?_
            refine xg_ior (pc := 123) C dX1_allAtOnce_123 ?_
            refine xg_topi (pc := 124) (fun z14 ez14 => ?_)
            have hF := hF z14 ez14
            refine xg_istore_n (pc := 124) (lv2 := [(2, .int z14), (5, .int z8), (0, va_rf (some this)), (1, .int y1), (3, .int y3), (4, .int y4)]) C dX1_allAtOnce_124 6 hnL (by decide) rfl ?_
            refine xg_sub (lv2 := [(0, va_rf (some this)), (1, .int y1), (2, .int z14), (3, .int y3), (4, .int y4)]) [2, 3, 0, 4, 5] rfl ?_
            exact hF
  · intro y1 y2 y3 h hF
    obtain ⟨z15, ez15⟩ : ∃ y : Int32, y = y3 + 1 := ⟨_, rfl⟩
    have hF := hF z15 ez15
    refine xg_iinc (pc := 131) (v := z15) (lv2 := [(3, .int z15), (0, va_rf (some this)), (1, .int y1), (2, .int y2)]) C dX1_allAtOnce_131 3 rfl (by rw [ez15]; rfl) 6 hnL (by decide) rfl ?_
    refine xg_goto (pc := 134) 19 C dX1_allAtOnce_134 (by decide) ?_
    refine xg_sub (lv2 := [(0, va_rf (some this)), (1, .int y1), (2, .int y2), (3, .int z15)]) [1, 2, 3, 0] rfl ?_
    exact hF
  · intro y1 y2 y3 y4 h hF
    obtain ⟨z16, ez16⟩ : ∃ y : Int32, y = y4 + 1 := ⟨_, rfl⟩
    have hF := hF z16 ez16
    refine xg_iinc (pc := 125) (v := z16) (lv2 := [(4, .int z16), (0, va_rf (some this)), (1, .int y1), (2, .int y2), (3, .int y3)]) C dX1_allAtOnce_125 4 rfl (by rw [ez16]; rfl) 6 hnL (by decide) rfl ?_
    refine xg_goto (pc := 128) 33 C dX1_allAtOnce_128 (by decide) ?_
    refine xg_sub (lv2 := [(0, va_rf (some this)), (1, .int y1), (2, .int y2), (3, .int y3), (4, .int z16)]) [1, 2, 3, 4, 0] rfl ?_
    exact hF
  · skip
    refine xg_getsN (pc := 0) (ref := "SandGlasses") (host := "SandGlasses") C 2 (by decide) dX1_allAtOnce_0 (by decide +kernel) rfl ?_
    refine xg_aload_n (pc := 3) C dX1_allAtOnce_3 0 rfl ?_
    refine xg_cvI (pc := 4) (C1 := RX1) (T1 := TX1) (ci := 1) C [] rfl hthis (by decide) rfl (met_X1_allGlasses Y this) gX1_allAtOnce_X1_allGlasses rfl ⟨rfl, rfl⟩ nd_X1_allGlasses ⟨Nat.le_of_ble_eq_true rfl, Nat.le_of_ble_eq_true rfl⟩ rfl rfl (Nat.le_of_ble_eq_true rfl) ⟨Nat.zero_le _, Nat.zero_le _⟩ dX1_allAtOnce_4 hF (fun r2 h1 hF => ?_)
    refine xg_bipush (pc := 7) (v := 15) C dX1_allAtOnce_7 (by decide) ?_
    refine xg_iand (pc := 9) C dX1_allAtOnce_9 ?_
    obtain ⟨hi, hF⟩ := hF
    refine xg_sld (pc := 10) C 2 (by decide) hi dX1_allAtOnce_10 ?_
    refine xg_bipush (pc := 11) (v := 7) C dX1_allAtOnce_11 (by decide) ?_
    refine xg_idiv (pc := 13) C dX1_allAtOnce_13 (by decide) ?_
    refine xg_topi (pc := 14) (fun z3 ez3 => ?_)
    have hF := hF z3 ez3
    refine xg_istore_n (pc := 14) (lv2 := [(1, .int z3), (0, va_rf (some this))]) C dX1_allAtOnce_14 6 hnL (by decide) rfl ?_
    refine xg_iconst (pc := 15) (v := 0) C dX1_allAtOnce_15 (by decide) ?_
    refine xg_istore_n (pc := 16) (lv2 := [(2, .int 0), (1, .int z3), (0, va_rf (some this))]) C dX1_allAtOnce_16 6 hnL (by decide) rfl ?_
    refine xg_iconst (pc := 17) (v := 0) C dX1_allAtOnce_17 (by decide) ?_
    refine xg_istore_n (pc := 18) (lv2 := [(3, .int 0), (2, .int 0), (1, .int z3), (0, va_rf (some this))]) C dX1_allAtOnce_18 6 hnL (by decide) rfl ?_
    refine xg_sub (lv2 := [(0, va_rf (some this)), (1, .int z3), (2, .int 0), (3, .int 0)]) [3, 2, 1, 0] rfl ?_
    exact hF
def rm_X1_fewestEvents : Room := { frames := 1, cells := 0, slots := 0, locals := 21 }
theorem nd_X1_fewestEvents : yX1_fewestEvents.cls = RX1 ∧ yX1_fewestEvents.cls ≠ "java/lang/invoke/MethodHandle" ∧ yX1_fewestEvents.cls ≠ "java/lang/invoke/VarHandle" ∧ (parseMethodDescriptor yX1_fewestEvents.desc).map (fun d => d.parameters.length) = some 1 := by decide +kernel
theorem inm_X1_fewestEvents_1 : ∀ w ∈ u_ws RX1 TX1 (xg_N 1), w ∈ wsX1_fewestEvents := fun _ h9 => List.mem_cons_of_mem _ (List.mem_append_left _ (List.mem_append_right _ h9))
theorem inm_X1_fewestEvents_10 : ∀ w ∈ u_ws RX10 TX10 (xg_N 10), w ∈ wsX1_fewestEvents := fun _ h9 => List.mem_cons_of_mem _ (List.mem_append_right _ h9)
set_option maxHeartbeats 4000000 in
set_option maxRecDepth 100000 in
theorem met_X1_fewestEvents (Y : xg_Y) (this : Nat) (x1 : Int32) : xg_MI yX1_fewestEvents wsX1_fewestEvents rm_X1_fewestEvents Y [va_rf (some this), .int x1] (fun Q h => wp_X1_fewestEvents Y Q this x1 h) := by
  refine xg_startI (cc := cX1_fewestEvents) (maxL := 3) (own := RX1) (by decide) rfl rfl (Nat.le_of_ble_eq_true rfl) (fun X Q h C hnL E hw => ?_)
  unfold wp_X1_fewestEvents at hw
  obtain ⟨hthis, hw⟩ := hw
  refine xg_sub (lv2 := [(0, va_rf (some this)), (1, .int x1)]) [0, 1] rfl ?_
  refine mg_use (hw (fun (y2 : Int32) (h : xg_H) => xg_W X 0 0 Y 2 [(0, va_rf (some this)), (1, .int x1), (2, .int y2)] [] h) ?_) (fun hF => ?_)
  · intro y2 h hF
    refine xg_iload_n (pc := 2) C dX1_fewestEvents_2 2 rfl ?_
    refine xg_bipush (pc := 3) (v := 30) C dX1_fewestEvents_3 (by decide) ?_
    refine xg_icmp_gt (pc := 5) 32 C dX1_fewestEvents_5 (by decide) (fun hc => ?_) (fun hc => ?_)
    · have hF := hF.1 hc
      refine xg_iconst (pc := 32) (v := (-1)) C dX1_fewestEvents_32 (by decide) ?_
      exact xg_retI (pc := 33) C E dX1_fewestEvents_33 hF
    · have hF := hF.2 hc
      refine xg_aload_n (pc := 8) C dX1_fewestEvents_8 0 rfl ?_
      refine xg_getr (pc := 9) (C1 := RX1) (T1 := TX1) (ci := 1) (ref := "SandGlasses$Book") C inm_X1_fewestEvents_1 rfl (by decide) 0 (by decide) rfl dX1_fewestEvents_9 (List.mem_of_getElem? (i := 1) rfl) rfl rfl hthis ?_
      obtain ⟨a1, ha1, hka1, hF⟩ := hF
      refine xg_getr (pc := 12) (C1 := RX10) (T1 := TX10) (ci := 10) (ref := "SandGlasses$Walk") C inm_X1_fewestEvents_10 rfl (by decide) 2 (by decide) rfl dX1_fewestEvents_12 (List.mem_of_getElem? (i := 2) rfl) rfl ha1 hka1 ?_
      refine xg_iload_n (pc := 15) C dX1_fewestEvents_15 2 rfl ?_
      obtain ⟨a2, ha2, hka2, hF⟩ := hF
      obtain ⟨hi, hF⟩ := hF
      refine xg_iald (pc := 16) C ha2 hka2 hi dX1_fewestEvents_16 ?_
      refine xg_iload_n (pc := 17) C dX1_fewestEvents_17 1 rfl ?_
      refine xg_cnI (pc := 18) (host := "SandGlasses") C [.int (xg_i h a2 y2.toNatClampNeg), .int x1] (by decide +kernel) (List.mem_of_getElem? (i := 4) rfl) (List.mem_of_getElem? (i := 3) rfl) (met_X11_has Y (xg_i h a2 y2.toNatClampNeg) x1) gX1_fewestEvents_X11_has_n143 rfl ⟨rfl, rfl⟩ nd_X11_has.2 ⟨Nat.le_of_ble_eq_true rfl, Nat.le_of_ble_eq_true rfl⟩ rfl rfl (Nat.le_of_ble_eq_true rfl) ⟨Nat.zero_le _, Nat.zero_le _⟩ dX1_fewestEvents_18 hF (fun r4 h3 hF => ?_)
      refine xg_if_eq (pc := 21) 26 C dX1_fewestEvents_21 (by decide) (fun hc => ?_) (fun hc => ?_)
      · have hF := hF.1 hc
        obtain ⟨z5, ez5⟩ : ∃ y : Int32, y = y2 + 1 := ⟨_, rfl⟩
        have hF := hF z5 ez5
        refine xg_iinc (pc := 26) (v := z5) (lv2 := [(2, .int z5), (0, va_rf (some this)), (1, .int x1)]) C dX1_fewestEvents_26 2 rfl (by rw [ez5]; rfl) 3 hnL (by decide) rfl ?_
        refine xg_goto (pc := 29) 2 C dX1_fewestEvents_29 (by decide) ?_
        refine xg_sub (lv2 := [(0, va_rf (some this)), (1, .int x1), (2, .int z5)]) [1, 2, 0] rfl ?_
        exact hF
      · have hF := hF.2 hc
        refine xg_iload_n (pc := 24) C dX1_fewestEvents_24 2 rfl ?_
        exact xg_retI (pc := 25) C E dX1_fewestEvents_25 hF
  · skip
    refine xg_iconst (pc := 0) (v := 1) C dX1_fewestEvents_0 (by decide) ?_
    refine xg_istore_n (pc := 1) (lv2 := [(2, .int 1), (0, va_rf (some this)), (1, .int x1)]) C dX1_fewestEvents_1 3 hnL (by decide) rfl ?_
    refine xg_sub (lv2 := [(0, va_rf (some this)), (1, .int x1), (2, .int 1)]) [1, 2, 0] rfl ?_
    exact hF
def rm_X1_toldBy : Room := { frames := 4, cells := 0, slots := 0, locals := 96 }
theorem nd_X1_toldBy : yX1_toldBy.cls = RX1 ∧ yX1_toldBy.cls ≠ "java/lang/invoke/MethodHandle" ∧ yX1_toldBy.cls ≠ "java/lang/invoke/VarHandle" ∧ (parseMethodDescriptor yX1_toldBy.desc).map (fun d => d.parameters.length) = some 1 := by decide +kernel
theorem inm_X1_toldBy_1 : ∀ w ∈ u_ws RX1 TX1 (xg_N 1), w ∈ wsX1_toldBy := fun _ h9 => List.mem_cons_of_mem _ (List.mem_append_left _ (List.mem_append_left _ (List.mem_append_right _ h9)))
set_option maxHeartbeats 4000000 in
set_option maxRecDepth 100000 in
theorem met_X1_toldBy (Y : xg_Y) (this : Nat) (x1 : Int32) : xg_MI yX1_toldBy wsX1_toldBy rm_X1_toldBy Y [va_rf (some this), .int x1] (fun Q h => wp_X1_toldBy Y Q this x1 h) := by
  refine xg_startI (cc := cX1_toldBy) (maxL := 3) (own := RX1) (by decide) rfl rfl (Nat.le_of_ble_eq_true rfl) (fun X Q h C hnL E hw => ?_)
  unfold wp_X1_toldBy at hw
  obtain ⟨hthis, hw⟩ := hw
  refine xg_sub (lv2 := [(0, va_rf (some this)), (1, .int x1)]) [0, 1] rfl ?_
  refine mg_use (hw (fun (y2 : Int32) (h : xg_H) => xg_W X 0 0 Y 69 [(0, va_rf (some this)), (2, .int y2)] [] h) ?_) (fun hF => ?_)
  · intro y2 h hF
    refine xg_aload_n (pc := 69) C dX1_toldBy_69 0 rfl ?_
    refine xg_getr (pc := 70) (C1 := RX1) (T1 := TX1) (ci := 1) (ref := "SandGlasses$Book") C inm_X1_toldBy_1 rfl (by decide) 6 (by decide) rfl dX1_toldBy_70 (List.mem_of_getElem? (i := 2) rfl) rfl rfl hthis ?_
    refine xg_iload_n (pc := 73) C dX1_toldBy_73 1 rfl ?_
    obtain ⟨a12, ha12, hka12, hF⟩ := hF
    obtain ⟨hi, hF⟩ := hF
    refine xg_iald (pc := 74) C ha12 hka12 hi dX1_toldBy_74 ?_
    exact xg_retI (pc := 75) C E dX1_toldBy_75 hF
  · skip
    refine xg_iload_n (pc := 0) C dX1_toldBy_0 1 rfl ?_
    refine xg_aload_n (pc := 1) C dX1_toldBy_1 0 rfl ?_
    refine xg_cvI (pc := 2) (C1 := RX1) (T1 := TX1) (ci := 1) C [] rfl hthis (by decide) rfl (met_X1_allGlasses Y this) gX1_toldBy_X1_allGlasses rfl ⟨rfl, rfl⟩ nd_X1_allGlasses ⟨Nat.le_of_ble_eq_true rfl, Nat.le_of_ble_eq_true rfl⟩ rfl rfl (Nat.le_of_ble_eq_true rfl) ⟨Nat.zero_le _, Nat.zero_le _⟩ dX1_toldBy_2 hF (fun r2 h1 hF => ?_)
    refine xg_icmp_ne (pc := 5) 13 C dX1_toldBy_5 (by decide) (fun hc => ?_) (fun hc => ?_)
    · have hF := hF.1 hc
      refine xg_iload_n (pc := 13) C dX1_toldBy_13 1 rfl ?_
      refine xg_bipush (pc := 14) (v := 15) C dX1_toldBy_14 (by decide) ?_
      refine xg_iand (pc := 16) C dX1_toldBy_16 ?_
      refine xg_topi (pc := 17) (fun z3 ez3 => ?_)
      have hF := hF z3 ez3
      refine xg_istore_n (pc := 17) (lv2 := [(2, .int z3), (0, va_rf (some this)), (1, .int x1)]) C dX1_toldBy_17 3 hnL (by decide) rfl ?_
      refine xg_aload_n (pc := 18) C dX1_toldBy_18 1 rfl ?_
      refine xg_getr (pc := 19) (C1 := RX1) (T1 := TX1) (ci := 1) (ref := "SandGlasses$Book") C inm_X1_toldBy_1 rfl (by decide) 6 (by decide) rfl dX1_toldBy_19 (List.mem_of_getElem? (i := 2) rfl) rfl rfl hthis ?_
      refine xg_iload_n (pc := 22) C dX1_toldBy_22 0 rfl ?_
      obtain ⟨a4, ha4, hka4, hF⟩ := hF
      obtain ⟨hi, hF⟩ := hF
      refine xg_iald (pc := 23) C ha4 hka4 hi dX1_toldBy_23 ?_
      refine xg_iconst (pc := 24) (v := (-1)) C dX1_toldBy_24 (by decide) ?_
      refine xg_icmp_ne (pc := 25) 69 C dX1_toldBy_25 (by decide) (fun hc => ?_) (fun hc => ?_)
      · have hF := hF.1 hc
        refine xg_sub (lv2 := [(0, va_rf (some this)), (2, .int z3)]) [1, 0] rfl ?_
        exact hF
      · have hF := hF.2 hc
        refine xg_aload_n (pc := 28) C dX1_toldBy_28 1 rfl ?_
        refine xg_getr (pc := 29) (C1 := RX1) (T1 := TX1) (ci := 1) (ref := "SandGlasses$Book") C inm_X1_toldBy_1 rfl (by decide) 1 (by decide) rfl dX1_toldBy_29 (List.mem_of_getElem? (i := 3) rfl) rfl rfl hthis ?_
        refine xg_aload_n (pc := 32) C dX1_toldBy_32 1 rfl ?_
        refine xg_geti (pc := 33) (C1 := RX1) (T1 := TX1) (ci := 1) (ref := "SandGlasses$Book") C inm_X1_toldBy_1 rfl (by decide) 12 (by decide) rfl dX1_toldBy_33 (List.mem_of_getElem? (i := 4) rfl) rfl rfl hthis ?_
        refine xg_getsN (pc := 36) (ref := "SandGlasses") (host := "SandGlasses") C 2 (by decide) dX1_toldBy_36 (by decide +kernel) rfl ?_
        refine xg_iload_n (pc := 39) C dX1_toldBy_39 0 rfl ?_
        obtain ⟨hi, hF⟩ := hF
        refine xg_sld (pc := 40) C 2 (by decide) hi dX1_toldBy_40 ?_
        refine xg_iand (pc := 41) C dX1_toldBy_41 ?_
        refine xg_aload_n (pc := 42) C dX1_toldBy_42 1 rfl ?_
        refine xg_geti (pc := 43) (C1 := RX1) (T1 := TX1) (ci := 1) (ref := "SandGlasses$Book") C inm_X1_toldBy_1 rfl (by decide) 13 (by decide) rfl dX1_toldBy_43 (List.mem_of_getElem? (i := 5) rfl) rfl rfl hthis ?_
        refine xg_getsN (pc := 46) (ref := "SandGlasses") (host := "SandGlasses") C 2 (by decide) dX1_toldBy_46 (by decide +kernel) rfl ?_
        refine xg_iload_n (pc := 49) C dX1_toldBy_49 0 rfl ?_
        obtain ⟨hi, hF⟩ := hF
        refine xg_sld (pc := 50) C 2 (by decide) hi dX1_toldBy_50 ?_
        refine xg_iand (pc := 51) C dX1_toldBy_51 ?_
        refine xg_iload_n (pc := 52) C dX1_toldBy_52 0 rfl ?_
        obtain ⟨a5, ha5, hka5, hF⟩ := hF
        refine xg_cvV (pc := 53) (C1 := RX10) (T1 := TX10) (ci := 10) C [.int ((xg_i h1 this 12) &&& (xg_sv 2 z3.toNatClampNeg)), .int ((xg_i h1 this 13) &&& (xg_sv 2 z3.toNatClampNeg)), .int z3] ha5 hka5 (by decide) rfl (met_X10_explore Y a5 ((xg_i h1 this 12) &&& (xg_sv 2 z3.toNatClampNeg)) ((xg_i h1 this 13) &&& (xg_sv 2 z3.toNatClampNeg)) z3) gX1_toldBy_X10_explore rfl ⟨rfl, rfl⟩ nd_X10_explore ⟨Nat.le_of_ble_eq_true rfl, Nat.le_of_ble_eq_true rfl⟩ rfl rfl (Nat.le_of_ble_eq_true rfl) ⟨Nat.zero_le _, Nat.zero_le _⟩ dX1_toldBy_53 hF (fun h6 hF => ?_)
        refine xg_aload_n (pc := 56) C dX1_toldBy_56 1 rfl ?_
        refine xg_getr (pc := 57) (C1 := RX1) (T1 := TX1) (ci := 1) (ref := "SandGlasses$Book") C inm_X1_toldBy_1 rfl (by decide) 6 (by decide) rfl dX1_toldBy_57 (List.mem_of_getElem? (i := 2) rfl) rfl rfl hthis ?_
        refine xg_iload_n (pc := 60) C dX1_toldBy_60 0 rfl ?_
        refine xg_aload_n (pc := 61) C dX1_toldBy_61 1 rfl ?_
        refine xg_getr (pc := 62) (C1 := RX1) (T1 := TX1) (ci := 1) (ref := "SandGlasses$Book") C inm_X1_toldBy_1 rfl (by decide) 1 (by decide) rfl dX1_toldBy_62 (List.mem_of_getElem? (i := 3) rfl) rfl rfl hthis ?_
        obtain ⟨a7, ha7, hka7, hF⟩ := hF
        refine xg_cvI (pc := 65) (C1 := RX10) (T1 := TX10) (ci := 10) C [] ha7 hka7 (by decide) rfl (met_X10_eventMinutes Y a7) gX1_toldBy_X10_eventMinutes rfl ⟨rfl, rfl⟩ nd_X10_eventMinutes ⟨Nat.le_of_ble_eq_true rfl, Nat.le_of_ble_eq_true rfl⟩ rfl rfl (by simp [xg_rf_cat, xg_cat_i, xg_cat_l, xg_cat_a]) ⟨Nat.zero_le _, Nat.zero_le _⟩ dX1_toldBy_65 hF (fun r9 h8 hF => ?_)
        obtain ⟨a10, ha10, hka10, hF⟩ := hF
        obtain ⟨hi, hF⟩ := hF
        refine xg_iast (pc := 68) C ha10 hka10 hi dX1_toldBy_68 (fun h11 eh11 => ?_)
        have hF := hF h11 eh11
        refine xg_sub (lv2 := [(0, va_rf (some this)), (2, .int z3)]) [1, 0] rfl ?_
        exact hF
    · have hF := hF.2 hc
      refine xg_aload_n (pc := 8) C dX1_toldBy_8 0 rfl ?_
      refine xg_geti (pc := 9) (C1 := RX1) (T1 := TX1) (ci := 1) (ref := "SandGlasses$Book") C inm_X1_toldBy_1 rfl (by decide) 16 (by decide) rfl dX1_toldBy_9 (List.mem_of_getElem? (i := 1) rfl) rfl rfl hthis ?_
      exact xg_retI (pc := 12) C E dX1_toldBy_12 hF
def rm_X1_fewestGlasses : Room := { frames := 5, cells := 0, slots := 0, locals := 118 }
theorem nd_X1_fewestGlasses : yX1_fewestGlasses.cls = RX1 ∧ yX1_fewestGlasses.cls ≠ "java/lang/invoke/MethodHandle" ∧ yX1_fewestGlasses.cls ≠ "java/lang/invoke/VarHandle" ∧ (parseMethodDescriptor yX1_fewestGlasses.desc).map (fun d => d.parameters.length) = some 1 := by decide +kernel
set_option maxHeartbeats 4000000 in
set_option maxRecDepth 100000 in
theorem met_X1_fewestGlasses (Y : xg_Y) (this : Nat) (x1 : Int32) : xg_MI yX1_fewestGlasses wsX1_fewestGlasses rm_X1_fewestGlasses Y [va_rf (some this), .int x1] (fun Q h => wp_X1_fewestGlasses Y Q this x1 h) := by
  refine xg_startI (cc := cX1_fewestGlasses) (maxL := 5) (own := RX1) (by decide) rfl rfl (Nat.le_of_ble_eq_true rfl) (fun X Q h C hnL E hw => ?_)
  unfold wp_X1_fewestGlasses at hw
  obtain ⟨hthis, hw⟩ := hw
  refine xg_sub (lv2 := [(0, va_rf (some this)), (1, .int x1)]) [0, 1] rfl ?_
  refine mg_use (hw (fun (y2 : Int32) (y3 : Int32) (h : xg_H) => xg_W X 0 0 Y 4 [(0, va_rf (some this)), (1, .int x1), (2, .int y2), (3, .int y3)] [] h) (fun (y2 : Int32) (y3 : Int32) (h : xg_H) => xg_W X 0 0 Y 28 [(0, va_rf (some this)), (1, .int x1), (2, .int y2), (3, .int y3)] [] h) (fun (y2 : Int32) (y3 : Int32) (s0 : Int32) (h : xg_H) => xg_W X 0 0 Y 33 [(0, va_rf (some this)), (1, .int x1), (2, .int y2), (3, .int y3)] [.int s0] h) (fun (y2 : Int32) (y3 : Int32) (h : xg_H) => xg_W X 0 0 Y 54 [(0, va_rf (some this)), (1, .int x1), (2, .int y2), (3, .int y3)] [] h) ?_ ?_ ?_ ?_) (fun hF => ?_)
  · intro y2 y3 h hF
    refine xg_iload_n (pc := 4) C dX1_fewestGlasses_4 3 rfl ?_
    refine xg_aload_n (pc := 5) C dX1_fewestGlasses_5 0 rfl ?_
    refine xg_cvI (pc := 6) (C1 := RX1) (T1 := TX1) (ci := 1) C [] rfl hthis (by decide) rfl (met_X1_allGlasses Y this) gX1_fewestGlasses_X1_allGlasses rfl ⟨rfl, rfl⟩ nd_X1_allGlasses ⟨Nat.le_of_ble_eq_true rfl, Nat.le_of_ble_eq_true rfl⟩ rfl rfl (Nat.le_of_ble_eq_true rfl) ⟨Nat.zero_le _, Nat.zero_le _⟩ dX1_fewestGlasses_6 hF (fun r2 h1 hF => ?_)
    refine xg_icmp_gt (pc := 9) 60 C dX1_fewestGlasses_9 (by decide) (fun hc => ?_) (fun hc => ?_)
    · have hF := hF.1 hc
      refine xg_iload_n (pc := 60) C dX1_fewestGlasses_60 2 rfl ?_
      exact xg_retI (pc := 61) C E dX1_fewestGlasses_61 hF
    · have hF := hF.2 hc
      refine xg_iload_n (pc := 12) C dX1_fewestGlasses_12 2 rfl ?_
      refine xg_iconst (pc := 13) (v := (-1)) C dX1_fewestGlasses_13 (by decide) ?_
      refine xg_icmp_eq (pc := 14) 28 C dX1_fewestGlasses_14 (by decide) (fun hc => ?_) (fun hc => ?_)
      · have hF := hF.1 hc
        exact hF
      · have hF := hF.2 hc
        refine xg_iload_n (pc := 17) C dX1_fewestGlasses_17 3 rfl ?_
        refine xg_csI (pc := 18) C [.int y3] (met_J6_bitCount_0f7a4 Y y3) gX1_fewestGlasses_J6_bitCount_0f7a4 rfl ⟨rfl, rfl⟩ nd_J6_bitCount_0f7a4.2 ⟨Nat.le_of_ble_eq_true rfl, Nat.le_of_ble_eq_true rfl⟩ rfl rfl (Nat.le_of_ble_eq_true rfl) ⟨Nat.zero_le _, Nat.zero_le _⟩ dX1_fewestGlasses_18 hF (fun r4 h3 hF => ?_)
        refine xg_iload_n (pc := 21) C dX1_fewestGlasses_21 2 rfl ?_
        refine xg_csI (pc := 22) C [.int y2] (met_J6_bitCount_0f7a4 Y y2) gX1_fewestGlasses_J6_bitCount_0f7a4 rfl ⟨rfl, rfl⟩ nd_J6_bitCount_0f7a4.2 ⟨Nat.le_of_ble_eq_true rfl, Nat.le_of_ble_eq_true rfl⟩ rfl rfl (Nat.le_of_ble_eq_true rfl) ⟨Nat.zero_le _, Nat.zero_le _⟩ dX1_fewestGlasses_22 hF (fun r6 h5 hF => ?_)
        refine xg_icmp_ge (pc := 25) 32 C dX1_fewestGlasses_25 (by decide) (fun hc => ?_) (fun hc => ?_)
        · have hF := hF.1 hc
          refine xg_iconst (pc := 32) (v := 0) C dX1_fewestGlasses_32 (by decide) ?_
          exact hF
        · have hF := hF.2 hc
          exact hF
  · intro y2 y3 h hF
    refine xg_iconst (pc := 28) (v := 1) C dX1_fewestGlasses_28 (by decide) ?_
    refine xg_goto (pc := 29) 33 C dX1_fewestGlasses_29 (by decide) ?_
    exact hF
  · intro y2 y3 s0 h hF
    refine xg_istore (pc := 33) (lv2 := [(4, .int s0), (0, va_rf (some this)), (1, .int x1), (2, .int y2), (3, .int y3)]) C dX1_fewestGlasses_33 5 hnL (by decide) rfl ?_
    refine xg_iload (pc := 35) C dX1_fewestGlasses_35 0 rfl ?_
    refine xg_if_eq (pc := 37) 54 C dX1_fewestGlasses_37 (by decide) (fun hc => ?_) (fun hc => ?_)
    · have hF := hF.1 hc
      refine xg_sub (lv2 := [(0, va_rf (some this)), (1, .int x1), (2, .int y2), (3, .int y3)]) [1, 2, 3, 4] rfl ?_
      exact hF
    · have hF := hF.2 hc
      refine xg_aload_n (pc := 40) C dX1_fewestGlasses_40 1 rfl ?_
      refine xg_iload_n (pc := 41) C dX1_fewestGlasses_41 4 rfl ?_
      refine xg_cvI (pc := 42) (C1 := RX1) (T1 := TX1) (ci := 1) C [.int y3] rfl hthis (by decide) rfl (met_X1_toldBy Y this y3) gX1_fewestGlasses_X1_toldBy rfl ⟨rfl, rfl⟩ nd_X1_toldBy ⟨Nat.le_of_ble_eq_true rfl, Nat.le_of_ble_eq_true rfl⟩ rfl rfl (Nat.le_of_ble_eq_true rfl) ⟨Nat.zero_le _, Nat.zero_le _⟩ dX1_fewestGlasses_42 hF (fun r8 h7 hF => ?_)
      refine xg_iload_n (pc := 45) C dX1_fewestGlasses_45 2 rfl ?_
      refine xg_cnI (pc := 46) (host := "SandGlasses") C [.int r8, .int x1] (by decide +kernel) (List.mem_of_getElem? (i := 46) rfl) (List.mem_of_getElem? (i := 86) rfl) (met_X11_has Y r8 x1) gX1_fewestGlasses_X11_has_n143 rfl ⟨rfl, rfl⟩ nd_X11_has.2 ⟨Nat.le_of_ble_eq_true rfl, Nat.le_of_ble_eq_true rfl⟩ rfl rfl (Nat.le_of_ble_eq_true rfl) ⟨Nat.zero_le _, Nat.zero_le _⟩ dX1_fewestGlasses_46 hF (fun r10 h9 hF => ?_)
      refine xg_if_eq (pc := 49) 54 C dX1_fewestGlasses_49 (by decide) (fun hc => ?_) (fun hc => ?_)
      · have hF := hF.1 hc
        refine xg_sub (lv2 := [(0, va_rf (some this)), (1, .int x1), (2, .int y2), (3, .int y3)]) [1, 2, 3, 4] rfl ?_
        exact hF
      · have hF := hF.2 hc
        refine xg_iload_n (pc := 52) C dX1_fewestGlasses_52 4 rfl ?_
        refine xg_istore_n (pc := 53) (lv2 := [(2, .int y3), (4, .int s0), (0, va_rf (some this)), (1, .int x1), (3, .int y3)]) C dX1_fewestGlasses_53 5 hnL (by decide) rfl ?_
        refine xg_sub (lv2 := [(0, va_rf (some this)), (1, .int x1), (2, .int y3), (3, .int y3)]) [2, 3, 0, 4] rfl ?_
        exact hF
  · intro y2 y3 h hF
    obtain ⟨z11, ez11⟩ : ∃ y : Int32, y = y3 + 1 := ⟨_, rfl⟩
    have hF := hF z11 ez11
    refine xg_iinc (pc := 54) (v := z11) (lv2 := [(3, .int z11), (0, va_rf (some this)), (1, .int x1), (2, .int y2)]) C dX1_fewestGlasses_54 3 rfl (by rw [ez11]; rfl) 5 hnL (by decide) rfl ?_
    refine xg_goto (pc := 57) 4 C dX1_fewestGlasses_57 (by decide) ?_
    refine xg_sub (lv2 := [(0, va_rf (some this)), (1, .int x1), (2, .int y2), (3, .int z11)]) [1, 2, 3, 0] rfl ?_
    exact hF
  · skip
    refine xg_iconst (pc := 0) (v := (-1)) C dX1_fewestGlasses_0 (by decide) ?_
    refine xg_istore_n (pc := 1) (lv2 := [(2, .int (-1)), (0, va_rf (some this)), (1, .int x1)]) C dX1_fewestGlasses_1 5 hnL (by decide) rfl ?_
    refine xg_iconst (pc := 2) (v := 1) C dX1_fewestGlasses_2 (by decide) ?_
    refine xg_istore_n (pc := 3) (lv2 := [(3, .int 1), (2, .int (-1)), (0, va_rf (some this)), (1, .int x1)]) C dX1_fewestGlasses_3 5 hnL (by decide) rfl ?_
    refine xg_sub (lv2 := [(0, va_rf (some this)), (1, .int x1), (2, .int (-1)), (3, .int 1)]) [2, 3, 1, 0] rfl ?_
    exact hF
def rm_X1_findRow : Room := { frames := 3, cells := 0, slots := 0, locals := 74 }
theorem nd_X1_findRow : yX1_findRow.cls = RX1 ∧ yX1_findRow.cls ≠ "java/lang/invoke/MethodHandle" ∧ yX1_findRow.cls ≠ "java/lang/invoke/VarHandle" ∧ (parseMethodDescriptor yX1_findRow.desc).map (fun d => d.parameters.length) = some 1 := by decide +kernel
theorem inm_X1_findRow_1 : ∀ w ∈ u_ws RX1 TX1 (xg_N 1), w ∈ wsX1_findRow := fun _ h9 => List.mem_cons_of_mem _ (List.mem_append_left _ (List.mem_append_left _ (List.mem_append_right _ h9)))
theorem inm_X1_findRow_10 : ∀ w ∈ u_ws RX10 TX10 (xg_N 10), w ∈ wsX1_findRow := fun _ h9 => List.mem_cons_of_mem _ (List.mem_append_left _ (List.mem_append_right _ h9))
set_option maxHeartbeats 4000000 in
set_option maxRecDepth 100000 in
theorem met_X1_findRow (Y : xg_Y) (this : Nat) (x1 : Int32) : xg_MV yX1_findRow wsX1_findRow rm_X1_findRow Y [va_rf (some this), .int x1] (fun Q h => wp_X1_findRow Y Q this x1 h) := by
  refine xg_startV (cc := cX1_findRow) (maxL := 7) (own := RX1) (by decide) rfl rfl (Nat.le_of_ble_eq_true rfl) (fun X Q h C hnL E hw => ?_)
  unfold wp_X1_findRow at hw
  obtain ⟨hthis, hw⟩ := hw
  refine xg_sub (lv2 := [(0, va_rf (some this)), (1, .int x1)]) [0, 1] rfl ?_
  refine mg_use (hw (fun (h : xg_H) => xg_W X 0 0 Y 20 [(0, va_rf (some this)), (1, .int x1)] [] h) (fun (y2 : Int32) (y3 : Int32) (y4 : Int32) (h : xg_H) => xg_W X 0 0 Y 37 [(0, va_rf (some this)), (1, .int x1), (2, .int y2), (3, .int y3), (4, .int y4)] [] h) (fun (y2 : Int32) (y3 : Int32) (y4 : Int32) (y5 : Int32) (h : xg_H) => xg_W X 0 0 Y 63 [(0, va_rf (some this)), (1, .int x1), (2, .int y2), (3, .int y3), (4, .int y4), (5, .int y5)] [] h) (fun (y2 : Int32) (y3 : Int32) (y4 : Int32) (y5 : Int32) (h : xg_H) => xg_W X 0 0 Y 110 [(0, va_rf (some this)), (1, .int x1), (2, .int y2), (3, .int y3), (4, .int y4), (5, .int y5)] [] h) ?_ ?_ ?_ ?_) (fun hF => ?_)
  · intro h hF
    refine xg_aload_n (pc := 20) C dX1_findRow_20 0 rfl ?_
    refine xg_iload_n (pc := 21) C dX1_findRow_21 1 rfl ?_
    refine xg_puti (pc := 22) (C1 := RX1) (T1 := TX1) (ci := 1) (ref := "SandGlasses$Book") C inm_X1_findRow_1 rfl (by decide) tyX1 tyX1_ok nmX1 11 (by decide) rfl dX1_findRow_22 (List.mem_of_getElem? (i := 1) rfl) rfl rfl (tyX1_ok 11 (by decide)) rfl hthis (fun h2 eh2 => ?_)
    have hF := hF h2 eh2
    refine xg_aload_n (pc := 25) C dX1_findRow_25 0 rfl ?_
    refine xg_iconst (pc := 26) (v := 0) C dX1_findRow_26 (by decide) ?_
    refine xg_puti (pc := 27) (C1 := RX1) (T1 := TX1) (ci := 1) (ref := "SandGlasses$Book") C inm_X1_findRow_1 rfl (by decide) tyX1 tyX1_ok nmX1 10 (by decide) rfl dX1_findRow_27 (List.mem_of_getElem? (i := 3) rfl) rfl rfl (tyX1_ok 10 (by decide)) rfl hthis (fun h3 eh3 => ?_)
    have hF := hF h3 eh3
    refine xg_iconst (pc := 30) (v := 0) C dX1_findRow_30 (by decide) ?_
    refine xg_istore_n (pc := 31) (lv2 := [(2, .int 0), (0, va_rf (some this)), (1, .int x1)]) C dX1_findRow_31 7 hnL (by decide) rfl ?_
    refine xg_iconst (pc := 32) (v := 0) C dX1_findRow_32 (by decide) ?_
    refine xg_istore_n (pc := 33) (lv2 := [(3, .int 0), (2, .int 0), (0, va_rf (some this)), (1, .int x1)]) C dX1_findRow_33 7 hnL (by decide) rfl ?_
    refine xg_iconst (pc := 34) (v := 0) C dX1_findRow_34 (by decide) ?_
    refine xg_istore (pc := 35) (lv2 := [(4, .int 0), (3, .int 0), (2, .int 0), (0, va_rf (some this)), (1, .int x1)]) C dX1_findRow_35 7 hnL (by decide) rfl ?_
    refine xg_sub (lv2 := [(0, va_rf (some this)), (1, .int x1), (2, .int 0), (3, .int 0), (4, .int 0)]) [3, 4, 2, 1, 0] rfl ?_
    exact hF
  · intro y2 y3 y4 h hF
    refine xg_iload (pc := 37) C dX1_findRow_37 4 rfl ?_
    refine xg_bipush (pc := 39) (v := 30) C dX1_findRow_39 (by decide) ?_
    refine xg_icmp_ge (pc := 41) 175 C dX1_findRow_41 (by decide) (fun hc => ?_) (fun hc => ?_)
    · have hF := hF.1 hc
      exact xg_retV (pc := 175) C E dX1_findRow_175 hF
    · have hF := hF.2 hc
      refine xg_iload_n (pc := 44) C dX1_findRow_44 3 rfl ?_
      refine xg_iload_n (pc := 45) C dX1_findRow_45 1 rfl ?_
      refine xg_icmp_ge (pc := 46) 175 C dX1_findRow_46 (by decide) (fun hc => ?_) (fun hc => ?_)
      · have hF := hF.1 hc
        exact xg_retV (pc := 175) C E dX1_findRow_175 hF
      · have hF := hF.2 hc
        refine xg_iload_n (pc := 49) C dX1_findRow_49 2 rfl ?_
        refine xg_aload_n (pc := 50) C dX1_findRow_50 0 rfl ?_
        refine xg_getr (pc := 51) (C1 := RX1) (T1 := TX1) (ci := 1) (ref := "SandGlasses$Book") C inm_X1_findRow_1 rfl (by decide) 0 (by decide) rfl dX1_findRow_51 (List.mem_of_getElem? (i := 4) rfl) rfl rfl hthis ?_
        obtain ⟨a4, ha4, hka4, hF⟩ := hF
        refine xg_geti (pc := 54) (C1 := RX10) (T1 := TX10) (ci := 10) (ref := "SandGlasses$Walk") C inm_X1_findRow_10 rfl (by decide) 4 (by decide) rfl dX1_findRow_54 (List.mem_of_getElem? (i := 5) rfl) rfl ha4 hka4 ?_
        refine xg_icmp_ge (pc := 57) 175 C dX1_findRow_57 (by decide) (fun hc => ?_) (fun hc => ?_)
        · have hF := hF.1 hc
          exact xg_retV (pc := 175) C E dX1_findRow_175 hF
        · have hF := hF.2 hc
          refine xg_iconst (pc := 60) (v := 0) C dX1_findRow_60 (by decide) ?_
          refine xg_istore (pc := 61) (lv2 := [(5, .int 0), (0, va_rf (some this)), (1, .int x1), (2, .int y2), (3, .int y3), (4, .int y4)]) C dX1_findRow_61 7 hnL (by decide) rfl ?_
          refine xg_sub (lv2 := [(0, va_rf (some this)), (1, .int x1), (2, .int y2), (3, .int y3), (4, .int y4), (5, .int 0)]) [1, 2, 3, 4, 5, 0] rfl ?_
          exact hF
  · intro y2 y3 y4 y5 h hF
    refine xg_iload (pc := 63) C dX1_findRow_63 5 rfl ?_
    refine xg_aload_n (pc := 65) C dX1_findRow_65 0 rfl ?_
    refine xg_getr (pc := 66) (C1 := RX1) (T1 := TX1) (ci := 1) (ref := "SandGlasses$Book") C inm_X1_findRow_1 rfl (by decide) 0 (by decide) rfl dX1_findRow_66 (List.mem_of_getElem? (i := 4) rfl) rfl rfl hthis ?_
    obtain ⟨a5, ha5, hka5, hF⟩ := hF
    refine xg_geti (pc := 69) (C1 := RX10) (T1 := TX10) (ci := 10) (ref := "SandGlasses$Walk") C inm_X1_findRow_10 rfl (by decide) 5 (by decide) rfl dX1_findRow_69 (List.mem_of_getElem? (i := 6) rfl) rfl ha5 hka5 ?_
    refine xg_iconst (pc := 72) (v := 1) C dX1_findRow_72 (by decide) ?_
    refine xg_isub (pc := 73) C dX1_findRow_73 ?_
    refine xg_icmp_ge (pc := 74) 110 C dX1_findRow_74 (by decide) (fun hc => ?_) (fun hc => ?_)
    · have hF := hF.1 hc
      exact hF
    · have hF := hF.2 hc
      refine xg_aload_n (pc := 77) C dX1_findRow_77 0 rfl ?_
      refine xg_getr (pc := 78) (C1 := RX1) (T1 := TX1) (ci := 1) (ref := "SandGlasses$Book") C inm_X1_findRow_1 rfl (by decide) 2 (by decide) rfl dX1_findRow_78 (List.mem_of_getElem? (i := 7) rfl) rfl rfl hthis ?_
      refine xg_iload_n (pc := 81) C dX1_findRow_81 2 rfl ?_
      refine xg_iload (pc := 82) C dX1_findRow_82 5 rfl ?_
      refine xg_iload_n (pc := 84) C dX1_findRow_84 1 rfl ?_
      refine xg_iload_n (pc := 85) C dX1_findRow_85 3 rfl ?_
      refine xg_isub (pc := 86) C dX1_findRow_86 ?_
      obtain ⟨a6, ha6, hka6, hF⟩ := hF
      refine xg_cvI (pc := 87) (C1 := RX3) (T1 := TX3) (ci := 3) C [.int y2, .int y5, .int (x1 - y3)] ha6 hka6 (by decide) rfl (met_X3_by Y a6 y2 y5 (x1 - y3)) gX1_findRow_X3_by rfl ⟨rfl, rfl⟩ nd_X3_by ⟨Nat.le_of_ble_eq_true rfl, Nat.le_of_ble_eq_true rfl⟩ rfl rfl (Nat.le_of_ble_eq_true rfl) ⟨Nat.zero_le _, Nat.zero_le _⟩ dX1_findRow_87 hF (fun r8 h7 hF => ?_)
      refine xg_aload_n (pc := 90) C dX1_findRow_90 0 rfl ?_
      refine xg_getr (pc := 91) (C1 := RX1) (T1 := TX1) (ci := 1) (ref := "SandGlasses$Book") C inm_X1_findRow_1 rfl (by decide) 2 (by decide) rfl dX1_findRow_91 (List.mem_of_getElem? (i := 7) rfl) rfl rfl hthis ?_
      refine xg_iload_n (pc := 94) C dX1_findRow_94 2 rfl ?_
      refine xg_iload_n (pc := 95) C dX1_findRow_95 1 rfl ?_
      refine xg_iload_n (pc := 96) C dX1_findRow_96 3 rfl ?_
      refine xg_isub (pc := 97) C dX1_findRow_97 ?_
      obtain ⟨a9, ha9, hka9, hF⟩ := hF
      refine xg_cvI (pc := 98) (C1 := RX3) (T1 := TX3) (ci := 3) C [.int y2, .int (x1 - y3)] ha9 hka9 (by decide) rfl (met_X3_of Y a9 y2 (x1 - y3)) gX1_findRow_X3_of rfl ⟨rfl, rfl⟩ nd_X3_of ⟨Nat.le_of_ble_eq_true rfl, Nat.le_of_ble_eq_true rfl⟩ rfl rfl (Nat.le_of_ble_eq_true rfl) ⟨Nat.zero_le _, Nat.zero_le _⟩ dX1_findRow_98 hF (fun r11 h10 hF => ?_)
      refine xg_icmp_eq (pc := 101) 110 C dX1_findRow_101 (by decide) (fun hc => ?_) (fun hc => ?_)
      · have hF := hF.1 hc
        exact hF
      · have hF := hF.2 hc
        obtain ⟨z12, ez12⟩ : ∃ y : Int32, y = y5 + 1 := ⟨_, rfl⟩
        have hF := hF z12 ez12
        refine xg_iinc (pc := 104) (v := z12) (lv2 := [(5, .int z12), (0, va_rf (some this)), (1, .int x1), (2, .int y2), (3, .int y3), (4, .int y4)]) C dX1_findRow_104 5 rfl (by rw [ez12]; rfl) 7 hnL (by decide) rfl ?_
        refine xg_goto (pc := 107) 63 C dX1_findRow_107 (by decide) ?_
        refine xg_sub (lv2 := [(0, va_rf (some this)), (1, .int x1), (2, .int y2), (3, .int y3), (4, .int y4), (5, .int z12)]) [1, 2, 3, 4, 5, 0] rfl ?_
        exact hF
  · intro y2 y3 y4 y5 h hF
    refine xg_aload_n (pc := 110) C dX1_findRow_110 0 rfl ?_
    refine xg_getr (pc := 111) (C1 := RX1) (T1 := TX1) (ci := 1) (ref := "SandGlasses$Book") C inm_X1_findRow_1 rfl (by decide) 8 (by decide) rfl dX1_findRow_111 (List.mem_of_getElem? (i := 8) rfl) rfl rfl hthis ?_
    refine xg_iload (pc := 114) C dX1_findRow_114 4 rfl ?_
    refine xg_iload (pc := 116) C dX1_findRow_116 5 rfl ?_
    obtain ⟨a13, ha13, hka13, hF⟩ := hF
    obtain ⟨hi, hF⟩ := hF
    refine xg_iast (pc := 118) C ha13 hka13 hi dX1_findRow_118 (fun h14 eh14 => ?_)
    have hF := hF h14 eh14
    refine xg_aload_n (pc := 119) C dX1_findRow_119 0 rfl ?_
    refine xg_getr (pc := 120) (C1 := RX1) (T1 := TX1) (ci := 1) (ref := "SandGlasses$Book") C inm_X1_findRow_1 rfl (by decide) 9 (by decide) rfl dX1_findRow_120 (List.mem_of_getElem? (i := 9) rfl) rfl rfl hthis ?_
    refine xg_iload (pc := 123) C dX1_findRow_123 4 rfl ?_
    refine xg_iload_n (pc := 125) C dX1_findRow_125 3 rfl ?_
    obtain ⟨a15, ha15, hka15, hF⟩ := hF
    obtain ⟨hi, hF⟩ := hF
    refine xg_iast (pc := 126) C ha15 hka15 hi dX1_findRow_126 (fun h16 eh16 => ?_)
    have hF := hF h16 eh16
    refine xg_aload_n (pc := 127) C dX1_findRow_127 0 rfl ?_
    refine xg_dup (pc := 128) C dX1_findRow_128 (xg_rf_cat _) ?_
    refine xg_geti (pc := 129) (C1 := RX1) (T1 := TX1) (ci := 1) (ref := "SandGlasses$Book") C inm_X1_findRow_1 rfl (by decide) 10 (by decide) rfl dX1_findRow_129 (List.mem_of_getElem? (i := 3) rfl) rfl rfl hthis ?_
    refine xg_iconst (pc := 132) (v := 1) C dX1_findRow_132 (by decide) ?_
    refine xg_iadd (pc := 133) C dX1_findRow_133 ?_
    refine xg_puti (pc := 134) (C1 := RX1) (T1 := TX1) (ci := 1) (ref := "SandGlasses$Book") C inm_X1_findRow_1 rfl (by decide) tyX1 tyX1_ok nmX1 10 (by decide) rfl dX1_findRow_134 (List.mem_of_getElem? (i := 3) rfl) rfl rfl (tyX1_ok 10 (by decide)) rfl hthis (fun h17 eh17 => ?_)
    have hF := hF h17 eh17
    refine xg_aload_n (pc := 137) C dX1_findRow_137 0 rfl ?_
    refine xg_getr (pc := 138) (C1 := RX1) (T1 := TX1) (ci := 1) (ref := "SandGlasses$Book") C inm_X1_findRow_1 rfl (by decide) 0 (by decide) rfl dX1_findRow_138 (List.mem_of_getElem? (i := 4) rfl) rfl rfl hthis ?_
    obtain ⟨a18, ha18, hka18, hF⟩ := hF
    refine xg_getr (pc := 141) (C1 := RX10) (T1 := TX10) (ci := 10) (ref := "SandGlasses$Walk") C inm_X1_findRow_10 rfl (by decide) 3 (by decide) rfl dX1_findRow_141 (List.mem_of_getElem? (i := 10) rfl) rfl ha18 hka18 ?_
    refine xg_iload_n (pc := 144) C dX1_findRow_144 2 rfl ?_
    refine xg_bipush (pc := 145) (v := 16) C dX1_findRow_145 (by decide) ?_
    refine xg_imul (pc := 147) C dX1_findRow_147 ?_
    refine xg_iload (pc := 148) C dX1_findRow_148 5 rfl ?_
    refine xg_iadd (pc := 150) C dX1_findRow_150 ?_
    obtain ⟨a19, ha19, hka19, hF⟩ := hF
    obtain ⟨hi, hF⟩ := hF
    refine xg_iald (pc := 151) C ha19 hka19 hi dX1_findRow_151 ?_
    refine xg_topi (pc := 152) (fun z20 ez20 => ?_)
    have hF := hF z20 ez20
    refine xg_istore (pc := 152) (lv2 := [(6, .int z20), (0, va_rf (some this)), (1, .int x1), (2, .int y2), (3, .int y3), (4, .int y4), (5, .int y5)]) C dX1_findRow_152 7 hnL (by decide) rfl ?_
    refine xg_iload_n (pc := 154) C dX1_findRow_154 4 rfl ?_
    refine xg_iload (pc := 155) C dX1_findRow_155 0 rfl ?_
    refine xg_bipush (pc := 157) (v := 12) C dX1_findRow_157 (by decide) ?_
    refine xg_ishr (pc := 159) C dX1_findRow_159 ?_
    refine xg_iadd (pc := 160) C dX1_findRow_160 ?_
    refine xg_topi (pc := 161) (fun z21 ez21 => ?_)
    have hF := hF z21 ez21
    refine xg_istore_n (pc := 161) (lv2 := [(3, .int z21), (6, .int z20), (0, va_rf (some this)), (1, .int x1), (2, .int y2), (4, .int y4), (5, .int y5)]) C dX1_findRow_161 7 hnL (by decide) rfl ?_
    refine xg_iload (pc := 162) C dX1_findRow_162 1 rfl ?_
    refine xg_sipush (pc := 164) (v := 4095) C dX1_findRow_164 (by decide) ?_
    refine xg_iand (pc := 167) C dX1_findRow_167 ?_
    refine xg_topi (pc := 168) (fun z22 ez22 => ?_)
    have hF := hF z22 ez22
    refine xg_istore_n (pc := 168) (lv2 := [(2, .int z22), (3, .int z21), (6, .int z20), (0, va_rf (some this)), (1, .int x1), (4, .int y4), (5, .int y5)]) C dX1_findRow_168 7 hnL (by decide) rfl ?_
    obtain ⟨z23, ez23⟩ : ∃ y : Int32, y = y4 + 1 := ⟨_, rfl⟩
    have hF := hF z23 ez23
    refine xg_iinc (pc := 169) (v := z23) (lv2 := [(4, .int z23), (2, .int z22), (3, .int z21), (6, .int z20), (0, va_rf (some this)), (1, .int x1), (5, .int y5)]) C dX1_findRow_169 5 rfl (by rw [ez23]; rfl) 7 hnL (by decide) rfl ?_
    refine xg_goto (pc := 172) 37 C dX1_findRow_172 (by decide) ?_
    refine xg_sub (lv2 := [(0, va_rf (some this)), (1, .int x1), (2, .int z22), (3, .int z21), (4, .int z23)]) [4, 5, 1, 2, 0] rfl ?_
    exact hF
  · skip
    refine xg_aload_n (pc := 0) C dX1_findRow_0 0 rfl ?_
    refine xg_geti (pc := 1) (C1 := RX1) (T1 := TX1) (ci := 1) (ref := "SandGlasses$Book") C inm_X1_findRow_1 rfl (by decide) 11 (by decide) rfl dX1_findRow_1 (List.mem_of_getElem? (i := 1) rfl) rfl rfl hthis ?_
    refine xg_iload_n (pc := 4) C dX1_findRow_4 1 rfl ?_
    refine xg_icmp_ne (pc := 5) 9 C dX1_findRow_5 (by decide) (fun hc => ?_) (fun hc => ?_)
    · have hF := hF.1 hc
      refine xg_aload_n (pc := 9) C dX1_findRow_9 0 rfl ?_
      refine xg_geti (pc := 10) (C1 := RX1) (T1 := TX1) (ci := 1) (ref := "SandGlasses$Book") C inm_X1_findRow_1 rfl (by decide) 19 (by decide) rfl dX1_findRow_10 (List.mem_of_getElem? (i := 2) rfl) rfl rfl hthis ?_
      refine xg_if_ne (pc := 13) 20 C dX1_findRow_13 (by decide) (fun hc => ?_) (fun hc => ?_)
      · have hF := hF.1 hc
        exact hF
      · have hF := hF.2 hc
        refine xg_aload_n (pc := 16) C dX1_findRow_16 0 rfl ?_
        refine xg_cvV (pc := 17) (C1 := RX1) (T1 := TX1) (ci := 1) C [] rfl hthis (by decide) rfl (met_X1_knowTurns Y this) gX1_findRow_X1_knowTurns rfl ⟨rfl, rfl⟩ nd_X1_knowTurns ⟨Nat.le_of_ble_eq_true rfl, Nat.le_of_ble_eq_true rfl⟩ rfl rfl (Nat.le_of_ble_eq_true rfl) ⟨Nat.zero_le _, Nat.zero_le _⟩ dX1_findRow_17 hF (fun h1 hF => ?_)
        exact hF
    · have hF := hF.2 hc
      exact xg_retV (pc := 8) C E dX1_findRow_8 hF
