def rm_X3_of : Room := { frames := 0, cells := 0, slots := 0, locals := 0 }
theorem nd_X3_of : yX3_of.cls = RX3 ∧ yX3_of.cls ≠ "java/lang/invoke/MethodHandle" ∧ yX3_of.cls ≠ "java/lang/invoke/VarHandle" ∧ (parseMethodDescriptor yX3_of.desc).map (fun d => d.parameters.length) = some 2 := by decide +kernel
theorem inm_X3_of_3 : ∀ w ∈ u_ws RX3 TX3 (xg_N 3), w ∈ wsX3_of := fun _ h9 => List.mem_cons_of_mem _ (List.mem_append_right _ h9)
set_option maxHeartbeats 4000000 in
set_option maxRecDepth 100000 in
theorem met_X3_of (Y : xg_Y) (this : Nat) (x1 : Int32) (x2 : Int32) : xg_MI yX3_of wsX3_of rm_X3_of Y (fun zs => [va_rf (some this), .int x1, .int x2]) (fun Q h => wp_X3_of Y Q this x1 x2 h) := by
  refine xg_startI (cc := cX3_of) (maxL := 3) (own := RX3) (by decide) rfl rfl (fun zs => Nat.le_of_ble_eq_true rfl) (fun X Q h C hnL E hw => ?_)
  unfold wp_X3_of at hw
  obtain ⟨hthis, hw⟩ := hw
  refine xg_sub (lv2 := [(0, va_rf (some this)), (1, .int x1), (2, .int x2)]) [0, 1, 2] rfl ?_
  refine mg_use (hw (fun (h : xg_H) => xg_W X 0 0 Y 27 [] [] h) ?_) (fun hF => ?_)
  · intro h hF
    refine xg_ldc (pc := 27) (v := 1000000) C dX3_of_27 (List.mem_of_getElem? (i := 3) rfl) ?_
    exact xg_retI (pc := 29) C E dX3_of_29 hF
  · skip
    refine xg_iload_n (pc := 0) C dX3_of_0 2 rfl ?_
    refine xg_iconst (pc := 1) (v := 1) C dX3_of_1 (by decide) ?_
    refine xg_icmp_lt (pc := 2) 27 C dX3_of_2 (by decide) (fun hc => ?_) (fun hc => ?_)
    · have hF := hF.1 hc
      refine xg_sub (lv2 := []) [] rfl ?_
      exact hF
    · have hF := hF.2 hc
      refine xg_iload_n (pc := 5) C dX3_of_5 2 rfl ?_
      refine xg_bipush (pc := 6) (v := 30) C dX3_of_6 (by decide) ?_
      refine xg_icmp_gt (pc := 8) 27 C dX3_of_8 (by decide) (fun hc => ?_) (fun hc => ?_)
      · have hF := hF.1 hc
        refine xg_sub (lv2 := []) [] rfl ?_
        exact hF
      · have hF := hF.2 hc
        refine xg_aload_n (pc := 11) C dX3_of_11 0 rfl ?_
        refine xg_getr (pc := 12) (C1 := RX3) (T1 := TX3) (ci := 3) (ref := "SandGlasses$Costs") C inm_X3_of_3 rfl (by decide) 4 (by decide) rfl dX3_of_12 (List.mem_of_getElem? (i := 1) rfl) rfl rfl hthis ?_
        refine xg_iload_n (pc := 15) C dX3_of_15 2 rfl ?_
        refine xg_aload_n (pc := 16) C dX3_of_16 0 rfl ?_
        refine xg_geti (pc := 17) (C1 := RX3) (T1 := TX3) (ci := 3) (ref := "SandGlasses$Costs") C inm_X3_of_3 rfl (by decide) 3 (by decide) rfl dX3_of_17 (List.mem_of_getElem? (i := 2) rfl) rfl rfl hthis ?_
        refine xg_imul (pc := 20) C dX3_of_20 ?_
        refine xg_iload_n (pc := 21) C dX3_of_21 1 rfl ?_
        refine xg_iadd (pc := 22) C dX3_of_22 ?_
        obtain ⟨a1, ha1, hka1, hF⟩ := hF
        obtain ⟨hi, hF⟩ := hF
        refine xg_iald (pc := 23) C ha1 hka1 hi dX3_of_23 ?_
        refine xg_goto (pc := 24) 29 C dX3_of_24 (by decide) ?_
        exact xg_retI (pc := 29) C E dX3_of_29 hF
def rm_X1_knowTurns : Room := { frames := 2, cells := 0, slots := 0, locals := 51 }
theorem nd_X1_knowTurns : yX1_knowTurns.cls = RX1 ∧ yX1_knowTurns.cls ≠ "java/lang/invoke/MethodHandle" ∧ yX1_knowTurns.cls ≠ "java/lang/invoke/VarHandle" ∧ (parseMethodDescriptor yX1_knowTurns.desc).map (fun d => d.parameters.length) = some 0 := by decide +kernel
theorem inm_X1_knowTurns_1 : ∀ w ∈ u_ws RX1 TX1 (xg_N 1), w ∈ wsX1_knowTurns := fun _ h9 => List.mem_cons_of_mem _ (List.mem_append_left _ (List.mem_append_left _ (List.mem_append_right _ h9)))
theorem inm_X1_knowTurns_3 : ∀ w ∈ u_ws RX3 TX3 (xg_N 3), w ∈ wsX1_knowTurns := fun _ h9 => List.mem_cons_of_mem _ (List.mem_append_left _ (List.mem_append_right _ h9))
theorem inm_X1_knowTurns_10 : ∀ w ∈ u_ws RX10 TX10 (xg_N 10), w ∈ wsX1_knowTurns := fun _ h9 => List.mem_cons_of_mem _ (List.mem_append_right _ h9)
set_option maxHeartbeats 4000000 in
set_option maxRecDepth 100000 in
theorem met_X1_knowTurns (Y : xg_Y) (this : Nat) : xg_MV yX1_knowTurns wsX1_knowTurns rm_X1_knowTurns Y (fun zs => [va_rf (some this)]) (fun Q h => wp_X1_knowTurns Y Q this h) := by
  refine xg_startV (cc := cX1_knowTurns) (maxL := 4) (own := RX1) (by decide) rfl rfl (fun zs => Nat.le_of_ble_eq_true rfl) (fun X Q h C hnL E hw => ?_)
  unfold wp_X1_knowTurns at hw
  obtain ⟨hthis, hw⟩ := hw
  refine xg_sub (lv2 := [(0, va_rf (some this))]) [0] rfl ?_
  refine mg_use (hw (fun (y1 : Int32) (h : xg_H) => xg_W X 0 0 Y 2 [(0, va_rf (some this)), (1, .int y1)] [] h) (fun (y1 : Int32) (h : xg_H) => xg_W X 0 0 Y 68 [(0, va_rf (some this)), (1, .int y1)] [] h) (fun (y1 : Int32) (h : xg_H) => xg_W X 0 0 Y 97 [(0, va_rf (some this)), (1, .int y1)] [] h) (fun (y1 : Int32) (y2 : Int32) (y3 : Int32) (h : xg_H) => xg_W X 0 0 Y 123 [(0, va_rf (some this)), (1, .int y1), (2, .int y2), (3, .int y3)] [] h) (fun (y1 : Int32) (h : xg_H) => xg_W X 0 0 Y 172 [(0, va_rf (some this)), (1, .int y1)] [] h) (fun (y1 : Int32) (y2 : Int32) (y3 : Int32) (h : xg_H) => xg_W X 0 0 Y 166 [(0, va_rf (some this)), (1, .int y1), (2, .int y2), (3, .int y3)] [] h) ?_ ?_ ?_ ?_ ?_ ?_) (fun hF => ?_)
  · intro y1 h hF
    refine xg_iload_n (pc := 2) C dX1_knowTurns_2 1 rfl ?_
    refine xg_bipush (pc := 3) (v := 16) C dX1_knowTurns_3 (by decide) ?_
    refine xg_icmp_ge (pc := 5) 27 C dX1_knowTurns_5 (by decide) (fun hc => ?_) (fun hc => ?_)
    · have hF := hF.1 hc
      refine xg_aload_n (pc := 27) C dX1_knowTurns_27 0 rfl ?_
      refine xg_getr (pc := 28) (C1 := RX1) (T1 := TX1) (ci := 1) (ref := "SandGlasses$Book") C inm_X1_knowTurns_1 rfl (by decide) 2 (by decide) rfl dX1_knowTurns_28 (List.mem_of_getElem? (i := 1) rfl) rfl rfl hthis ?_
      obtain ⟨a1, ha1, hka1, hF⟩ := hF
      refine xg_getr (pc := 31) (C1 := RX3) (T1 := TX3) (ci := 3) (ref := "SandGlasses$Costs") C inm_X1_knowTurns_3 rfl (by decide) 1 (by decide) rfl dX1_knowTurns_31 (List.mem_of_getElem? (i := 3) rfl) rfl ha1 hka1 ?_
      refine xg_iconst (pc := 34) (v := 0) C dX1_knowTurns_34 (by decide) ?_
      refine xg_csV (pc := 35) C (fun zs => [va_rf (xg_o h a1 1), .int 0]) (met_J7_fill_53178 Y (xg_o h a1 1) 0) gX1_knowTurns_J7_fill_53178 rfl ⟨rfl, rfl⟩ nd_J7_fill_53178.2 ⟨Nat.le_of_ble_eq_true rfl, Nat.le_of_ble_eq_true rfl⟩ rfl rfl (Nat.le_of_ble_eq_true rfl) ⟨Nat.zero_le _, Nat.zero_le _⟩ dX1_knowTurns_35 hF (fun h2 hF => ?_)
      refine xg_aload_n (pc := 38) C dX1_knowTurns_38 0 rfl ?_
      refine xg_getr (pc := 39) (C1 := RX1) (T1 := TX1) (ci := 1) (ref := "SandGlasses$Book") C inm_X1_knowTurns_1 rfl (by decide) 2 (by decide) rfl dX1_knowTurns_39 (List.mem_of_getElem? (i := 1) rfl) rfl rfl hthis ?_
      refine xg_bipush (pc := 42) (v := 30) C dX1_knowTurns_42 (by decide) ?_
      obtain ⟨a3, ha3, hka3, hF⟩ := hF
      refine xg_cvV (pc := 44) (C1 := RX3) (T1 := TX3) (ci := 3) C (fun zs => [.int 30]) ha3 hka3 (by decide) rfl (met_X3_workOut Y a3 30) gX1_knowTurns_X3_workOut rfl ⟨rfl, rfl⟩ nd_X3_workOut ⟨Nat.le_of_ble_eq_true rfl, Nat.le_of_ble_eq_true rfl⟩ rfl rfl (Nat.le_of_ble_eq_true rfl) ⟨Nat.zero_le _, Nat.zero_le _⟩ dX1_knowTurns_44 hF (fun h4 hF => ?_)
      refine xg_aload_n (pc := 47) C dX1_knowTurns_47 0 rfl ?_
      refine xg_iconst (pc := 48) (v := 1) C dX1_knowTurns_48 (by decide) ?_
      refine xg_putz (pc := 49) (C1 := RX1) (T1 := TX1) (ci := 1) (ref := "SandGlasses$Book") C inm_X1_knowTurns_1 rfl (by decide) tyX1 tyX1_ok nmX1 19 (by decide) rfl (Or.inr rfl) dX1_knowTurns_49 (List.mem_of_getElem? (i := 4) rfl) rfl rfl (tyX1_ok 19 (by decide)) rfl hthis (fun h5 eh5 => ?_)
      have hF := hF h5 eh5
      refine xg_aload_n (pc := 52) C dX1_knowTurns_52 0 rfl ?_
      refine xg_iconst (pc := 53) (v := 1) C dX1_knowTurns_53 (by decide) ?_
      refine xg_putz (pc := 54) (C1 := RX1) (T1 := TX1) (ci := 1) (ref := "SandGlasses$Book") C inm_X1_knowTurns_1 rfl (by decide) tyX1 tyX1_ok nmX1 17 (by decide) rfl (Or.inr rfl) dX1_knowTurns_54 (List.mem_of_getElem? (i := 5) rfl) rfl rfl (tyX1_ok 17 (by decide)) rfl hthis (fun h6 eh6 => ?_)
      have hF := hF h6 eh6
      refine xg_aload_n (pc := 57) C dX1_knowTurns_57 0 rfl ?_
      refine xg_getr (pc := 58) (C1 := RX1) (T1 := TX1) (ci := 1) (ref := "SandGlasses$Book") C inm_X1_knowTurns_1 rfl (by decide) 5 (by decide) rfl dX1_knowTurns_58 (List.mem_of_getElem? (i := 6) rfl) rfl rfl hthis ?_
      refine xg_ldc (pc := 61) (v := 1000000) C dX1_knowTurns_61 (List.mem_of_getElem? (i := 7) rfl) ?_
      refine xg_csV (pc := 63) C (fun zs => [va_rf (xg_o h6 this 5), .int 1000000]) (met_J7_fill_53178 Y (xg_o h6 this 5) 1000000) gX1_knowTurns_J7_fill_53178 rfl ⟨rfl, rfl⟩ nd_J7_fill_53178.2 ⟨Nat.le_of_ble_eq_true rfl, Nat.le_of_ble_eq_true rfl⟩ rfl rfl (Nat.le_of_ble_eq_true rfl) ⟨Nat.zero_le _, Nat.zero_le _⟩ dX1_knowTurns_63 hF (fun h7 hF => ?_)
      refine xg_iconst (pc := 66) (v := 1) C dX1_knowTurns_66 (by decide) ?_
      refine xg_istore_n (pc := 67) (lv2 := [(1, .int 1), (0, va_rf (some this))]) C dX1_knowTurns_67 4 hnL (by decide) rfl ?_
      refine xg_sub (lv2 := [(0, va_rf (some this)), (1, .int 1)]) [1, 0] rfl ?_
      exact hF
    · have hF := hF.2 hc
      refine xg_aload_n (pc := 8) C dX1_knowTurns_8 0 rfl ?_
      refine xg_getr (pc := 9) (C1 := RX1) (T1 := TX1) (ci := 1) (ref := "SandGlasses$Book") C inm_X1_knowTurns_1 rfl (by decide) 2 (by decide) rfl dX1_knowTurns_9 (List.mem_of_getElem? (i := 1) rfl) rfl rfl hthis ?_
      obtain ⟨a8, ha8, hka8, hF⟩ := hF
      refine xg_getr (pc := 12) (C1 := RX3) (T1 := TX3) (ci := 3) (ref := "SandGlasses$Costs") C inm_X1_knowTurns_3 rfl (by decide) 0 (by decide) rfl dX1_knowTurns_12 (List.mem_of_getElem? (i := 2) rfl) rfl ha8 hka8 ?_
      refine xg_iload_n (pc := 15) C dX1_knowTurns_15 1 rfl ?_
      refine xg_iload_n (pc := 16) C dX1_knowTurns_16 1 rfl ?_
      refine xg_csI (pc := 17) C (fun zs => [.int y1]) (met_J6_bitCount_0f7a4 Y y1) gX1_knowTurns_J6_bitCount_0f7a4 rfl ⟨rfl, rfl⟩ nd_J6_bitCount_0f7a4.2 ⟨Nat.le_of_ble_eq_true rfl, Nat.le_of_ble_eq_true rfl⟩ rfl rfl (by simp [xg_rf_cat, xg_cat_i, xg_cat_l, xg_cat_a]) ⟨Nat.zero_le _, Nat.zero_le _⟩ dX1_knowTurns_17 hF (fun r10 h9 hF => ?_)
      obtain ⟨a11, ha11, hka11, hF⟩ := hF
      obtain ⟨hi, hF⟩ := hF
      refine xg_iast (pc := 20) C ha11 hka11 hi dX1_knowTurns_20 (fun h12 eh12 => ?_)
      have hF := hF h12 eh12
      obtain ⟨z13, ez13⟩ : ∃ y : Int32, y = y1 + 1 := ⟨_, rfl⟩
      have hF := hF z13 ez13
      refine xg_iinc (pc := 21) (v := z13) (lv2 := [(1, .int z13), (0, va_rf (some this))]) C dX1_knowTurns_21 1 rfl (by rw [ez13]; rfl) 4 hnL (by decide) rfl ?_
      refine xg_goto (pc := 24) 2 C dX1_knowTurns_24 (by decide) ?_
      refine xg_sub (lv2 := [(0, va_rf (some this)), (1, .int z13)]) [1, 0] rfl ?_
      exact hF
  · intro y1 h hF
    refine xg_iload_n (pc := 68) C dX1_knowTurns_68 1 rfl ?_
    refine xg_bipush (pc := 69) (v := 30) C dX1_knowTurns_69 (by decide) ?_
    refine xg_icmp_gt (pc := 71) 95 C dX1_knowTurns_71 (by decide) (fun hc => ?_) (fun hc => ?_)
    · have hF := hF.1 hc
      refine xg_iconst (pc := 95) (v := 0) C dX1_knowTurns_95 (by decide) ?_
      refine xg_istore_n (pc := 96) (lv2 := [(1, .int 0), (0, va_rf (some this))]) C dX1_knowTurns_96 4 hnL (by decide) rfl ?_
      refine xg_sub (lv2 := [(0, va_rf (some this)), (1, .int 0)]) [1, 0] rfl ?_
      exact hF
    · have hF := hF.2 hc
      refine xg_aload_n (pc := 74) C dX1_knowTurns_74 0 rfl ?_
      refine xg_getr (pc := 75) (C1 := RX1) (T1 := TX1) (ci := 1) (ref := "SandGlasses$Book") C inm_X1_knowTurns_1 rfl (by decide) 3 (by decide) rfl dX1_knowTurns_75 (List.mem_of_getElem? (i := 8) rfl) rfl rfl hthis ?_
      refine xg_iload_n (pc := 78) C dX1_knowTurns_78 1 rfl ?_
      refine xg_aload_n (pc := 79) C dX1_knowTurns_79 0 rfl ?_
      refine xg_getr (pc := 80) (C1 := RX1) (T1 := TX1) (ci := 1) (ref := "SandGlasses$Book") C inm_X1_knowTurns_1 rfl (by decide) 2 (by decide) rfl dX1_knowTurns_80 (List.mem_of_getElem? (i := 1) rfl) rfl rfl hthis ?_
      refine xg_iconst (pc := 83) (v := 0) C dX1_knowTurns_83 (by decide) ?_
      refine xg_iload_n (pc := 84) C dX1_knowTurns_84 1 rfl ?_
      obtain ⟨a14, ha14, hka14, hF⟩ := hF
      refine xg_cvI (pc := 85) (C1 := RX3) (T1 := TX3) (ci := 3) C (fun zs => [.int 0, .int y1]) ha14 hka14 (by decide) rfl (met_X3_of Y a14 0 y1) gX1_knowTurns_X3_of rfl ⟨rfl, rfl⟩ nd_X3_of ⟨Nat.le_of_ble_eq_true rfl, Nat.le_of_ble_eq_true rfl⟩ rfl rfl (by simp [xg_rf_cat, xg_cat_i, xg_cat_l, xg_cat_a]) ⟨Nat.zero_le _, Nat.zero_le _⟩ dX1_knowTurns_85 hF (fun r16 h15 hF => ?_)
      obtain ⟨a17, ha17, hka17, hF⟩ := hF
      obtain ⟨hi, hF⟩ := hF
      refine xg_iast (pc := 88) C ha17 hka17 hi dX1_knowTurns_88 (fun h18 eh18 => ?_)
      have hF := hF h18 eh18
      obtain ⟨z19, ez19⟩ : ∃ y : Int32, y = y1 + 1 := ⟨_, rfl⟩
      have hF := hF z19 ez19
      refine xg_iinc (pc := 89) (v := z19) (lv2 := [(1, .int z19), (0, va_rf (some this))]) C dX1_knowTurns_89 1 rfl (by rw [ez19]; rfl) 4 hnL (by decide) rfl ?_
      refine xg_goto (pc := 92) 68 C dX1_knowTurns_92 (by decide) ?_
      refine xg_sub (lv2 := [(0, va_rf (some this)), (1, .int z19)]) [1, 0] rfl ?_
      exact hF
  · intro y1 h hF
    refine xg_iload_n (pc := 97) C dX1_knowTurns_97 1 rfl ?_
    refine xg_aload_n (pc := 98) C dX1_knowTurns_98 0 rfl ?_
    refine xg_getr (pc := 99) (C1 := RX1) (T1 := TX1) (ci := 1) (ref := "SandGlasses$Book") C inm_X1_knowTurns_1 rfl (by decide) 0 (by decide) rfl dX1_knowTurns_99 (List.mem_of_getElem? (i := 9) rfl) rfl rfl hthis ?_
    obtain ⟨a20, ha20, hka20, hF⟩ := hF
    refine xg_geti (pc := 102) (C1 := RX10) (T1 := TX10) (ci := 10) (ref := "SandGlasses$Walk") C inm_X1_knowTurns_10 rfl (by decide) 4 (by decide) rfl dX1_knowTurns_102 (List.mem_of_getElem? (i := 10) rfl) rfl ha20 hka20 ?_
    refine xg_icmp_ge (pc := 105) 178 C dX1_knowTurns_105 (by decide) (fun hc => ?_) (fun hc => ?_)
    · have hF := hF.1 hc
      exact xg_retV (pc := 178) C E dX1_knowTurns_178 hF
    · have hF := hF.2 hc
      refine xg_aload_n (pc := 108) C dX1_knowTurns_108 0 rfl ?_
      refine xg_getr (pc := 109) (C1 := RX1) (T1 := TX1) (ci := 1) (ref := "SandGlasses$Book") C inm_X1_knowTurns_1 rfl (by decide) 0 (by decide) rfl dX1_knowTurns_109 (List.mem_of_getElem? (i := 9) rfl) rfl rfl hthis ?_
      refine xg_getr (pc := 112) (C1 := RX10) (T1 := TX10) (ci := 10) (ref := "SandGlasses$Walk") C inm_X1_knowTurns_10 rfl (by decide) 1 (by decide) rfl dX1_knowTurns_112 (List.mem_of_getElem? (i := 11) rfl) rfl ha20 hka20 ?_
      refine xg_iload_n (pc := 115) C dX1_knowTurns_115 1 rfl ?_
      obtain ⟨a21, ha21, hka21, hF⟩ := hF
      obtain ⟨hi, hF⟩ := hF
      refine xg_iald (pc := 116) C ha21 hka21 hi dX1_knowTurns_116 ?_
      refine xg_cnI (pc := 117) (host := "SandGlasses") C (fun zs => [.int (xg_i h a21 y1.toNatClampNeg)]) (by decide +kernel) (List.mem_of_getElem? (i := 51) rfl) (List.mem_of_getElem? (i := 50) rfl) (met_X11_lowest Y (xg_i h a21 y1.toNatClampNeg)) gX1_knowTurns_X11_lowest_n181 rfl ⟨rfl, rfl⟩ nd_X11_lowest.2 ⟨Nat.le_of_ble_eq_true rfl, Nat.le_of_ble_eq_true rfl⟩ rfl rfl (Nat.le_of_ble_eq_true rfl) ⟨Nat.zero_le _, Nat.zero_le _⟩ dX1_knowTurns_117 hF (fun r23 h22 hF => ?_)
      refine xg_istore_n (pc := 120) (lv2 := [(2, .int r23), (0, va_rf (some this)), (1, .int y1)]) C dX1_knowTurns_120 4 hnL (by decide) rfl ?_
      refine xg_iconst (pc := 121) (v := 1) C dX1_knowTurns_121 (by decide) ?_
      refine xg_istore_n (pc := 122) (lv2 := [(3, .int 1), (2, .int r23), (0, va_rf (some this)), (1, .int y1)]) C dX1_knowTurns_122 4 hnL (by decide) rfl ?_
      refine xg_sub (lv2 := [(0, va_rf (some this)), (1, .int y1), (2, .int r23), (3, .int 1)]) [2, 3, 1, 0] rfl ?_
      exact hF
  · intro y1 y2 y3 h hF
    refine xg_iload_n (pc := 123) C dX1_knowTurns_123 3 rfl ?_
    refine xg_bipush (pc := 124) (v := 30) C dX1_knowTurns_124 (by decide) ?_
    refine xg_icmp_gt (pc := 126) 172 C dX1_knowTurns_126 (by decide) (fun hc => ?_) (fun hc => ?_)
    · have hF := hF.1 hc
      refine xg_sub (lv2 := [(0, va_rf (some this)), (1, .int y1)]) [0, 1] rfl ?_
      exact hF
    · have hF := hF.2 hc
      refine xg_iload_n (pc := 129) C dX1_knowTurns_129 2 rfl ?_
      refine xg_iconst (pc := 130) (v := (-1)) C dX1_knowTurns_130 (by decide) ?_
      refine xg_icmp_eq (pc := 131) 172 C dX1_knowTurns_131 (by decide) (fun hc => ?_) (fun hc => ?_)
      · have hF := hF.1 hc
        refine xg_sub (lv2 := [(0, va_rf (some this)), (1, .int y1)]) [0, 1] rfl ?_
        exact hF
      · have hF := hF.2 hc
        refine xg_aload_n (pc := 134) C dX1_knowTurns_134 0 rfl ?_
        refine xg_getr (pc := 135) (C1 := RX1) (T1 := TX1) (ci := 1) (ref := "SandGlasses$Book") C inm_X1_knowTurns_1 rfl (by decide) 2 (by decide) rfl dX1_knowTurns_135 (List.mem_of_getElem? (i := 1) rfl) rfl rfl hthis ?_
        refine xg_iload_n (pc := 138) C dX1_knowTurns_138 1 rfl ?_
        refine xg_iload_n (pc := 139) C dX1_knowTurns_139 3 rfl ?_
        obtain ⟨a24, ha24, hka24, hF⟩ := hF
        refine xg_cvI (pc := 140) (C1 := RX3) (T1 := TX3) (ci := 3) C (fun zs => [.int y1, .int y3]) ha24 hka24 (by decide) rfl (met_X3_of Y a24 y1 y3) gX1_knowTurns_X3_of rfl ⟨rfl, rfl⟩ nd_X3_of ⟨Nat.le_of_ble_eq_true rfl, Nat.le_of_ble_eq_true rfl⟩ rfl rfl (Nat.le_of_ble_eq_true rfl) ⟨Nat.zero_le _, Nat.zero_le _⟩ dX1_knowTurns_140 hF (fun r26 h25 hF => ?_)
        refine xg_ldc (pc := 143) (v := 1000000) C dX1_knowTurns_143 (List.mem_of_getElem? (i := 7) rfl) ?_
        refine xg_icmp_ge (pc := 145) 166 C dX1_knowTurns_145 (by decide) (fun hc => ?_) (fun hc => ?_)
        · have hF := hF.1 hc
          exact hF
        · have hF := hF.2 hc
          refine xg_aload_n (pc := 148) C dX1_knowTurns_148 0 rfl ?_
          refine xg_getr (pc := 149) (C1 := RX1) (T1 := TX1) (ci := 1) (ref := "SandGlasses$Book") C inm_X1_knowTurns_1 rfl (by decide) 5 (by decide) rfl dX1_knowTurns_149 (List.mem_of_getElem? (i := 6) rfl) rfl rfl hthis ?_
          refine xg_iload_n (pc := 152) C dX1_knowTurns_152 3 rfl ?_
          refine xg_aload_n (pc := 153) C dX1_knowTurns_153 0 rfl ?_
          refine xg_getr (pc := 154) (C1 := RX1) (T1 := TX1) (ci := 1) (ref := "SandGlasses$Book") C inm_X1_knowTurns_1 rfl (by decide) 5 (by decide) rfl dX1_knowTurns_154 (List.mem_of_getElem? (i := 6) rfl) rfl rfl hthis ?_
          refine xg_iload_n (pc := 157) C dX1_knowTurns_157 3 rfl ?_
          obtain ⟨a27, ha27, hka27, hF⟩ := hF
          obtain ⟨hi, hF⟩ := hF
          refine xg_iald (pc := 158) C ha27 hka27 hi dX1_knowTurns_158 ?_
          refine xg_iload_n (pc := 159) C dX1_knowTurns_159 2 rfl ?_
          refine xg_iload_n (pc := 160) C dX1_knowTurns_160 3 rfl ?_
          refine xg_iadd (pc := 161) C dX1_knowTurns_161 ?_
          refine xg_mmin (pc := 162) C (List.mem_of_getElem? (i := 12) rfl) (List.mem_of_getElem? (i := 13) rfl) (List.mem_of_getElem? (i := 14) rfl) (List.mem_of_getElem? (i := 15) rfl) (Nat.le_of_ble_eq_true rfl) (by simp [xg_rf_cat, xg_cat_i, xg_cat_l, xg_cat_a, rm_X1_knowTurns]) (Nat.zero_le _) (Nat.zero_le _) dX1_knowTurns_162 ?_
          refine xg_topi (pc := 165) (fun z28 ez28 => ?_)
          have hF := hF z28 ez28
          obtain ⟨hi, hF⟩ := hF
          refine xg_iast (pc := 165) C ha27 hka27 hi dX1_knowTurns_165 (fun h29 eh29 => ?_)
          have hF := hF h29 eh29
          exact hF
  · intro y1 h hF
    obtain ⟨z30, ez30⟩ : ∃ y : Int32, y = y1 + 1 := ⟨_, rfl⟩
    have hF := hF z30 ez30
    refine xg_iinc (pc := 172) (v := z30) (lv2 := [(1, .int z30), (0, va_rf (some this))]) C dX1_knowTurns_172 1 rfl (by rw [ez30]; rfl) 4 hnL (by decide) rfl ?_
    refine xg_goto (pc := 175) 97 C dX1_knowTurns_175 (by decide) ?_
    refine xg_sub (lv2 := [(0, va_rf (some this)), (1, .int z30)]) [1, 0] rfl ?_
    exact hF
  · intro y1 y2 y3 h hF
    obtain ⟨z31, ez31⟩ : ∃ y : Int32, y = y3 + 1 := ⟨_, rfl⟩
    have hF := hF z31 ez31
    refine xg_iinc (pc := 166) (v := z31) (lv2 := [(3, .int z31), (0, va_rf (some this)), (1, .int y1), (2, .int y2)]) C dX1_knowTurns_166 3 rfl (by rw [ez31]; rfl) 4 hnL (by decide) rfl ?_
    refine xg_goto (pc := 169) 123 C dX1_knowTurns_169 (by decide) ?_
    refine xg_sub (lv2 := [(0, va_rf (some this)), (1, .int y1), (2, .int y2), (3, .int z31)]) [1, 2, 3, 0] rfl ?_
    exact hF
  · skip
    refine xg_iconst (pc := 0) (v := 0) C dX1_knowTurns_0 (by decide) ?_
    refine xg_istore_n (pc := 1) (lv2 := [(1, .int 0), (0, va_rf (some this))]) C dX1_knowTurns_1 4 hnL (by decide) rfl ?_
    refine xg_sub (lv2 := [(0, va_rf (some this)), (1, .int 0)]) [1, 0] rfl ?_
    exact hF
def rm_X1_fewestTurns : Room := { frames := 3, cells := 0, slots := 0, locals := 74 }
theorem nd_X1_fewestTurns : yX1_fewestTurns.cls = RX1 ∧ yX1_fewestTurns.cls ≠ "java/lang/invoke/MethodHandle" ∧ yX1_fewestTurns.cls ≠ "java/lang/invoke/VarHandle" ∧ (parseMethodDescriptor yX1_fewestTurns.desc).map (fun d => d.parameters.length) = some 1 := by decide +kernel
theorem inm_X1_fewestTurns_1 : ∀ w ∈ u_ws RX1 TX1 (xg_N 1), w ∈ wsX1_fewestTurns := fun _ h9 => List.mem_cons_of_mem _ (List.mem_append_left _ (List.mem_append_left _ (List.mem_append_right _ h9)))
set_option maxHeartbeats 4000000 in
set_option maxRecDepth 100000 in
theorem met_X1_fewestTurns (Y : xg_Y) (this : Nat) (x1 : Int32) : xg_MI yX1_fewestTurns wsX1_fewestTurns rm_X1_fewestTurns Y (fun zs => [va_rf (some this), .int x1]) (fun Q h => wp_X1_fewestTurns Y Q this x1 h) := by
  refine xg_startI (cc := cX1_fewestTurns) (maxL := 2) (own := RX1) (by decide) rfl rfl (fun zs => Nat.le_of_ble_eq_true rfl) (fun X Q h C hnL E hw => ?_)
  unfold wp_X1_fewestTurns at hw
  obtain ⟨hthis, hw⟩ := hw
  refine xg_sub (lv2 := [(0, va_rf (some this)), (1, .int x1)]) [0, 1] rfl ?_
  refine mg_use (hw (fun (h : xg_H) => xg_W X 0 0 Y 11 [(0, va_rf (some this)), (1, .int x1)] [] h) ?_) (fun hF => ?_)
  · intro h hF
    refine xg_aload_n (pc := 11) C dX1_fewestTurns_11 0 rfl ?_
    refine xg_getr (pc := 12) (C1 := RX1) (T1 := TX1) (ci := 1) (ref := "SandGlasses$Book") C inm_X1_fewestTurns_1 rfl (by decide) 3 (by decide) rfl dX1_fewestTurns_12 (List.mem_of_getElem? (i := 2) rfl) rfl rfl hthis ?_
    refine xg_iload_n (pc := 15) C dX1_fewestTurns_15 1 rfl ?_
    obtain ⟨a2, ha2, hka2, hF⟩ := hF
    obtain ⟨hi, hF⟩ := hF
    refine xg_iald (pc := 16) C ha2 hka2 hi dX1_fewestTurns_16 ?_
    exact xg_retI (pc := 17) C E dX1_fewestTurns_17 hF
  · skip
    refine xg_aload_n (pc := 0) C dX1_fewestTurns_0 0 rfl ?_
    refine xg_geti (pc := 1) (C1 := RX1) (T1 := TX1) (ci := 1) (ref := "SandGlasses$Book") C inm_X1_fewestTurns_1 rfl (by decide) 17 (by decide) rfl dX1_fewestTurns_1 (List.mem_of_getElem? (i := 1) rfl) rfl rfl hthis ?_
    refine xg_if_ne (pc := 4) 11 C dX1_fewestTurns_4 (by decide) (fun hc => ?_) (fun hc => ?_)
    · have hF := hF.1 hc
      exact hF
    · have hF := hF.2 hc
      refine xg_aload_n (pc := 7) C dX1_fewestTurns_7 0 rfl ?_
      refine xg_cvV (pc := 8) (C1 := RX1) (T1 := TX1) (ci := 1) C (fun zs => []) rfl hthis (by decide) rfl (met_X1_knowTurns Y this) gX1_fewestTurns_X1_knowTurns rfl ⟨rfl, rfl⟩ nd_X1_knowTurns ⟨Nat.le_of_ble_eq_true rfl, Nat.le_of_ble_eq_true rfl⟩ rfl rfl (Nat.le_of_ble_eq_true rfl) ⟨Nat.zero_le _, Nat.zero_le _⟩ dX1_fewestTurns_8 hF (fun h1 hF => ?_)
      exact hF
def rm_X1_dearest : Room := { frames := 4, cells := 0, slots := 0, locals := 95 }
theorem nd_X1_dearest : yX1_dearest.cls = RX1 ∧ yX1_dearest.cls ≠ "java/lang/invoke/MethodHandle" ∧ yX1_dearest.cls ≠ "java/lang/invoke/VarHandle" ∧ (parseMethodDescriptor yX1_dearest.desc).map (fun d => d.parameters.length) = some 0 := by decide +kernel
theorem inm_X1_dearest_1 : ∀ w ∈ u_ws RX1 TX1 (xg_N 1), w ∈ wsX1_dearest := fun _ h9 => List.mem_cons_of_mem _ (List.mem_append_left _ (List.mem_append_left _ (List.mem_append_right _ h9)))
set_option maxHeartbeats 4000000 in
set_option maxRecDepth 100000 in
theorem met_X1_dearest (Y : xg_Y) (this : Nat) : xg_MI yX1_dearest wsX1_dearest rm_X1_dearest Y (fun zs => [va_rf (some this)]) (fun Q h => wp_X1_dearest Y Q this h) := by
  refine xg_startI (cc := cX1_dearest) (maxL := 3) (own := RX1) (by decide) rfl rfl (fun zs => Nat.le_of_ble_eq_true rfl) (fun X Q h C hnL E hw => ?_)
  unfold wp_X1_dearest at hw
  obtain ⟨hthis, hw⟩ := hw
  refine xg_sub (lv2 := [(0, va_rf (some this))]) [0] rfl ?_
  refine mg_use (hw (fun (y1 : Int32) (y2 : Int32) (h : xg_H) => xg_W X 0 0 Y 4 [(0, va_rf (some this)), (1, .int y1), (2, .int y2)] [] h) (fun (y1 : Int32) (y2 : Int32) (h : xg_H) => xg_W X 0 0 Y 41 [(0, va_rf (some this)), (1, .int y1), (2, .int y2)] [] h) (fun (y2 : Int32) (h : xg_H) => xg_W X 0 0 Y 39 [(0, va_rf (some this)), (2, .int y2)] [] h) ?_ ?_ ?_) (fun hF => ?_)
  · intro y1 y2 h hF
    refine xg_iload_n (pc := 4) C dX1_dearest_4 2 rfl ?_
    refine xg_bipush (pc := 5) (v := 30) C dX1_dearest_5 (by decide) ?_
    refine xg_icmp_gt (pc := 7) 47 C dX1_dearest_7 (by decide) (fun hc => ?_) (fun hc => ?_)
    · have hF := hF.1 hc
      refine xg_iload_n (pc := 47) C dX1_dearest_47 1 rfl ?_
      exact xg_retI (pc := 48) C E dX1_dearest_48 hF
    · have hF := hF.2 hc
      refine xg_aload_n (pc := 10) C dX1_dearest_10 0 rfl ?_
      refine xg_geti (pc := 11) (C1 := RX1) (T1 := TX1) (ci := 1) (ref := "SandGlasses$Book") C inm_X1_dearest_1 rfl (by decide) 16 (by decide) rfl dX1_dearest_11 (List.mem_of_getElem? (i := 1) rfl) rfl rfl hthis ?_
      refine xg_iload_n (pc := 14) C dX1_dearest_14 2 rfl ?_
      refine xg_cnI (pc := 15) (host := "SandGlasses") C (fun zs => [.int (xg_i h this 16), .int y2]) (by decide +kernel) (List.mem_of_getElem? (i := 3) rfl) (List.mem_of_getElem? (i := 2) rfl) (met_X11_has Y (xg_i h this 16) y2) gX1_dearest_X11_has_n143 rfl ⟨rfl, rfl⟩ nd_X11_has.2 ⟨Nat.le_of_ble_eq_true rfl, Nat.le_of_ble_eq_true rfl⟩ rfl rfl (Nat.le_of_ble_eq_true rfl) ⟨Nat.zero_le _, Nat.zero_le _⟩ dX1_dearest_15 hF (fun r2 h1 hF => ?_)
      refine xg_if_eq (pc := 18) 41 C dX1_dearest_18 (by decide) (fun hc => ?_) (fun hc => ?_)
      · have hF := hF.1 hc
        exact hF
      · have hF := hF.2 hc
        refine xg_iload_n (pc := 21) C dX1_dearest_21 1 rfl ?_
        refine xg_iconst (pc := 22) (v := (-1)) C dX1_dearest_22 (by decide) ?_
        refine xg_icmp_eq (pc := 23) 39 C dX1_dearest_23 (by decide) (fun hc => ?_) (fun hc => ?_)
        · have hF := hF.1 hc
          refine xg_sub (lv2 := [(0, va_rf (some this)), (2, .int y2)]) [0, 2] rfl ?_
          exact hF
        · have hF := hF.2 hc
          refine xg_aload_n (pc := 26) C dX1_dearest_26 0 rfl ?_
          refine xg_iload_n (pc := 27) C dX1_dearest_27 2 rfl ?_
          refine xg_cvI (pc := 28) (C1 := RX1) (T1 := TX1) (ci := 1) C (fun zs => [.int y2]) rfl hthis (by decide) rfl (met_X1_fewestTurns Y this y2) gX1_dearest_X1_fewestTurns rfl ⟨rfl, rfl⟩ nd_X1_fewestTurns ⟨Nat.le_of_ble_eq_true rfl, Nat.le_of_ble_eq_true rfl⟩ rfl rfl (Nat.le_of_ble_eq_true rfl) ⟨Nat.zero_le _, Nat.zero_le _⟩ dX1_dearest_28 hF (fun r4 h3 hF => ?_)
          refine xg_aload_n (pc := 31) C dX1_dearest_31 0 rfl ?_
          refine xg_iload_n (pc := 32) C dX1_dearest_32 1 rfl ?_
          refine xg_cvI (pc := 33) (C1 := RX1) (T1 := TX1) (ci := 1) C (fun zs => [.int y1]) rfl hthis (by decide) rfl (met_X1_fewestTurns Y this y1) gX1_dearest_X1_fewestTurns rfl ⟨rfl, rfl⟩ nd_X1_fewestTurns ⟨Nat.le_of_ble_eq_true rfl, Nat.le_of_ble_eq_true rfl⟩ rfl rfl (Nat.le_of_ble_eq_true rfl) ⟨Nat.zero_le _, Nat.zero_le _⟩ dX1_dearest_33 hF (fun r6 h5 hF => ?_)
          refine xg_icmp_le (pc := 36) 41 C dX1_dearest_36 (by decide) (fun hc => ?_) (fun hc => ?_)
          · have hF := hF.1 hc
            exact hF
          · have hF := hF.2 hc
            refine xg_sub (lv2 := [(0, va_rf (some this)), (2, .int y2)]) [0, 2] rfl ?_
            exact hF
  · intro y1 y2 h hF
    obtain ⟨z7, ez7⟩ : ∃ y : Int32, y = y2 + 1 := ⟨_, rfl⟩
    have hF := hF z7 ez7
    refine xg_iinc (pc := 41) (v := z7) (lv2 := [(2, .int z7), (0, va_rf (some this)), (1, .int y1)]) C dX1_dearest_41 2 rfl (by rw [ez7]; rfl) 3 hnL (by decide) rfl ?_
    refine xg_goto (pc := 44) 4 C dX1_dearest_44 (by decide) ?_
    refine xg_sub (lv2 := [(0, va_rf (some this)), (1, .int y1), (2, .int z7)]) [1, 2, 0] rfl ?_
    exact hF
  · intro y2 h hF
    refine xg_iload_n (pc := 39) C dX1_dearest_39 1 rfl ?_
    refine xg_istore_n (pc := 40) (lv2 := [(1, .int y2), (0, va_rf (some this)), (2, .int y2)]) C dX1_dearest_40 3 hnL (by decide) rfl ?_
    refine xg_sub (lv2 := [(0, va_rf (some this)), (1, .int y2), (2, .int y2)]) [1, 0, 2] rfl ?_
    exact hF
  · skip
    refine xg_iconst (pc := 0) (v := (-1)) C dX1_dearest_0 (by decide) ?_
    refine xg_istore_n (pc := 1) (lv2 := [(1, .int (-1)), (0, va_rf (some this))]) C dX1_dearest_1 3 hnL (by decide) rfl ?_
    refine xg_iconst (pc := 2) (v := 1) C dX1_dearest_2 (by decide) ?_
    refine xg_istore_n (pc := 3) (lv2 := [(2, .int 1), (1, .int (-1)), (0, va_rf (some this))]) C dX1_dearest_3 3 hnL (by decide) rfl ?_
    refine xg_sub (lv2 := [(0, va_rf (some this)), (1, .int (-1)), (2, .int 1)]) [2, 1, 0] rfl ?_
    exact hF
def rm_X1_toldFree : Room := { frames := 4, cells := 0, slots := 0, locals := 95 }
theorem nd_X1_toldFree : yX1_toldFree.cls = RX1 ∧ yX1_toldFree.cls ≠ "java/lang/invoke/MethodHandle" ∧ yX1_toldFree.cls ≠ "java/lang/invoke/VarHandle" ∧ (parseMethodDescriptor yX1_toldFree.desc).map (fun d => d.parameters.length) = some 0 := by decide +kernel
theorem inm_X1_toldFree_1 : ∀ w ∈ u_ws RX1 TX1 (xg_N 1), w ∈ wsX1_toldFree := fun _ h9 => List.mem_cons_of_mem _ (List.mem_append_left _ (List.mem_append_left _ (List.mem_append_right _ h9)))
set_option maxHeartbeats 4000000 in
set_option maxRecDepth 100000 in
theorem met_X1_toldFree (Y : xg_Y) (this : Nat) : xg_MI yX1_toldFree wsX1_toldFree rm_X1_toldFree Y (fun zs => [va_rf (some this)]) (fun Q h => wp_X1_toldFree Y Q this h) := by
  refine xg_startI (cc := cX1_toldFree) (maxL := 3) (own := RX1) (by decide) rfl rfl (fun zs => Nat.le_of_ble_eq_true rfl) (fun X Q h C hnL E hw => ?_)
  unfold wp_X1_toldFree at hw
  obtain ⟨hthis, hw⟩ := hw
  refine xg_sub (lv2 := [(0, va_rf (some this))]) [0] rfl ?_
  refine mg_use (hw (fun (y1 : Int32) (y2 : Int32) (h : xg_H) => xg_W X 0 0 Y 4 [(0, va_rf (some this)), (1, .int y1), (2, .int y2)] [] h) (fun (y1 : Int32) (y2 : Int32) (h : xg_H) => xg_W X 0 0 Y 35 [(0, va_rf (some this)), (1, .int y1), (2, .int y2)] [] h) ?_ ?_) (fun hF => ?_)
  · intro y1 y2 h hF
    refine xg_iload_n (pc := 4) C dX1_toldFree_4 2 rfl ?_
    refine xg_bipush (pc := 5) (v := 30) C dX1_toldFree_5 (by decide) ?_
    refine xg_icmp_gt (pc := 7) 41 C dX1_toldFree_7 (by decide) (fun hc => ?_) (fun hc => ?_)
    · have hF := hF.1 hc
      refine xg_iload_n (pc := 41) C dX1_toldFree_41 1 rfl ?_
      exact xg_retI (pc := 42) C E dX1_toldFree_42 hF
    · have hF := hF.2 hc
      refine xg_aload_n (pc := 10) C dX1_toldFree_10 0 rfl ?_
      refine xg_geti (pc := 11) (C1 := RX1) (T1 := TX1) (ci := 1) (ref := "SandGlasses$Book") C inm_X1_toldFree_1 rfl (by decide) 16 (by decide) rfl dX1_toldFree_11 (List.mem_of_getElem? (i := 1) rfl) rfl rfl hthis ?_
      refine xg_iload_n (pc := 14) C dX1_toldFree_14 2 rfl ?_
      refine xg_cnI (pc := 15) (host := "SandGlasses") C (fun zs => [.int (xg_i h this 16), .int y2]) (by decide +kernel) (List.mem_of_getElem? (i := 3) rfl) (List.mem_of_getElem? (i := 2) rfl) (met_X11_has Y (xg_i h this 16) y2) gX1_toldFree_X11_has_n143 rfl ⟨rfl, rfl⟩ nd_X11_has.2 ⟨Nat.le_of_ble_eq_true rfl, Nat.le_of_ble_eq_true rfl⟩ rfl rfl (Nat.le_of_ble_eq_true rfl) ⟨Nat.zero_le _, Nat.zero_le _⟩ dX1_toldFree_15 hF (fun r2 h1 hF => ?_)
      refine xg_if_eq (pc := 18) 35 C dX1_toldFree_18 (by decide) (fun hc => ?_) (fun hc => ?_)
      · have hF := hF.1 hc
        exact hF
      · have hF := hF.2 hc
        refine xg_aload_n (pc := 21) C dX1_toldFree_21 0 rfl ?_
        refine xg_iload_n (pc := 22) C dX1_toldFree_22 2 rfl ?_
        refine xg_cvI (pc := 23) (C1 := RX1) (T1 := TX1) (ci := 1) C (fun zs => [.int y2]) rfl hthis (by decide) rfl (met_X1_fewestTurns Y this y2) gX1_toldFree_X1_fewestTurns rfl ⟨rfl, rfl⟩ nd_X1_fewestTurns ⟨Nat.le_of_ble_eq_true rfl, Nat.le_of_ble_eq_true rfl⟩ rfl rfl (Nat.le_of_ble_eq_true rfl) ⟨Nat.zero_le _, Nat.zero_le _⟩ dX1_toldFree_23 hF (fun r4 h3 hF => ?_)
        refine xg_if_ne (pc := 26) 35 C dX1_toldFree_26 (by decide) (fun hc => ?_) (fun hc => ?_)
        · have hF := hF.1 hc
          exact hF
        · have hF := hF.2 hc
          refine xg_iload_n (pc := 29) C dX1_toldFree_29 1 rfl ?_
          refine xg_iconst (pc := 30) (v := 1) C dX1_toldFree_30 (by decide) ?_
          refine xg_iload_n (pc := 31) C dX1_toldFree_31 2 rfl ?_
          refine xg_ishl (pc := 32) C dX1_toldFree_32 ?_
          refine xg_ior (pc := 33) C dX1_toldFree_33 ?_
          refine xg_topi (pc := 34) (fun z5 ez5 => ?_)
          have hF := hF z5 ez5
          refine xg_istore_n (pc := 34) (lv2 := [(1, .int z5), (0, va_rf (some this)), (2, .int y2)]) C dX1_toldFree_34 3 hnL (by decide) rfl ?_
          refine xg_sub (lv2 := [(0, va_rf (some this)), (1, .int z5), (2, .int y2)]) [1, 0, 2] rfl ?_
          exact hF
  · intro y1 y2 h hF
    obtain ⟨z6, ez6⟩ : ∃ y : Int32, y = y2 + 1 := ⟨_, rfl⟩
    have hF := hF z6 ez6
    refine xg_iinc (pc := 35) (v := z6) (lv2 := [(2, .int z6), (0, va_rf (some this)), (1, .int y1)]) C dX1_toldFree_35 2 rfl (by rw [ez6]; rfl) 3 hnL (by decide) rfl ?_
    refine xg_goto (pc := 38) 4 C dX1_toldFree_38 (by decide) ?_
    refine xg_sub (lv2 := [(0, va_rf (some this)), (1, .int y1), (2, .int z6)]) [1, 2, 0] rfl ?_
    exact hF
  · skip
    refine xg_iconst (pc := 0) (v := 0) C dX1_toldFree_0 (by decide) ?_
    refine xg_istore_n (pc := 1) (lv2 := [(1, .int 0), (0, va_rf (some this))]) C dX1_toldFree_1 3 hnL (by decide) rfl ?_
    refine xg_iconst (pc := 2) (v := 1) C dX1_toldFree_2 (by decide) ?_
    refine xg_istore_n (pc := 3) (lv2 := [(2, .int 1), (1, .int 0), (0, va_rf (some this))]) C dX1_toldFree_3 3 hnL (by decide) rfl ?_
    refine xg_sub (lv2 := [(0, va_rf (some this)), (1, .int 0), (2, .int 1)]) [2, 1, 0] rfl ?_
    exact hF
def rm_X11_ofTimes : Room := { frames := 5, cells := 0, slots := 0, locals := 117 }
theorem nd_X11_ofTimes : yX11_ofTimes.cls = RX11 ∧ yX11_ofTimes.cls ≠ "java/lang/invoke/MethodHandle" ∧ yX11_ofTimes.cls ≠ "java/lang/invoke/VarHandle" ∧ (parseMethodDescriptor yX11_ofTimes.desc).map (fun d => d.parameters.length) = some 2 := by decide +kernel
set_option maxHeartbeats 4000000 in
set_option maxRecDepth 100000 in
theorem met_X11_ofTimes (Y : xg_Y) (x0 : Option Nat) (x1 : Int32) : xg_MI yX11_ofTimes wsX11_ofTimes rm_X11_ofTimes Y (fun zs => [va_rf x0, .int x1]) (fun Q h => wp_X11_ofTimes Y Q x0 x1 h) := by
  refine xg_startI (cc := cX11_ofTimes) (maxL := 3) (own := RX11) (by decide) rfl rfl (fun zs => by cases x0 <;> exact Nat.le_of_ble_eq_true rfl) (fun X Q h C hnL E hw => ?_)
  unfold wp_X11_ofTimes at hw
  refine xg_sub (lv2 := [(0, va_rf x0), (1, .int x1)]) [0, 1] (by cases x0 <;> rfl) ?_
  have hF := hw
  refine xg_aload_n (pc := 0) C dX11_ofTimes_0 0 rfl ?_
  obtain ⟨a1, ha1, hka1, hF⟩ := hF
  refine xg_cvI (pc := 1) (C1 := RX1) (T1 := TX1) (ci := 1) C (fun zs => []) ha1 hka1 (by decide) rfl (met_X1_told Y a1) gX11_ofTimes_X1_told rfl ⟨rfl, rfl⟩ nd_X1_told ⟨Nat.le_of_ble_eq_true rfl, Nat.le_of_ble_eq_true rfl⟩ rfl rfl (Nat.le_of_ble_eq_true rfl) ⟨Nat.zero_le _, Nat.zero_le _⟩ dX11_ofTimes_1 hF (fun r3 h2 hF => ?_)
  refine xg_istore_n (pc := 4) (lv2 := [(2, .int r3), (0, va_rf x0), (1, .int x1)]) C dX11_ofTimes_4 3 hnL (by decide) rfl ?_
  refine xg_iload_n (pc := 5) C dX11_ofTimes_5 2 rfl ?_
  by_cases hs0 : x1 = 0
  · have hF := hF.1 hs0
    refine xg_tabIn (pc := 6) 52 C dX11_ofTimes_6 (by rw [hs0]; decide) (by rw [hs0]; decide) (off := 46) (by rw [hs0]; rfl) (by decide) ?_
    refine xg_iload_n (pc := 52) C dX11_ofTimes_52 0 rfl ?_
    exact xg_retI (pc := 53) C E dX11_ofTimes_53 hF
  have hF := hF.2
  by_cases hs1 : x1 = 1
  · have hF := hF.1 hs1
    refine xg_tabIn (pc := 6) 54 C dX11_ofTimes_6 (by rw [hs1]; decide) (by rw [hs1]; decide) (off := 48) (by rw [hs1]; rfl) (by decide) ?_
    refine xg_aload_n (pc := 54) C dX11_ofTimes_54 1 rfl ?_
    refine xg_ldcw (pc := 55) (v := 2147483647) C dX11_ofTimes_55 (List.mem_of_getElem? (i := 1) rfl) ?_
    refine xg_cvI (pc := 58) (C1 := RX1) (T1 := TX1) (ci := 1) C (fun zs => [.int 2147483647]) ha1 hka1 (by decide) rfl (met_X1_rowsWithin Y a1 2147483647) gX11_ofTimes_X1_rowsWithin rfl ⟨rfl, rfl⟩ nd_X1_rowsWithin ⟨Nat.le_of_ble_eq_true rfl, Nat.le_of_ble_eq_true rfl⟩ rfl rfl (Nat.le_of_ble_eq_true rfl) ⟨Nat.zero_le _, Nat.zero_le _⟩ dX11_ofTimes_58 hF (fun r5 h4 hF => ?_)
    exact xg_retI (pc := 61) C E dX11_ofTimes_61 hF
  have hF := hF.2
  by_cases hs2 : x1 = 2
  · have hF := hF.1 hs2
    refine xg_tabIn (pc := 6) 62 C dX11_ofTimes_6 (by rw [hs2]; decide) (by rw [hs2]; decide) (off := 56) (by rw [hs2]; rfl) (by decide) ?_
    refine xg_iload_n (pc := 62) C dX11_ofTimes_62 0 rfl ?_
    refine xg_csI (pc := 63) C (fun zs => [.int r3]) (met_X11_lowest Y r3) gX11_ofTimes_X11_lowest rfl ⟨rfl, rfl⟩ nd_X11_lowest.2 ⟨Nat.le_of_ble_eq_true rfl, Nat.le_of_ble_eq_true rfl⟩ rfl rfl (Nat.le_of_ble_eq_true rfl) ⟨Nat.zero_le _, Nat.zero_le _⟩ dX11_ofTimes_63 hF (fun r7 h6 hF => ?_)
    exact xg_retI (pc := 66) C E dX11_ofTimes_66 hF
  have hF := hF.2
  by_cases hs3 : x1 = 3
  · have hF := hF.1 hs3
    refine xg_tabIn (pc := 6) 67 C dX11_ofTimes_6 (by rw [hs3]; decide) (by rw [hs3]; decide) (off := 61) (by rw [hs3]; rfl) (by decide) ?_
    refine xg_iload_n (pc := 67) C dX11_ofTimes_67 0 rfl ?_
    refine xg_csI (pc := 68) C (fun zs => [.int r3]) (met_X11_highest Y r3) gX11_ofTimes_X11_highest rfl ⟨rfl, rfl⟩ nd_X11_highest.2 ⟨Nat.le_of_ble_eq_true rfl, Nat.le_of_ble_eq_true rfl⟩ rfl rfl (Nat.le_of_ble_eq_true rfl) ⟨Nat.zero_le _, Nat.zero_le _⟩ dX11_ofTimes_68 hF (fun r9 h8 hF => ?_)
    exact xg_retI (pc := 71) C E dX11_ofTimes_71 hF
  have hF := hF.2
  by_cases hs4 : x1 = 4
  · have hF := hF.1 hs4
    refine xg_tabIn (pc := 6) 72 C dX11_ofTimes_6 (by rw [hs4]; decide) (by rw [hs4]; decide) (off := 66) (by rw [hs4]; rfl) (by decide) ?_
    refine xg_ldcw (pc := 72) (v := 2147483647) C dX11_ofTimes_72 (List.mem_of_getElem? (i := 1) rfl) ?_
    refine xg_iload_n (pc := 75) C dX11_ofTimes_75 0 rfl ?_
    refine xg_iconst (pc := 76) (v := (-1)) C dX11_ofTimes_76 (by decide) ?_
    refine xg_ixor (pc := 77) C dX11_ofTimes_77 ?_
    refine xg_iand (pc := 78) C dX11_ofTimes_78 ?_
    refine xg_bipush (pc := 79) (v := (-2)) C dX11_ofTimes_79 (by decide) ?_
    refine xg_iand (pc := 81) C dX11_ofTimes_81 ?_
    refine xg_csI (pc := 82) C (fun zs => [.int ((2147483647 &&& (r3 ^^^ (-1))) &&& (-2))]) (met_X11_lowest Y ((2147483647 &&& (r3 ^^^ (-1))) &&& (-2))) gX11_ofTimes_X11_lowest rfl ⟨rfl, rfl⟩ nd_X11_lowest.2 ⟨Nat.le_of_ble_eq_true rfl, Nat.le_of_ble_eq_true rfl⟩ rfl rfl (Nat.le_of_ble_eq_true rfl) ⟨Nat.zero_le _, Nat.zero_le _⟩ dX11_ofTimes_82 hF (fun r11 h10 hF => ?_)
    exact xg_retI (pc := 85) C E dX11_ofTimes_85 hF
  have hF := hF.2
  by_cases hs5 : x1 = 5
  · have hF := hF.1 hs5
    refine xg_tabIn (pc := 6) 86 C dX11_ofTimes_6 (by rw [hs5]; decide) (by rw [hs5]; decide) (off := 80) (by rw [hs5]; rfl) (by decide) ?_
    refine xg_iload_n (pc := 86) C dX11_ofTimes_86 0 rfl ?_
    refine xg_csI (pc := 87) C (fun zs => [.int r3]) (met_X11_longestRow Y r3) gX11_ofTimes_X11_longestRow rfl ⟨rfl, rfl⟩ nd_X11_longestRow.2 ⟨Nat.le_of_ble_eq_true rfl, Nat.le_of_ble_eq_true rfl⟩ rfl rfl (Nat.le_of_ble_eq_true rfl) ⟨Nat.zero_le _, Nat.zero_le _⟩ dX11_ofTimes_87 hF (fun r13 h12 hF => ?_)
    exact xg_retI (pc := 90) C E dX11_ofTimes_90 hF
  have hF := hF.2
  by_cases hs6 : x1 = 6
  · have hF := hF.1 hs6
    refine xg_tabIn (pc := 6) 91 C dX11_ofTimes_6 (by rw [hs6]; decide) (by rw [hs6]; decide) (off := 85) (by rw [hs6]; rfl) (by decide) ?_
    refine xg_aload_n (pc := 91) C dX11_ofTimes_91 1 rfl ?_
    refine xg_cvI (pc := 92) (C1 := RX1) (T1 := TX1) (ci := 1) C (fun zs => []) ha1 hka1 (by decide) rfl (met_X1_dearest Y a1) gX11_ofTimes_X1_dearest rfl ⟨rfl, rfl⟩ nd_X1_dearest ⟨Nat.le_of_ble_eq_true rfl, Nat.le_of_ble_eq_true rfl⟩ rfl rfl (Nat.le_of_ble_eq_true rfl) ⟨Nat.zero_le _, Nat.zero_le _⟩ dX11_ofTimes_92 hF (fun r15 h14 hF => ?_)
    exact xg_retI (pc := 95) C E dX11_ofTimes_95 hF
  have hF := hF.2
  by_cases hs7 : x1 = 7
  · have hF := hF.1 hs7
    refine xg_tabIn (pc := 6) 96 C dX11_ofTimes_6 (by rw [hs7]; decide) (by rw [hs7]; decide) (off := 90) (by rw [hs7]; rfl) (by decide) ?_
    refine xg_aload_n (pc := 96) C dX11_ofTimes_96 1 rfl ?_
    refine xg_cvI (pc := 97) (C1 := RX1) (T1 := TX1) (ci := 1) C (fun zs => []) ha1 hka1 (by decide) rfl (met_X1_dearest Y a1) gX11_ofTimes_X1_dearest rfl ⟨rfl, rfl⟩ nd_X1_dearest ⟨Nat.le_of_ble_eq_true rfl, Nat.le_of_ble_eq_true rfl⟩ rfl rfl (Nat.le_of_ble_eq_true rfl) ⟨Nat.zero_le _, Nat.zero_le _⟩ dX11_ofTimes_97 hF (fun r17 h16 hF => ?_)
    refine xg_iconst (pc := 100) (v := (-1)) C dX11_ofTimes_100 (by decide) ?_
    refine xg_icmp_ne (pc := 101) 108 C dX11_ofTimes_101 (by decide) (fun hc => ?_) (fun hc => ?_)
    · have hF := hF.1 hc
      refine xg_aload_n (pc := 108) C dX11_ofTimes_108 1 rfl ?_
      refine xg_aload_n (pc := 109) C dX11_ofTimes_109 1 rfl ?_
      refine xg_cvI (pc := 110) (C1 := RX1) (T1 := TX1) (ci := 1) C (fun zs => []) ha1 hka1 (by decide) rfl (met_X1_dearest Y a1) gX11_ofTimes_X1_dearest rfl ⟨rfl, rfl⟩ nd_X1_dearest ⟨Nat.le_of_ble_eq_true rfl, Nat.le_of_ble_eq_true rfl⟩ rfl rfl (by simp [xg_rf_cat, xg_cat_i, xg_cat_l, xg_cat_a]) ⟨Nat.zero_le _, Nat.zero_le _⟩ dX11_ofTimes_110 hF (fun r19 h18 hF => ?_)
      refine xg_cvI (pc := 113) (C1 := RX1) (T1 := TX1) (ci := 1) C (fun zs => [.int r19]) ha1 hka1 (by decide) rfl (met_X1_fewestTurns Y a1 r19) gX11_ofTimes_X1_fewestTurns rfl ⟨rfl, rfl⟩ nd_X1_fewestTurns ⟨Nat.le_of_ble_eq_true rfl, Nat.le_of_ble_eq_true rfl⟩ rfl rfl (Nat.le_of_ble_eq_true rfl) ⟨Nat.zero_le _, Nat.zero_le _⟩ dX11_ofTimes_113 hF (fun r21 h20 hF => ?_)
      exact xg_retI (pc := 116) C E dX11_ofTimes_116 hF
    · have hF := hF.2 hc
      refine xg_iconst (pc := 104) (v := 0) C dX11_ofTimes_104 (by decide) ?_
      refine xg_goto (pc := 105) 116 C dX11_ofTimes_105 (by decide) ?_
      exact xg_retI (pc := 116) C E dX11_ofTimes_116 hF
  have hF := hF.2
  have hF := hF hs0 hs1 hs2 hs3 hs4 hs5 hs6 hs7
  refine xg_tabOut (pc := 6) 117 C dX11_ofTimes_6 (mg_swd x1 0 7 (fun v h1 h2 => ?_)) (by decide) ?_
  · rcases (show v = 0 ∨ v = 1 ∨ v = 2 ∨ v = 3 ∨ v = 4 ∨ v = 5 ∨ v = 6 ∨ v = 7 by omega) with rfl | rfl | rfl | rfl | rfl | rfl | rfl | rfl
    · exact hs0
    · exact hs1
    · exact hs2
    · exact hs3
    · exact hs4
    · exact hs5
    · exact hs6
    · exact hs7
  refine xg_aload_n (pc := 117) C dX11_ofTimes_117 1 rfl ?_
  refine xg_cvI (pc := 118) (C1 := RX1) (T1 := TX1) (ci := 1) C (fun zs => []) ha1 hka1 (by decide) rfl (met_X1_toldFree Y a1) gX11_ofTimes_X1_toldFree rfl ⟨rfl, rfl⟩ nd_X1_toldFree ⟨Nat.le_of_ble_eq_true rfl, Nat.le_of_ble_eq_true rfl⟩ rfl rfl (Nat.le_of_ble_eq_true rfl) ⟨Nat.zero_le _, Nat.zero_le _⟩ dX11_ofTimes_118 hF (fun r23 h22 hF => ?_)
  exact xg_retI (pc := 121) C E dX11_ofTimes_121 hF
def rm_X11_order : Room := { frames := 1, cells := 0, slots := 0, locals := 22 }
theorem nd_X11_order : yX11_order.cls = RX11 ∧ yX11_order.cls ≠ "java/lang/invoke/MethodHandle" ∧ yX11_order.cls ≠ "java/lang/invoke/VarHandle" ∧ (parseMethodDescriptor yX11_order.desc).map (fun d => d.parameters.length) = some 2 := by decide +kernel
theorem inm_X11_order_8 : ∀ w ∈ u_ws RX8 TX8 (xg_N 8), w ∈ wsX11_order := fun _ h9 => List.mem_cons_of_mem _ (List.mem_append_left _ (List.mem_append_right _ h9))
theorem inm_X11_order_11 : ∀ w ∈ u_ws RX11 TX11 (xg_N 11), w ∈ wsX11_order := fun _ h9 => List.mem_cons_of_mem _ (List.mem_append_left _ (List.mem_append_left _ (List.mem_append_right _ h9)))
set_option maxHeartbeats 4000000 in
set_option maxRecDepth 100000 in
theorem met_X11_order (Y : xg_Y) (this : Nat) (x1 : Int32) (x2 : Int32) : xg_MI yX11_order wsX11_order rm_X11_order Y (fun zs => [va_rf (some this), .int x1, .int x2]) (fun Q h => wp_X11_order Y Q this x1 x2 h) := by
  refine xg_startI (cc := cX11_order) (maxL := 4) (own := RX11) (by decide) rfl rfl (fun zs => Nat.le_of_ble_eq_true rfl) (fun X Q h C hnL E hw => ?_)
  unfold wp_X11_order at hw
  obtain ⟨hthis, hw⟩ := hw
  refine xg_sub (lv2 := [(0, va_rf (some this)), (1, .int x1), (2, .int x2)]) [0, 1, 2] rfl ?_
  have hF := hw
  refine xg_aload_n (pc := 0) C dX11_order_0 0 rfl ?_
  refine xg_getr (pc := 1) (C1 := RX11) (T1 := TX11) (ci := 11) (ref := "SandGlasses") C inm_X11_order_11 rfl (by decide) 0 (by decide) rfl dX11_order_1 (List.mem_of_getElem? (i := 1) rfl) rfl rfl hthis ?_
  refine xg_iconst (pc := 4) (v := 3) C dX11_order_4 (by decide) ?_
  refine xg_iload_n (pc := 5) C dX11_order_5 1 rfl ?_
  obtain ⟨a1, ha1, hka1, hF⟩ := hF
  refine xg_cvR (pc := 6) (C1 := RX9) (T1 := TX9) (ci := 9) C (fun zs => [.int 3, .int x1]) ha1 hka1 (by decide) rfl (met_X9_find Y a1 3 x1) gX11_order_X9_find rfl ⟨rfl, rfl⟩ nd_X9_find ⟨Nat.le_of_ble_eq_true rfl, Nat.le_of_ble_eq_true rfl⟩ rfl rfl (Nat.le_of_ble_eq_true rfl) ⟨Nat.zero_le _, Nat.zero_le _⟩ dX11_order_6 hF (fun r3 h2 hF => ?_)
  refine xg_astore_n (pc := 9) (lv2 := [(3, va_rf r3), (0, va_rf (some this)), (1, .int x1), (2, .int x2)]) C dX11_order_9 4 hnL (by decide) rfl ?_
  refine xg_aload_n (pc := 10) C dX11_order_10 0 rfl ?_
  refine xg_ifnonnull (pc := 11) 16 C dX11_order_11 (by decide) (fun a4 ha4 => ?_) (fun hc => ?_)
  · have hF := hF.2 a4 ha4
    refine xg_iload_n (pc := 16) C dX11_order_16 3 rfl ?_
    refine xg_iconst (pc := 17) (v := (-1)) C dX11_order_17 (by decide) ?_
    refine xg_icmp_ne (pc := 18) 26 C dX11_order_18 (by decide) (fun hc => ?_) (fun hc => ?_)
    · have hF := hF.1 hc
      refine xg_iload_n (pc := 26) C dX11_order_26 3 rfl ?_
      refine xg_if_lt (pc := 27) 47 C dX11_order_27 (by decide) (fun hc => ?_) (fun hc => ?_)
      · have hF := hF.1 hc
        refine xg_iconst (pc := 47) (v := (-1)) C dX11_order_47 (by decide) ?_
        exact xg_retI (pc := 48) C E dX11_order_48 hF
      · have hF := hF.2 hc
        refine xg_iload_n (pc := 30) C dX11_order_30 3 rfl ?_
        refine xg_aload_n (pc := 31) C dX11_order_31 0 rfl ?_
        obtain ⟨hk5, hF⟩ := hF
        refine xg_geti (pc := 32) (C1 := RX8) (T1 := TX8) (ci := 8) (ref := "SandGlasses$Text") C inm_X11_order_8 rfl (by decide) 0 (by decide) rfl dX11_order_32 (List.mem_of_getElem? (i := 2) rfl) rfl ha4 hk5 ?_
        refine xg_icmp_ge (pc := 35) 47 C dX11_order_35 (by decide) (fun hc => ?_) (fun hc => ?_)
        · have hF := hF.1 hc
          refine xg_iconst (pc := 47) (v := (-1)) C dX11_order_47 (by decide) ?_
          exact xg_retI (pc := 48) C E dX11_order_48 hF
        · have hF := hF.2 hc
          refine xg_aload_n (pc := 38) C dX11_order_38 0 rfl ?_
          refine xg_getr (pc := 39) (C1 := RX8) (T1 := TX8) (ci := 8) (ref := "SandGlasses$Text") C inm_X11_order_8 rfl (by decide) 1 (by decide) rfl dX11_order_39 (List.mem_of_getElem? (i := 3) rfl) rfl ha4 hk5 ?_
          refine xg_iload_n (pc := 42) C dX11_order_42 3 rfl ?_
          obtain ⟨a6, ha6, hka6, hF⟩ := hF
          obtain ⟨hi, hF⟩ := hF
          refine xg_iald (pc := 43) C ha6 hka6 hi dX11_order_43 ?_
          refine xg_goto (pc := 44) 48 C dX11_order_44 (by decide) ?_
          exact xg_retI (pc := 48) C E dX11_order_48 hF
    · have hF := hF.2 hc
      refine xg_aload_n (pc := 21) C dX11_order_21 0 rfl ?_
      obtain ⟨hk7, hF⟩ := hF
      refine xg_geti (pc := 22) (C1 := RX8) (T1 := TX8) (ci := 8) (ref := "SandGlasses$Text") C inm_X11_order_8 rfl (by decide) 0 (by decide) rfl dX11_order_22 (List.mem_of_getElem? (i := 2) rfl) rfl ha4 hk7 ?_
      exact xg_retI (pc := 25) C E dX11_order_25 hF
  · have hF := hF.1 hc
    refine xg_iconst (pc := 14) (v := (-1)) C dX11_order_14 (by decide) ?_
    exact xg_retI (pc := 15) C E dX11_order_15 hF
def rm_X4_allTurned : Room := { frames := 3, cells := 0, slots := 0, locals := 69 }
theorem nd_X4_allTurned : yX4_allTurned.cls = RX4 ∧ yX4_allTurned.cls ≠ "java/lang/invoke/MethodHandle" ∧ yX4_allTurned.cls ≠ "java/lang/invoke/VarHandle" ∧ (parseMethodDescriptor yX4_allTurned.desc).map (fun d => d.parameters.length) = some 1 := by decide +kernel
theorem inm_X4_allTurned_4 : ∀ w ∈ u_ws RX4 TX4 (xg_N 4), w ∈ wsX4_allTurned := fun _ h9 => List.mem_cons_of_mem _ (List.mem_append_left _ (List.mem_append_right _ h9))
set_option maxHeartbeats 4000000 in
set_option maxRecDepth 100000 in
theorem met_X4_allTurned (Y : xg_Y) (this : Nat) (x1 : Int32) : xg_MI yX4_allTurned wsX4_allTurned rm_X4_allTurned Y (fun zs => [va_rf (some this), .int x1]) (fun Q h => wp_X4_allTurned Y Q this x1 h) := by
  refine xg_startI (cc := cX4_allTurned) (maxL := 2) (own := RX4) (by decide) rfl rfl (fun zs => Nat.le_of_ble_eq_true rfl) (fun X Q h C hnL E hw => ?_)
  unfold wp_X4_allTurned at hw
  obtain ⟨hthis, hw⟩ := hw
  refine xg_sub (lv2 := [(0, va_rf (some this)), (1, .int x1)]) [0, 1] rfl ?_
  have hF := hw
  refine xg_aload_n (pc := 0) C dX4_allTurned_0 0 rfl ?_
  refine xg_getr (pc := 1) (C1 := RX4) (T1 := TX4) (ci := 4) (ref := "SandGlasses$Game") C inm_X4_allTurned_4 rfl (by decide) 3 (by decide) rfl dX4_allTurned_1 (List.mem_of_getElem? (i := 1) rfl) rfl rfl hthis ?_
  refine xg_aload_n (pc := 4) C dX4_allTurned_4 0 rfl ?_
  refine xg_geti (pc := 5) (C1 := RX4) (T1 := TX4) (ci := 4) (ref := "SandGlasses$Game") C inm_X4_allTurned_4 rfl (by decide) 5 (by decide) rfl dX4_allTurned_5 (List.mem_of_getElem? (i := 2) rfl) rfl rfl hthis ?_
  refine xg_iload_n (pc := 8) C dX4_allTurned_8 1 rfl ?_
  refine xg_isub (pc := 9) C dX4_allTurned_9 ?_
  obtain ⟨a1, ha1, hka1, hF⟩ := hF
  refine xg_cvI (pc := 10) (C1 := RX7) (T1 := TX7) (ci := 7) C (fun zs => [.int ((xg_i h this 5) - x1)]) ha1 hka1 (by decide) rfl (met_X7_from Y a1 ((xg_i h this 5) - x1)) gX4_allTurned_X7_from rfl ⟨rfl, rfl⟩ nd_X7_from ⟨Nat.le_of_ble_eq_true rfl, Nat.le_of_ble_eq_true rfl⟩ rfl rfl (Nat.le_of_ble_eq_true rfl) ⟨Nat.zero_le _, Nat.zero_le _⟩ dX4_allTurned_10 hF (fun r3 h2 hF => ?_)
  exact xg_retI (pc := 13) C E dX4_allTurned_13 hF
def rm_X4_roundComesTo : Room := { frames := 4, cells := 0, slots := 0, locals := 90 }
theorem nd_X4_roundComesTo : yX4_roundComesTo.cls = RX4 ∧ yX4_roundComesTo.cls ≠ "java/lang/invoke/MethodHandle" ∧ yX4_roundComesTo.cls ≠ "java/lang/invoke/VarHandle" ∧ (parseMethodDescriptor yX4_roundComesTo.desc).map (fun d => d.parameters.length) = some 1 := by decide +kernel
theorem inm_X4_roundComesTo_4 : ∀ w ∈ u_ws RX4 TX4 (xg_N 4), w ∈ wsX4_roundComesTo := fun _ h9 => List.mem_cons_of_mem _ (List.mem_append_left _ (List.mem_append_right _ h9))
set_option maxHeartbeats 4000000 in
set_option maxRecDepth 100000 in
theorem met_X4_roundComesTo (Y : xg_Y) (this : Nat) (x1 : Int32) : xg_MI yX4_roundComesTo wsX4_roundComesTo rm_X4_roundComesTo Y (fun zs => [va_rf (some this), .int x1]) (fun Q h => wp_X4_roundComesTo Y Q this x1 h) := by
  refine xg_startI (cc := cX4_roundComesTo) (maxL := 6) (own := RX4) (by decide) rfl rfl (fun zs => Nat.le_of_ble_eq_true rfl) (fun X Q h C hnL E hw => ?_)
  unfold wp_X4_roundComesTo at hw
  obtain ⟨hthis, hw⟩ := hw
  refine xg_sub (lv2 := [(0, va_rf (some this)), (1, .int x1)]) [0, 1] rfl ?_
  refine mg_use (hw (fun (y2 : Int32) (y3 : Int32) (y4 : Int32) (h : xg_H) => xg_W X 0 0 Y 10 [(0, va_rf (some this)), (1, .int x1), (2, .int y2), (3, .int y3), (4, .int y4)] [] h) (fun (y3 : Int32) (h : xg_H) => xg_W X 0 0 Y 56 [(1, .int x1), (3, .int y3)] [] h) ?_ ?_) (fun hF => ?_)
  · intro y2 y3 y4 h hF
    refine xg_iload (pc := 10) C dX4_roundComesTo_10 4 rfl ?_
    refine xg_iload_n (pc := 12) C dX4_roundComesTo_12 1 rfl ?_
    refine xg_icmp_ge (pc := 13) 56 C dX4_roundComesTo_13 (by decide) (fun hc => ?_) (fun hc => ?_)
    · have hF := hF.1 hc
      refine xg_sub (lv2 := [(1, .int x1), (3, .int y3)]) [1, 3] rfl ?_
      exact hF
    · have hF := hF.2 hc
      refine xg_iload_n (pc := 16) C dX4_roundComesTo_16 3 rfl ?_
      refine xg_iload_n (pc := 17) C dX4_roundComesTo_17 1 rfl ?_
      refine xg_icmp_ge (pc := 18) 56 C dX4_roundComesTo_18 (by decide) (fun hc => ?_) (fun hc => ?_)
      · have hF := hF.1 hc
        refine xg_sub (lv2 := [(1, .int x1), (3, .int y3)]) [1, 3] rfl ?_
        exact hF
      · have hF := hF.2 hc
        refine xg_aload_n (pc := 21) C dX4_roundComesTo_21 0 rfl ?_
        refine xg_iload_n (pc := 22) C dX4_roundComesTo_22 2 rfl ?_
        refine xg_cvI (pc := 23) (C1 := RX4) (T1 := TX4) (ci := 4) C (fun zs => [.int y2]) rfl hthis (by decide) rfl (met_X4_allTurned Y this y2) gX4_roundComesTo_X4_allTurned rfl ⟨rfl, rfl⟩ nd_X4_allTurned ⟨Nat.le_of_ble_eq_true rfl, Nat.le_of_ble_eq_true rfl⟩ rfl rfl (Nat.le_of_ble_eq_true rfl) ⟨Nat.zero_le _, Nat.zero_le _⟩ dX4_roundComesTo_23 hF (fun r3 h2 hF => ?_)
        refine xg_istore (pc := 26) (lv2 := [(5, .int r3), (0, va_rf (some this)), (1, .int x1), (2, .int y2), (3, .int y3), (4, .int y4)]) C dX4_roundComesTo_26 6 hnL (by decide) rfl ?_
        refine xg_iload (pc := 28) C dX4_roundComesTo_28 0 rfl ?_
        refine xg_if_ne (pc := 30) 35 C dX4_roundComesTo_30 (by decide) (fun hc => ?_) (fun hc => ?_)
        · have hF := hF.1 hc
          refine xg_iload_n (pc := 35) C dX4_roundComesTo_35 4 rfl ?_
          refine xg_iload (pc := 36) C dX4_roundComesTo_36 0 rfl ?_
          refine xg_bipush (pc := 38) (v := 12) C dX4_roundComesTo_38 (by decide) ?_
          refine xg_ishr (pc := 40) C dX4_roundComesTo_40 ?_
          refine xg_iadd (pc := 41) C dX4_roundComesTo_41 ?_
          refine xg_topi (pc := 42) (fun z4 ez4 => ?_)
          have hF := hF z4 ez4
          refine xg_istore_n (pc := 42) (lv2 := [(3, .int z4), (5, .int r3), (0, va_rf (some this)), (1, .int x1), (2, .int y2), (4, .int y4)]) C dX4_roundComesTo_42 6 hnL (by decide) rfl ?_
          refine xg_iload (pc := 43) C dX4_roundComesTo_43 1 rfl ?_
          refine xg_sipush (pc := 45) (v := 4095) C dX4_roundComesTo_45 (by decide) ?_
          refine xg_iand (pc := 48) C dX4_roundComesTo_48 ?_
          refine xg_topi (pc := 49) (fun z5 ez5 => ?_)
          have hF := hF z5 ez5
          refine xg_istore_n (pc := 49) (lv2 := [(2, .int z5), (3, .int z4), (5, .int r3), (0, va_rf (some this)), (1, .int x1), (4, .int y4)]) C dX4_roundComesTo_49 6 hnL (by decide) rfl ?_
          obtain ⟨z6, ez6⟩ : ∃ y : Int32, y = y4 + 1 := ⟨_, rfl⟩
          have hF := hF z6 ez6
          refine xg_iinc (pc := 50) (v := z6) (lv2 := [(4, .int z6), (2, .int z5), (3, .int z4), (5, .int r3), (0, va_rf (some this)), (1, .int x1)]) C dX4_roundComesTo_50 5 rfl (by rw [ez6]; rfl) 6 hnL (by decide) rfl ?_
          refine xg_goto (pc := 53) 10 C dX4_roundComesTo_53 (by decide) ?_
          refine xg_sub (lv2 := [(0, va_rf (some this)), (1, .int x1), (2, .int z5), (3, .int z4), (4, .int z6)]) [4, 5, 1, 2, 0] rfl ?_
          exact hF
        · have hF := hF.2 hc
          refine xg_iconst (pc := 33) (v := 0) C dX4_roundComesTo_33 (by decide) ?_
          exact xg_retZ (pc := 34) C E (Or.inl rfl) dX4_roundComesTo_34 hF
  · intro y3 h hF
    refine xg_iload_n (pc := 56) C dX4_roundComesTo_56 1 rfl ?_
    refine xg_iload_n (pc := 57) C dX4_roundComesTo_57 0 rfl ?_
    refine xg_icmp_ne (pc := 58) 65 C dX4_roundComesTo_58 (by decide) (fun hc => ?_) (fun hc => ?_)
    · have hF := hF.1 hc
      refine xg_iconst (pc := 65) (v := 0) C dX4_roundComesTo_65 (by decide) ?_
      exact xg_retZ (pc := 66) C E (Or.inl rfl) dX4_roundComesTo_66 hF
    · have hF := hF.2 hc
      refine xg_iconst (pc := 61) (v := 1) C dX4_roundComesTo_61 (by decide) ?_
      refine xg_goto (pc := 62) 66 C dX4_roundComesTo_62 (by decide) ?_
      exact xg_retZ (pc := 66) C E (Or.inr rfl) dX4_roundComesTo_66 hF
  · skip
    refine xg_aload_n (pc := 0) C dX4_roundComesTo_0 0 rfl ?_
    refine xg_geti (pc := 1) (C1 := RX4) (T1 := TX4) (ci := 4) (ref := "SandGlasses$Game") C inm_X4_roundComesTo_4 rfl (by decide) 4 (by decide) rfl dX4_roundComesTo_1 (List.mem_of_getElem? (i := 1) rfl) rfl rfl hthis ?_
    refine xg_topi (pc := 4) (fun z1 ez1 => ?_)
    have hF := hF z1 ez1
    refine xg_istore_n (pc := 4) (lv2 := [(2, .int z1), (0, va_rf (some this)), (1, .int x1)]) C dX4_roundComesTo_4 6 hnL (by decide) rfl ?_
    refine xg_iconst (pc := 5) (v := 0) C dX4_roundComesTo_5 (by decide) ?_
    refine xg_istore_n (pc := 6) (lv2 := [(3, .int 0), (2, .int z1), (0, va_rf (some this)), (1, .int x1)]) C dX4_roundComesTo_6 6 hnL (by decide) rfl ?_
    refine xg_iconst (pc := 7) (v := 0) C dX4_roundComesTo_7 (by decide) ?_
    refine xg_istore (pc := 8) (lv2 := [(4, .int 0), (3, .int 0), (2, .int z1), (0, va_rf (some this)), (1, .int x1)]) C dX4_roundComesTo_8 6 hnL (by decide) rfl ?_
    refine xg_sub (lv2 := [(0, va_rf (some this)), (1, .int x1), (2, .int z1), (3, .int 0), (4, .int 0)]) [3, 4, 2, 1, 0] rfl ?_
    exact hF
def rm_X11_same : Room := { frames := 5, cells := 0, slots := 0, locals := 115 }
theorem nd_X11_same : yX11_same.cls = RX11 ∧ yX11_same.cls ≠ "java/lang/invoke/MethodHandle" ∧ yX11_same.cls ≠ "java/lang/invoke/VarHandle" ∧ (parseMethodDescriptor yX11_same.desc).map (fun d => d.parameters.length) = some 2 := by decide +kernel
theorem inm_X11_same_11 : ∀ w ∈ u_ws RX11 TX11 (xg_N 11), w ∈ wsX11_same := fun _ h9 => List.mem_cons_of_mem _ (List.mem_append_left _ (List.mem_append_left _ (List.mem_append_left _ (List.mem_append_left _ (List.mem_append_right _ h9)))))
set_option maxHeartbeats 4000000 in
set_option maxRecDepth 100000 in
theorem met_X11_same (Y : xg_Y) (this : Nat) (x1 : Int32) (x2 : Int32) : xg_MI yX11_same wsX11_same rm_X11_same Y (fun zs => [va_rf (some this), .int x1, .int x2]) (fun Q h => wp_X11_same Y Q this x1 x2 h) := by
  refine xg_startI (cc := cX11_same) (maxL := 4) (own := RX11) (by decide) rfl rfl (fun zs => Nat.le_of_ble_eq_true rfl) (fun X Q h C hnL E hw => ?_)
  unfold wp_X11_same at hw
  obtain ⟨hthis, hw⟩ := hw
  refine xg_sub (lv2 := [(0, va_rf (some this)), (1, .int x1), (2, .int x2)]) [0, 1, 2] rfl ?_
  have hF := hw
  refine xg_aload_n (pc := 0) C dX11_same_0 0 rfl ?_
  refine xg_getr (pc := 1) (C1 := RX11) (T1 := TX11) (ci := 11) (ref := "SandGlasses") C inm_X11_same_11 rfl (by decide) 0 (by decide) rfl dX11_same_1 (List.mem_of_getElem? (i := 1) rfl) rfl rfl hthis ?_
  refine xg_iconst (pc := 4) (v := 0) C dX11_same_4 (by decide) ?_
  refine xg_iload_n (pc := 5) C dX11_same_5 1 rfl ?_
  obtain ⟨a1, ha1, hka1, hF⟩ := hF
  refine xg_cvR (pc := 6) (C1 := RX9) (T1 := TX9) (ci := 9) C (fun zs => [.int 0, .int x1]) ha1 hka1 (by decide) rfl (met_X9_find Y a1 0 x1) gX11_same_X9_find rfl ⟨rfl, rfl⟩ nd_X9_find ⟨Nat.le_of_ble_eq_true rfl, Nat.le_of_ble_eq_true rfl⟩ rfl rfl (Nat.le_of_ble_eq_true rfl) ⟨Nat.zero_le _, Nat.zero_le _⟩ dX11_same_6 hF (fun r3 h2 hF => ?_)
  refine xg_astore_n (pc := 9) (lv2 := [(3, va_rf r3), (0, va_rf (some this)), (1, .int x1), (2, .int x2)]) C dX11_same_9 4 hnL (by decide) rfl ?_
  refine xg_aload_n (pc := 10) C dX11_same_10 0 rfl ?_
  refine xg_ifnull (pc := 11) 21 C dX11_same_11 (by decide) (fun hc => ?_) (fun a4 ha4 => ?_)
  · have hF := hF.1 hc
    refine xg_iconst (pc := 21) (v := (-1)) C dX11_same_21 (by decide) ?_
    exact xg_retI (pc := 22) C E dX11_same_22 hF
  · have hF := hF.2 a4 ha4
    refine xg_iload_n (pc := 14) C dX11_same_14 3 rfl ?_
    refine xg_csI (pc := 15) C (fun zs => [.int x2]) (met_X11_isT Y x2) gX11_same_X11_isT rfl ⟨rfl, rfl⟩ nd_X11_isT.2 ⟨Nat.le_of_ble_eq_true rfl, Nat.le_of_ble_eq_true rfl⟩ rfl rfl (Nat.le_of_ble_eq_true rfl) ⟨Nat.zero_le _, Nat.zero_le _⟩ dX11_same_15 hF (fun r6 h5 hF => ?_)
    refine xg_if_ne (pc := 18) 23 C dX11_same_18 (by decide) (fun hc => ?_) (fun hc => ?_)
    · have hF := hF.1 hc
      refine xg_aload_n (pc := 23) C dX11_same_23 1 rfl ?_
      refine xg_getr (pc := 24) (C1 := RX11) (T1 := TX11) (ci := 11) (ref := "SandGlasses") C inm_X11_same_11 rfl (by decide) 6 (by decide) rfl dX11_same_24 (List.mem_of_getElem? (i := 2) rfl) rfl rfl hthis ?_
      refine xg_aload_n (pc := 27) C dX11_same_27 0 rfl ?_
      obtain ⟨a7, ha7, hka7, hF⟩ := hF
      refine xg_cvV (pc := 28) (C1 := RX4) (T1 := TX4) (ci := 4) C (fun zs => [va_rf r3]) ha7 hka7 (by decide) rfl (met_X4_begin Y a7 r3) gX11_same_X4_begin rfl ⟨rfl, rfl⟩ nd_X4_begin ⟨Nat.le_of_ble_eq_true rfl, Nat.le_of_ble_eq_true rfl⟩ rfl rfl (Nat.le_of_ble_eq_true rfl) ⟨Nat.zero_le _, Nat.zero_le _⟩ dX11_same_28 hF (fun h8 hF => ?_)
      refine xg_aload_n (pc := 31) C dX11_same_31 1 rfl ?_
      refine xg_getr (pc := 32) (C1 := RX11) (T1 := TX11) (ci := 11) (ref := "SandGlasses") C inm_X11_same_11 rfl (by decide) 6 (by decide) rfl dX11_same_32 (List.mem_of_getElem? (i := 2) rfl) rfl rfl hthis ?_
      refine xg_iload_n (pc := 35) C dX11_same_35 3 rfl ?_
      obtain ⟨a9, ha9, hka9, hF⟩ := hF
      refine xg_cvI (pc := 36) (C1 := RX4) (T1 := TX4) (ci := 4) C (fun zs => [.int x2]) ha9 hka9 (by decide) rfl (met_X4_roundComesTo Y a9 x2) gX11_same_X4_roundComesTo rfl ⟨rfl, rfl⟩ nd_X4_roundComesTo ⟨Nat.le_of_ble_eq_true rfl, Nat.le_of_ble_eq_true rfl⟩ rfl rfl (Nat.le_of_ble_eq_true rfl) ⟨Nat.zero_le _, Nat.zero_le _⟩ dX11_same_36 hF (fun r11 h10 hF => ?_)
      refine xg_if_eq (pc := 39) 46 C dX11_same_39 (by decide) (fun hc => ?_) (fun hc => ?_)
      · have hF := hF.1 hc
        refine xg_iconst (pc := 46) (v := 0) C dX11_same_46 (by decide) ?_
        exact xg_retI (pc := 47) C E dX11_same_47 hF
      · have hF := hF.2 hc
        refine xg_iconst (pc := 42) (v := 1) C dX11_same_42 (by decide) ?_
        refine xg_goto (pc := 43) 47 C dX11_same_43 (by decide) ?_
        exact xg_retI (pc := 47) C E dX11_same_47 hF
    · have hF := hF.2 hc
      refine xg_iconst (pc := 21) (v := (-1)) C dX11_same_21 (by decide) ?_
      exact xg_retI (pc := 22) C E dX11_same_22 hF
def rm_X11_shelf : Room := { frames := 1, cells := 0, slots := 0, locals := 22 }
theorem nd_X11_shelf : yX11_shelf.cls = RX11 ∧ yX11_shelf.cls ≠ "java/lang/invoke/MethodHandle" ∧ yX11_shelf.cls ≠ "java/lang/invoke/VarHandle" ∧ (parseMethodDescriptor yX11_shelf.desc).map (fun d => d.parameters.length) = some 2 := by decide +kernel
theorem inm_X11_shelf_8 : ∀ w ∈ u_ws RX8 TX8 (xg_N 8), w ∈ wsX11_shelf := fun _ h9 => List.mem_cons_of_mem _ (List.mem_append_left _ (List.mem_append_right _ h9))
theorem inm_X11_shelf_11 : ∀ w ∈ u_ws RX11 TX11 (xg_N 11), w ∈ wsX11_shelf := fun _ h9 => List.mem_cons_of_mem _ (List.mem_append_left _ (List.mem_append_left _ (List.mem_append_right _ h9)))
set_option maxHeartbeats 4000000 in
set_option maxRecDepth 100000 in
theorem met_X11_shelf (Y : xg_Y) (this : Nat) (x1 : Int32) (x2 : Int32) : xg_MI yX11_shelf wsX11_shelf rm_X11_shelf Y (fun zs => [va_rf (some this), .int x1, .int x2]) (fun Q h => wp_X11_shelf Y Q this x1 x2 h) := by
  refine xg_startI (cc := cX11_shelf) (maxL := 4) (own := RX11) (by decide) rfl rfl (fun zs => Nat.le_of_ble_eq_true rfl) (fun X Q h C hnL E hw => ?_)
  unfold wp_X11_shelf at hw
  obtain ⟨hthis, hw⟩ := hw
  refine xg_sub (lv2 := [(0, va_rf (some this)), (1, .int x1), (2, .int x2)]) [0, 1, 2] rfl ?_
  have hF := hw
  refine xg_aload_n (pc := 0) C dX11_shelf_0 0 rfl ?_
  refine xg_getr (pc := 1) (C1 := RX11) (T1 := TX11) (ci := 11) (ref := "SandGlasses") C inm_X11_shelf_11 rfl (by decide) 0 (by decide) rfl dX11_shelf_1 (List.mem_of_getElem? (i := 1) rfl) rfl rfl hthis ?_
  refine xg_iconst (pc := 4) (v := 0) C dX11_shelf_4 (by decide) ?_
  refine xg_iload_n (pc := 5) C dX11_shelf_5 1 rfl ?_
  obtain ⟨a1, ha1, hka1, hF⟩ := hF
  refine xg_cvR (pc := 6) (C1 := RX9) (T1 := TX9) (ci := 9) C (fun zs => [.int 0, .int x1]) ha1 hka1 (by decide) rfl (met_X9_find Y a1 0 x1) gX11_shelf_X9_find rfl ⟨rfl, rfl⟩ nd_X9_find ⟨Nat.le_of_ble_eq_true rfl, Nat.le_of_ble_eq_true rfl⟩ rfl rfl (Nat.le_of_ble_eq_true rfl) ⟨Nat.zero_le _, Nat.zero_le _⟩ dX11_shelf_6 hF (fun r3 h2 hF => ?_)
  refine xg_astore_n (pc := 9) (lv2 := [(3, va_rf r3), (0, va_rf (some this)), (1, .int x1), (2, .int x2)]) C dX11_shelf_9 4 hnL (by decide) rfl ?_
  refine xg_aload_n (pc := 10) C dX11_shelf_10 0 rfl ?_
  refine xg_ifnonnull (pc := 11) 16 C dX11_shelf_11 (by decide) (fun a4 ha4 => ?_) (fun hc => ?_)
  · have hF := hF.2 a4 ha4
    refine xg_iload_n (pc := 16) C dX11_shelf_16 3 rfl ?_
    refine xg_if_ne (pc := 17) 25 C dX11_shelf_17 (by decide) (fun hc => ?_) (fun hc => ?_)
    · have hF := hF.1 hc
      refine xg_aload_n (pc := 25) C dX11_shelf_25 0 rfl ?_
      refine xg_iload_n (pc := 26) C dX11_shelf_26 3 rfl ?_
      refine xg_bipush (pc := 27) (v := 10) C dX11_shelf_27 (by decide) ?_
      refine xg_csI (pc := 29) C (fun zs => [va_rf r3, .int x2, .int 10]) (met_X11_isGlass Y r3 x2 10) gX11_shelf_X11_isGlass rfl ⟨rfl, rfl⟩ nd_X11_isGlass.2 ⟨Nat.le_of_ble_eq_true rfl, Nat.le_of_ble_eq_true rfl⟩ rfl rfl (Nat.le_of_ble_eq_true rfl) ⟨Nat.zero_le _, Nat.zero_le _⟩ dX11_shelf_29 hF (fun r6 h5 hF => ?_)
      refine xg_if_eq (pc := 32) 45 C dX11_shelf_32 (by decide) (fun hc => ?_) (fun hc => ?_)
      · have hF := hF.1 hc
        refine xg_aload_n (pc := 45) C dX11_shelf_45 0 rfl ?_
        refine xg_iload_n (pc := 46) C dX11_shelf_46 3 rfl ?_
        refine xg_bipush (pc := 47) (v := 20) C dX11_shelf_47 (by decide) ?_
        refine xg_csI (pc := 49) C (fun zs => [va_rf r3, .int x2, .int 20]) (met_X11_isGlass Y r3 x2 20) gX11_shelf_X11_isGlass rfl ⟨rfl, rfl⟩ nd_X11_isGlass.2 ⟨Nat.le_of_ble_eq_true rfl, Nat.le_of_ble_eq_true rfl⟩ rfl rfl (Nat.le_of_ble_eq_true rfl) ⟨Nat.zero_le _, Nat.zero_le _⟩ dX11_shelf_49 hF (fun r8 h7 hF => ?_)
        refine xg_if_eq (pc := 52) 65 C dX11_shelf_52 (by decide) (fun hc => ?_) (fun hc => ?_)
        · have hF := hF.1 hc
          refine xg_aload_n (pc := 65) C dX11_shelf_65 0 rfl ?_
          refine xg_iload_n (pc := 66) C dX11_shelf_66 3 rfl ?_
          refine xg_bipush (pc := 67) (v := 30) C dX11_shelf_67 (by decide) ?_
          refine xg_csI (pc := 69) C (fun zs => [va_rf r3, .int x2, .int 30]) (met_X11_isGlass Y r3 x2 30) gX11_shelf_X11_isGlass rfl ⟨rfl, rfl⟩ nd_X11_isGlass.2 ⟨Nat.le_of_ble_eq_true rfl, Nat.le_of_ble_eq_true rfl⟩ rfl rfl (Nat.le_of_ble_eq_true rfl) ⟨Nat.zero_le _, Nat.zero_le _⟩ dX11_shelf_69 hF (fun r10 h9 hF => ?_)
          refine xg_if_eq (pc := 72) 85 C dX11_shelf_72 (by decide) (fun hc => ?_) (fun hc => ?_)
          · have hF := hF.1 hc
            refine xg_iconst (pc := 85) (v := (-1)) C dX11_shelf_85 (by decide) ?_
            exact xg_retI (pc := 86) C E dX11_shelf_86 hF
          · have hF := hF.2 hc
            refine xg_aload_n (pc := 75) C dX11_shelf_75 0 rfl ?_
            obtain ⟨hk11, hF⟩ := hF
            refine xg_getr (pc := 76) (C1 := RX8) (T1 := TX8) (ci := 8) (ref := "SandGlasses$Text") C inm_X11_shelf_8 rfl (by decide) 3 (by decide) rfl dX11_shelf_76 (List.mem_of_getElem? (i := 5) rfl) rfl ha4 hk11 ?_
            refine xg_iload_n (pc := 79) C dX11_shelf_79 3 rfl ?_
            refine xg_bipush (pc := 80) (v := 30) C dX11_shelf_80 (by decide) ?_
            refine xg_isub (pc := 82) C dX11_shelf_82 ?_
            obtain ⟨a12, ha12, hka12, hF⟩ := hF
            obtain ⟨hi, hF⟩ := hF
            refine xg_iald (pc := 83) C ha12 hka12 hi dX11_shelf_83 ?_
            exact xg_retI (pc := 84) C E dX11_shelf_84 hF
        · have hF := hF.2 hc
          refine xg_aload_n (pc := 55) C dX11_shelf_55 0 rfl ?_
          obtain ⟨hk13, hF⟩ := hF
          refine xg_getr (pc := 56) (C1 := RX8) (T1 := TX8) (ci := 8) (ref := "SandGlasses$Text") C inm_X11_shelf_8 rfl (by decide) 2 (by decide) rfl dX11_shelf_56 (List.mem_of_getElem? (i := 4) rfl) rfl ha4 hk13 ?_
          refine xg_iload_n (pc := 59) C dX11_shelf_59 3 rfl ?_
          refine xg_bipush (pc := 60) (v := 20) C dX11_shelf_60 (by decide) ?_
          refine xg_isub (pc := 62) C dX11_shelf_62 ?_
          obtain ⟨a14, ha14, hka14, hF⟩ := hF
          obtain ⟨hi, hF⟩ := hF
          refine xg_iald (pc := 63) C ha14 hka14 hi dX11_shelf_63 ?_
          exact xg_retI (pc := 64) C E dX11_shelf_64 hF
      · have hF := hF.2 hc
        refine xg_aload_n (pc := 35) C dX11_shelf_35 0 rfl ?_
        obtain ⟨hk15, hF⟩ := hF
        refine xg_getr (pc := 36) (C1 := RX8) (T1 := TX8) (ci := 8) (ref := "SandGlasses$Text") C inm_X11_shelf_8 rfl (by decide) 1 (by decide) rfl dX11_shelf_36 (List.mem_of_getElem? (i := 3) rfl) rfl ha4 hk15 ?_
        refine xg_iload_n (pc := 39) C dX11_shelf_39 3 rfl ?_
        refine xg_bipush (pc := 40) (v := 10) C dX11_shelf_40 (by decide) ?_
        refine xg_isub (pc := 42) C dX11_shelf_42 ?_
        obtain ⟨a16, ha16, hka16, hF⟩ := hF
        obtain ⟨hi, hF⟩ := hF
        refine xg_iald (pc := 43) C ha16 hka16 hi dX11_shelf_43 ?_
        exact xg_retI (pc := 44) C E dX11_shelf_44 hF
    · have hF := hF.2 hc
      refine xg_aload_n (pc := 20) C dX11_shelf_20 0 rfl ?_
      obtain ⟨hk17, hF⟩ := hF
      refine xg_geti (pc := 21) (C1 := RX8) (T1 := TX8) (ci := 8) (ref := "SandGlasses$Text") C inm_X11_shelf_8 rfl (by decide) 0 (by decide) rfl dX11_shelf_21 (List.mem_of_getElem? (i := 2) rfl) rfl ha4 hk17 ?_
      exact xg_retI (pc := 24) C E dX11_shelf_24 hF
  · have hF := hF.1 hc
    refine xg_iconst (pc := 14) (v := (-1)) C dX11_shelf_14 (by decide) ?_
    exact xg_retI (pc := 15) C E dX11_shelf_15 hF
def rm_X11_state : Room := { frames := 4, cells := 0, slots := 0, locals := 93 }
theorem nd_X11_state : yX11_state.cls = RX11 ∧ yX11_state.cls ≠ "java/lang/invoke/MethodHandle" ∧ yX11_state.cls ≠ "java/lang/invoke/VarHandle" ∧ (parseMethodDescriptor yX11_state.desc).map (fun d => d.parameters.length) = some 4 := by decide +kernel
theorem inm_X11_state_8 : ∀ w ∈ u_ws RX8 TX8 (xg_N 8), w ∈ wsX11_state := fun _ h9 => List.mem_cons_of_mem _ (List.mem_append_left _ (List.mem_append_left _ (List.mem_append_left _ (List.mem_append_right _ h9))))
theorem inm_X11_state_11 : ∀ w ∈ u_ws RX11 TX11 (xg_N 11), w ∈ wsX11_state := fun _ h9 => List.mem_cons_of_mem _ (List.mem_append_left _ (List.mem_append_left _ (List.mem_append_left _ (List.mem_append_left _ (List.mem_append_right _ h9)))))
set_option maxHeartbeats 4000000 in
set_option maxRecDepth 100000 in
theorem met_X11_state (Y : xg_Y) (this : Nat) (x1 : Int32) (x2 : Int32) (x3 : Int32) (x4 : Int32) : xg_MI yX11_state wsX11_state rm_X11_state Y (fun zs => [va_rf (some this), .int x1, .int x2, .int x3, .int x4]) (fun Q h => wp_X11_state Y Q this x1 x2 x3 x4 h) := by
  refine xg_startI (cc := cX11_state) (maxL := 7) (own := RX11) (by decide) rfl rfl (fun zs => Nat.le_of_ble_eq_true rfl) (fun X Q h C hnL E hw => ?_)
  unfold wp_X11_state at hw
  obtain ⟨hthis, hw⟩ := hw
  refine xg_sub (lv2 := [(0, va_rf (some this)), (1, .int x1), (2, .int x2), (3, .int x3), (4, .int x4)]) [0, 1, 2, 3, 4] rfl ?_
  have hF := hw
  refine xg_aload_n (pc := 0) C dX11_state_0 0 rfl ?_
  refine xg_getr (pc := 1) (C1 := RX11) (T1 := TX11) (ci := 11) (ref := "SandGlasses") C inm_X11_state_11 rfl (by decide) 0 (by decide) rfl dX11_state_1 (List.mem_of_getElem? (i := 1) rfl) rfl rfl hthis ?_
  refine xg_iconst (pc := 4) (v := 0) C dX11_state_4 (by decide) ?_
  refine xg_iload_n (pc := 5) C dX11_state_5 1 rfl ?_
  obtain ⟨a1, ha1, hka1, hF⟩ := hF
  refine xg_cvR (pc := 6) (C1 := RX9) (T1 := TX9) (ci := 9) C (fun zs => [.int 0, .int x1]) ha1 hka1 (by decide) rfl (met_X9_find Y a1 0 x1) gX11_state_X9_find rfl ⟨rfl, rfl⟩ nd_X9_find ⟨Nat.le_of_ble_eq_true rfl, Nat.le_of_ble_eq_true rfl⟩ rfl rfl (Nat.le_of_ble_eq_true rfl) ⟨Nat.zero_le _, Nat.zero_le _⟩ dX11_state_6 hF (fun r3 h2 hF => ?_)
  refine xg_astore (pc := 9) (lv2 := [(5, va_rf r3), (0, va_rf (some this)), (1, .int x1), (2, .int x2), (3, .int x3), (4, .int x4)]) C dX11_state_9 7 hnL (by decide) rfl ?_
  refine xg_aload_n (pc := 11) C dX11_state_11 1 rfl ?_
  refine xg_getr (pc := 12) (C1 := RX11) (T1 := TX11) (ci := 11) (ref := "SandGlasses") C inm_X11_state_11 rfl (by decide) 0 (by decide) rfl dX11_state_12 (List.mem_of_getElem? (i := 1) rfl) rfl rfl hthis ?_
  refine xg_iconst (pc := 15) (v := 1) C dX11_state_15 (by decide) ?_
  refine xg_iload_n (pc := 16) C dX11_state_16 3 rfl ?_
  obtain ⟨a4, ha4, hka4, hF⟩ := hF
  refine xg_cvR (pc := 17) (C1 := RX9) (T1 := TX9) (ci := 9) C (fun zs => [.int 1, .int x2]) ha4 hka4 (by decide) rfl (met_X9_find Y a4 1 x2) gX11_state_X9_find rfl ⟨rfl, rfl⟩ nd_X9_find ⟨Nat.le_of_ble_eq_true rfl, Nat.le_of_ble_eq_true rfl⟩ rfl rfl (Nat.le_of_ble_eq_true rfl) ⟨Nat.zero_le _, Nat.zero_le _⟩ dX11_state_17 hF (fun r6 h5 hF => ?_)
  refine xg_astore (pc := 20) (lv2 := [(6, va_rf r6), (5, va_rf r3), (0, va_rf (some this)), (1, .int x1), (2, .int x2), (3, .int x3), (4, .int x4)]) C dX11_state_20 7 hnL (by decide) (by cases r3 <;> rfl) ?_
  refine xg_aload (pc := 22) C dX11_state_22 1 rfl ?_
  refine xg_ifnull (pc := 24) 45 C dX11_state_24 (by decide) (fun hc => ?_) (fun a7 ha7 => ?_)
  · have hF := hF.1 hc
    refine xg_iconst (pc := 45) (v := (-1)) C dX11_state_45 (by decide) ?_
    exact xg_retI (pc := 46) C E dX11_state_46 hF
  · have hF := hF.2 a7 ha7
    refine xg_aload (pc := 27) C dX11_state_27 0 rfl ?_
    refine xg_ifnull (pc := 29) 45 C dX11_state_29 (by decide) (fun hc => ?_) (fun a8 ha8 => ?_)
    · have hF := hF.1 hc
      refine xg_iconst (pc := 45) (v := (-1)) C dX11_state_45 (by decide) ?_
      exact xg_retI (pc := 46) C E dX11_state_46 hF
    · have hF := hF.2 a8 ha8
      refine xg_iload_n (pc := 32) C dX11_state_32 5 rfl ?_
      refine xg_if_lt (pc := 33) 45 C dX11_state_33 (by decide) (fun hc => ?_) (fun hc => ?_)
      · have hF := hF.1 hc
        refine xg_iconst (pc := 45) (v := (-1)) C dX11_state_45 (by decide) ?_
        exact xg_retI (pc := 46) C E dX11_state_46 hF
      · have hF := hF.2 hc
        refine xg_iload_n (pc := 36) C dX11_state_36 5 rfl ?_
        refine xg_aload (pc := 37) C dX11_state_37 0 rfl ?_
        obtain ⟨hk9, hF⟩ := hF
        refine xg_geti (pc := 39) (C1 := RX8) (T1 := TX8) (ci := 8) (ref := "SandGlasses$Text") C inm_X11_state_8 rfl (by decide) 0 (by decide) rfl dX11_state_39 (List.mem_of_getElem? (i := 2) rfl) rfl ha8 hk9 ?_
        refine xg_icmp_le (pc := 42) 47 C dX11_state_42 (by decide) (fun hc => ?_) (fun hc => ?_)
        · have hF := hF.1 hc
          refine xg_aload_n (pc := 47) C dX11_state_47 2 rfl ?_
          refine xg_getr (pc := 48) (C1 := RX11) (T1 := TX11) (ci := 11) (ref := "SandGlasses") C inm_X11_state_11 rfl (by decide) 3 (by decide) rfl dX11_state_48 (List.mem_of_getElem? (i := 3) rfl) rfl rfl hthis ?_
          refine xg_aload (pc := 51) C dX11_state_51 1 rfl ?_
          obtain ⟨a10, ha10, hka10, hF⟩ := hF
          refine xg_cvV (pc := 53) (C1 := RX0) (T1 := TX0) (ci := 0) C (fun zs => [va_rf r3]) ha10 hka10 (by decide) rfl (met_X0_begin Y a10 r3) gX11_state_X0_begin rfl ⟨rfl, rfl⟩ nd_X0_begin ⟨Nat.le_of_ble_eq_true rfl, Nat.le_of_ble_eq_true rfl⟩ rfl rfl (Nat.le_of_ble_eq_true rfl) ⟨Nat.zero_le _, Nat.zero_le _⟩ dX11_state_53 hF (fun h11 hF => ?_)
          refine xg_aload_n (pc := 56) C dX11_state_56 2 rfl ?_
          refine xg_getr (pc := 57) (C1 := RX11) (T1 := TX11) (ci := 11) (ref := "SandGlasses") C inm_X11_state_11 rfl (by decide) 3 (by decide) rfl dX11_state_57 (List.mem_of_getElem? (i := 3) rfl) rfl rfl hthis ?_
          refine xg_aload (pc := 60) C dX11_state_60 0 rfl ?_
          refine xg_iload_n (pc := 62) C dX11_state_62 5 rfl ?_
          obtain ⟨a12, ha12, hka12, hF⟩ := hF
          refine xg_cvI (pc := 63) (C1 := RX0) (T1 := TX0) (ci := 0) C (fun zs => [va_rf r6, .int x3]) ha12 hka12 (by decide) rfl (met_X0_play Y a12 r6 x3) gX11_state_X0_play rfl ⟨rfl, rfl⟩ nd_X0_play ⟨Nat.le_of_ble_eq_true rfl, Nat.le_of_ble_eq_true rfl⟩ rfl rfl (Nat.le_of_ble_eq_true rfl) ⟨Nat.zero_le _, Nat.zero_le _⟩ dX11_state_63 hF (fun r14 h13 hF => ?_)
          refine xg_iload_n (pc := 66) C dX11_state_66 5 rfl ?_
          refine xg_icmp_ne (pc := 67) 82 C dX11_state_67 (by decide) (fun hc => ?_) (fun hc => ?_)
          · have hF := hF.1 hc
            refine xg_iconst (pc := 82) (v := (-1)) C dX11_state_82 (by decide) ?_
            exact xg_retI (pc := 83) C E dX11_state_83 hF
          · have hF := hF.2 hc
            refine xg_aload_n (pc := 70) C dX11_state_70 2 rfl ?_
            refine xg_getr (pc := 71) (C1 := RX11) (T1 := TX11) (ci := 11) (ref := "SandGlasses") C inm_X11_state_11 rfl (by decide) 3 (by decide) rfl dX11_state_71 (List.mem_of_getElem? (i := 3) rfl) rfl rfl hthis ?_
            refine xg_iload (pc := 74) C dX11_state_74 6 rfl ?_
            obtain ⟨a15, ha15, hka15, hF⟩ := hF
            refine xg_cvI (pc := 76) (C1 := RX0) (T1 := TX0) (ci := 0) C (fun zs => [.int x4]) ha15 hka15 (by decide) rfl (met_X0_look Y a15 x4) gX11_state_X0_look rfl ⟨rfl, rfl⟩ nd_X0_look ⟨Nat.le_of_ble_eq_true rfl, Nat.le_of_ble_eq_true rfl⟩ rfl rfl (Nat.le_of_ble_eq_true rfl) ⟨Nat.zero_le _, Nat.zero_le _⟩ dX11_state_76 hF (fun r17 h16 hF => ?_)
            refine xg_goto (pc := 79) 83 C dX11_state_79 (by decide) ?_
            exact xg_retI (pc := 83) C E dX11_state_83 hF
        · have hF := hF.2 hc
          refine xg_iconst (pc := 45) (v := (-1)) C dX11_state_45 (by decide) ?_
          exact xg_retI (pc := 46) C E dX11_state_46 hF
def rm_X11_stop : Room := { frames := 4, cells := 0, slots := 0, locals := 93 }
theorem nd_X11_stop : yX11_stop.cls = RX11 ∧ yX11_stop.cls ≠ "java/lang/invoke/MethodHandle" ∧ yX11_stop.cls ≠ "java/lang/invoke/VarHandle" ∧ (parseMethodDescriptor yX11_stop.desc).map (fun d => d.parameters.length) = some 2 := by decide +kernel
theorem inm_X11_stop_8 : ∀ w ∈ u_ws RX8 TX8 (xg_N 8), w ∈ wsX11_stop := fun _ h9 => List.mem_cons_of_mem _ (List.mem_append_left _ (List.mem_append_left _ (List.mem_append_left _ (List.mem_append_right _ h9))))
theorem inm_X11_stop_11 : ∀ w ∈ u_ws RX11 TX11 (xg_N 11), w ∈ wsX11_stop := fun _ h9 => List.mem_cons_of_mem _ (List.mem_append_left _ (List.mem_append_left _ (List.mem_append_left _ (List.mem_append_left _ (List.mem_append_right _ h9)))))
set_option maxHeartbeats 4000000 in
set_option maxRecDepth 100000 in
theorem met_X11_stop (Y : xg_Y) (this : Nat) (x1 : Int32) (x2 : Int32) : xg_MI yX11_stop wsX11_stop rm_X11_stop Y (fun zs => [va_rf (some this), .int x1, .int x2]) (fun Q h => wp_X11_stop Y Q this x1 x2 h) := by
  refine xg_startI (cc := cX11_stop) (maxL := 5) (own := RX11) (by decide) rfl rfl (fun zs => Nat.le_of_ble_eq_true rfl) (fun X Q h C hnL E hw => ?_)
  unfold wp_X11_stop at hw
  obtain ⟨hthis, hw⟩ := hw
  refine xg_sub (lv2 := [(0, va_rf (some this)), (1, .int x1), (2, .int x2)]) [0, 1, 2] rfl ?_
  have hF := hw
  refine xg_aload_n (pc := 0) C dX11_stop_0 0 rfl ?_
  refine xg_getr (pc := 1) (C1 := RX11) (T1 := TX11) (ci := 11) (ref := "SandGlasses") C inm_X11_stop_11 rfl (by decide) 0 (by decide) rfl dX11_stop_1 (List.mem_of_getElem? (i := 1) rfl) rfl rfl hthis ?_
  refine xg_iconst (pc := 4) (v := 0) C dX11_stop_4 (by decide) ?_
  refine xg_iload_n (pc := 5) C dX11_stop_5 1 rfl ?_
  obtain ⟨a1, ha1, hka1, hF⟩ := hF
  refine xg_cvR (pc := 6) (C1 := RX9) (T1 := TX9) (ci := 9) C (fun zs => [.int 0, .int x1]) ha1 hka1 (by decide) rfl (met_X9_find Y a1 0 x1) gX11_stop_X9_find rfl ⟨rfl, rfl⟩ nd_X9_find ⟨Nat.le_of_ble_eq_true rfl, Nat.le_of_ble_eq_true rfl⟩ rfl rfl (Nat.le_of_ble_eq_true rfl) ⟨Nat.zero_le _, Nat.zero_le _⟩ dX11_stop_6 hF (fun r3 h2 hF => ?_)
  refine xg_astore_n (pc := 9) (lv2 := [(3, va_rf r3), (0, va_rf (some this)), (1, .int x1), (2, .int x2)]) C dX11_stop_9 5 hnL (by decide) rfl ?_
  refine xg_aload_n (pc := 10) C dX11_stop_10 1 rfl ?_
  refine xg_getr (pc := 11) (C1 := RX11) (T1 := TX11) (ci := 11) (ref := "SandGlasses") C inm_X11_stop_11 rfl (by decide) 0 (by decide) rfl dX11_stop_11 (List.mem_of_getElem? (i := 1) rfl) rfl rfl hthis ?_
  refine xg_iconst (pc := 14) (v := 1) C dX11_stop_14 (by decide) ?_
  refine xg_iload_n (pc := 15) C dX11_stop_15 3 rfl ?_
  obtain ⟨a4, ha4, hka4, hF⟩ := hF
  refine xg_cvR (pc := 16) (C1 := RX9) (T1 := TX9) (ci := 9) C (fun zs => [.int 1, .int x2]) ha4 hka4 (by decide) rfl (met_X9_find Y a4 1 x2) gX11_stop_X9_find rfl ⟨rfl, rfl⟩ nd_X9_find ⟨Nat.le_of_ble_eq_true rfl, Nat.le_of_ble_eq_true rfl⟩ rfl rfl (Nat.le_of_ble_eq_true rfl) ⟨Nat.zero_le _, Nat.zero_le _⟩ dX11_stop_16 hF (fun r6 h5 hF => ?_)
  refine xg_astore (pc := 19) (lv2 := [(4, va_rf r6), (3, va_rf r3), (0, va_rf (some this)), (1, .int x1), (2, .int x2)]) C dX11_stop_19 5 hnL (by decide) (by cases r3 <;> rfl) ?_
  refine xg_aload_n (pc := 21) C dX11_stop_21 1 rfl ?_
  refine xg_ifnull (pc := 22) 30 C dX11_stop_22 (by decide) (fun hc => ?_) (fun a7 ha7 => ?_)
  · have hF := hF.1 hc
    refine xg_iconst (pc := 30) (v := (-1)) C dX11_stop_30 (by decide) ?_
    exact xg_retI (pc := 31) C E dX11_stop_31 hF
  · have hF := hF.2 a7 ha7
    refine xg_aload (pc := 25) C dX11_stop_25 0 rfl ?_
    refine xg_ifnonnull (pc := 27) 32 C dX11_stop_27 (by decide) (fun a8 ha8 => ?_) (fun hc => ?_)
    · have hF := hF.2 a8 ha8
      refine xg_aload_n (pc := 32) C dX11_stop_32 2 rfl ?_
      refine xg_getr (pc := 33) (C1 := RX11) (T1 := TX11) (ci := 11) (ref := "SandGlasses") C inm_X11_stop_11 rfl (by decide) 3 (by decide) rfl dX11_stop_33 (List.mem_of_getElem? (i := 2) rfl) rfl rfl hthis ?_
      refine xg_aload_n (pc := 36) C dX11_stop_36 1 rfl ?_
      obtain ⟨a9, ha9, hka9, hF⟩ := hF
      refine xg_cvV (pc := 37) (C1 := RX0) (T1 := TX0) (ci := 0) C (fun zs => [va_rf r3]) ha9 hka9 (by decide) rfl (met_X0_begin Y a9 r3) gX11_stop_X0_begin rfl ⟨rfl, rfl⟩ nd_X0_begin ⟨Nat.le_of_ble_eq_true rfl, Nat.le_of_ble_eq_true rfl⟩ rfl rfl (Nat.le_of_ble_eq_true rfl) ⟨Nat.zero_le _, Nat.zero_le _⟩ dX11_stop_37 hF (fun h10 hF => ?_)
      refine xg_aload_n (pc := 40) C dX11_stop_40 2 rfl ?_
      refine xg_getr (pc := 41) (C1 := RX11) (T1 := TX11) (ci := 11) (ref := "SandGlasses") C inm_X11_stop_11 rfl (by decide) 3 (by decide) rfl dX11_stop_41 (List.mem_of_getElem? (i := 2) rfl) rfl rfl hthis ?_
      refine xg_aload (pc := 44) C dX11_stop_44 0 rfl ?_
      refine xg_aload (pc := 46) C dX11_stop_46 0 rfl ?_
      obtain ⟨hk11, hF⟩ := hF
      refine xg_geti (pc := 48) (C1 := RX8) (T1 := TX8) (ci := 8) (ref := "SandGlasses$Text") C inm_X11_stop_8 rfl (by decide) 0 (by decide) rfl dX11_stop_48 (List.mem_of_getElem? (i := 3) rfl) rfl ha8 hk11 ?_
      obtain ⟨a12, ha12, hka12, hF⟩ := hF
      refine xg_cvI (pc := 51) (C1 := RX0) (T1 := TX0) (ci := 0) C (fun zs => [va_rf r6, .int (xg_i h10 a8 0)]) ha12 hka12 (by decide) rfl (met_X0_play Y a12 r6 (xg_i h10 a8 0)) gX11_stop_X0_play rfl ⟨rfl, rfl⟩ nd_X0_play ⟨Nat.le_of_ble_eq_true rfl, Nat.le_of_ble_eq_true rfl⟩ rfl rfl (Nat.le_of_ble_eq_true rfl) ⟨Nat.zero_le _, Nat.zero_le _⟩ dX11_stop_51 hF (fun r14 h13 hF => ?_)
      exact xg_retI (pc := 54) C E dX11_stop_54 hF
    · have hF := hF.1 hc
      refine xg_iconst (pc := 30) (v := (-1)) C dX11_stop_30 (by decide) ?_
      exact xg_retI (pc := 31) C E dX11_stop_31 hF
def rm_X9_numberFor : Room := { frames := 0, cells := 0, slots := 0, locals := 0 }
theorem nd_X9_numberFor : yX9_numberFor.cls = RX9 ∧ yX9_numberFor.cls ≠ "java/lang/invoke/MethodHandle" ∧ yX9_numberFor.cls ≠ "java/lang/invoke/VarHandle" ∧ (parseMethodDescriptor yX9_numberFor.desc).map (fun d => d.parameters.length) = some 2 := by decide +kernel
theorem inm_X9_numberFor_9 : ∀ w ∈ u_ws RX9 TX9 (xg_N 9), w ∈ wsX9_numberFor := fun _ h9 => List.mem_cons_of_mem _ (List.mem_append_right _ h9)
set_option maxHeartbeats 4000000 in
set_option maxRecDepth 100000 in
theorem met_X9_numberFor (Y : xg_Y) (this : Nat) (x1 : Int32) (x2 : Int32) : xg_MI yX9_numberFor wsX9_numberFor rm_X9_numberFor Y (fun zs => [va_rf (some this), .int x1, .int x2]) (fun Q h => wp_X9_numberFor Y Q this x1 x2 h) := by
  refine xg_startI (cc := cX9_numberFor) (maxL := 3) (own := RX9) (by decide) rfl rfl (fun zs => Nat.le_of_ble_eq_true rfl) (fun X Q h C hnL E hw => ?_)
  unfold wp_X9_numberFor at hw
  obtain ⟨hthis, hw⟩ := hw
  refine xg_sub (lv2 := [(0, va_rf (some this)), (1, .int x1), (2, .int x2)]) [0, 1, 2] rfl ?_
  have hF := hw
  refine xg_iload_n (pc := 0) C dX9_numberFor_0 1 rfl ?_
  refine xg_if_lt (pc := 1) 9 C dX9_numberFor_1 (by decide) (fun hc => ?_) (fun hc => ?_)
  · have hF := hF.1 hc
    refine xg_iconst (pc := 9) (v := (-1)) C dX9_numberFor_9 (by decide) ?_
    exact xg_retI (pc := 10) C E dX9_numberFor_10 hF
  · have hF := hF.2 hc
    refine xg_iload_n (pc := 4) C dX9_numberFor_4 1 rfl ?_
    refine xg_iconst (pc := 5) (v := 4) C dX9_numberFor_5 (by decide) ?_
    refine xg_icmp_lt (pc := 6) 11 C dX9_numberFor_6 (by decide) (fun hc => ?_) (fun hc => ?_)
    · have hF := hF.1 hc
      refine xg_iload_n (pc := 11) C dX9_numberFor_11 2 rfl ?_
      refine xg_iconst (pc := 12) (v := (-1)) C dX9_numberFor_12 (by decide) ?_
      refine xg_icmp_ne (pc := 13) 37 C dX9_numberFor_13 (by decide) (fun hc => ?_) (fun hc => ?_)
      · have hF := hF.1 hc
        refine xg_iload_n (pc := 37) C dX9_numberFor_37 2 rfl ?_
        refine xg_if_lt (pc := 38) 55 C dX9_numberFor_38 (by decide) (fun hc => ?_) (fun hc => ?_)
        · have hF := hF.1 hc
          refine xg_iconst (pc := 55) (v := (-1)) C dX9_numberFor_55 (by decide) ?_
          exact xg_retI (pc := 56) C E dX9_numberFor_56 hF
        · have hF := hF.2 hc
          refine xg_iload_n (pc := 41) C dX9_numberFor_41 2 rfl ?_
          refine xg_aload_n (pc := 42) C dX9_numberFor_42 0 rfl ?_
          refine xg_getr (pc := 43) (C1 := RX9) (T1 := TX9) (ci := 9) (ref := "SandGlasses$Told") C inm_X9_numberFor_9 rfl (by decide) 4 (by decide) rfl dX9_numberFor_43 (List.mem_of_getElem? (i := 1) rfl) rfl rfl hthis ?_
          refine xg_iload_n (pc := 46) C dX9_numberFor_46 1 rfl ?_
          obtain ⟨a1, ha1, hka1, hF⟩ := hF
          obtain ⟨hi, hF⟩ := hF
          refine xg_iald (pc := 47) C ha1 hka1 hi dX9_numberFor_47 ?_
          refine xg_icmp_ge (pc := 48) 55 C dX9_numberFor_48 (by decide) (fun hc => ?_) (fun hc => ?_)
          · have hF := hF.1 hc
            refine xg_iconst (pc := 55) (v := (-1)) C dX9_numberFor_55 (by decide) ?_
            exact xg_retI (pc := 56) C E dX9_numberFor_56 hF
          · have hF := hF.2 hc
            refine xg_iload_n (pc := 51) C dX9_numberFor_51 2 rfl ?_
            refine xg_goto (pc := 52) 56 C dX9_numberFor_52 (by decide) ?_
            exact xg_retI (pc := 56) C E dX9_numberFor_56 hF
      · have hF := hF.2 hc
        refine xg_aload_n (pc := 16) C dX9_numberFor_16 0 rfl ?_
        refine xg_getr (pc := 17) (C1 := RX9) (T1 := TX9) (ci := 9) (ref := "SandGlasses$Told") C inm_X9_numberFor_9 rfl (by decide) 4 (by decide) rfl dX9_numberFor_17 (List.mem_of_getElem? (i := 1) rfl) rfl rfl hthis ?_
        refine xg_iload_n (pc := 20) C dX9_numberFor_20 1 rfl ?_
        obtain ⟨a2, ha2, hka2, hF⟩ := hF
        obtain ⟨hi, hF⟩ := hF
        refine xg_iald (pc := 21) C ha2 hka2 hi dX9_numberFor_21 ?_
        refine xg_iconst (pc := 22) (v := 2) C dX9_numberFor_22 (by decide) ?_
        refine xg_icmp_ge (pc := 23) 35 C dX9_numberFor_23 (by decide) (fun hc => ?_) (fun hc => ?_)
        · have hF := hF.1 hc
          refine xg_iconst (pc := 35) (v := (-1)) C dX9_numberFor_35 (by decide) ?_
          exact xg_retI (pc := 36) C E dX9_numberFor_36 hF
        · have hF := hF.2 hc
          refine xg_aload_n (pc := 26) C dX9_numberFor_26 0 rfl ?_
          refine xg_getr (pc := 27) (C1 := RX9) (T1 := TX9) (ci := 9) (ref := "SandGlasses$Told") C inm_X9_numberFor_9 rfl (by decide) 4 (by decide) rfl dX9_numberFor_27 (List.mem_of_getElem? (i := 1) rfl) rfl rfl hthis ?_
          refine xg_iload_n (pc := 30) C dX9_numberFor_30 1 rfl ?_
          obtain ⟨hi, hF⟩ := hF
          refine xg_iald (pc := 31) C ha2 hka2 hi dX9_numberFor_31 ?_
          refine xg_goto (pc := 32) 36 C dX9_numberFor_32 (by decide) ?_
          exact xg_retI (pc := 36) C E dX9_numberFor_36 hF
    · have hF := hF.2 hc
      refine xg_iconst (pc := 9) (v := (-1)) C dX9_numberFor_9 (by decide) ?_
      exact xg_retI (pc := 10) C E dX9_numberFor_10 hF
def rm_X6_skipBlanks : Room := { frames := 0, cells := 0, slots := 0, locals := 0 }
theorem nd_X6_skipBlanks : yX6_skipBlanks.cls = RX6 ∧ yX6_skipBlanks.cls ≠ "java/lang/invoke/MethodHandle" ∧ yX6_skipBlanks.cls ≠ "java/lang/invoke/VarHandle" ∧ (parseMethodDescriptor yX6_skipBlanks.desc).map (fun d => d.parameters.length) = some 0 := by decide +kernel
theorem inm_X6_skipBlanks_6 : ∀ w ∈ u_ws RX6 TX6 (xg_N 6), w ∈ wsX6_skipBlanks := fun _ h9 => List.mem_cons_of_mem _ (List.mem_append_right _ h9)
set_option maxHeartbeats 4000000 in
set_option maxRecDepth 100000 in
theorem met_X6_skipBlanks (Y : xg_Y) (this : Nat) : xg_MV yX6_skipBlanks wsX6_skipBlanks rm_X6_skipBlanks Y (fun zs => [va_rf (some this)]) (fun Q h => wp_X6_skipBlanks Y Q this h) := by
  refine xg_startV (cc := cX6_skipBlanks) (maxL := 1) (own := RX6) (by decide) rfl rfl (fun zs => Nat.le_of_ble_eq_true rfl) (fun X Q h C hnL E hw => ?_)
  unfold wp_X6_skipBlanks at hw
  obtain ⟨hthis, hw⟩ := hw
  refine xg_sub (lv2 := [(0, va_rf (some this))]) [0] rfl ?_
  refine mg_use (hw (fun (h : xg_H) => xg_W X 0 0 Y 0 [(0, va_rf (some this))] [] h) (fun (h : xg_H) => xg_W X 0 0 Y 39 [(0, va_rf (some this))] [] h) ?_ ?_) (fun hF => ?_)
  · intro h hF
    refine xg_aload_n (pc := 0) C dX6_skipBlanks_0 0 rfl ?_
    refine xg_geti (pc := 1) (C1 := RX6) (T1 := TX6) (ci := 6) (ref := "SandGlasses$Reader") C inm_X6_skipBlanks_6 rfl (by decide) 7 (by decide) rfl dX6_skipBlanks_1 (List.mem_of_getElem? (i := 1) rfl) rfl rfl hthis ?_
    refine xg_aload_n (pc := 4) C dX6_skipBlanks_4 0 rfl ?_
    refine xg_geti (pc := 5) (C1 := RX6) (T1 := TX6) (ci := 6) (ref := "SandGlasses$Reader") C inm_X6_skipBlanks_6 rfl (by decide) 6 (by decide) rfl dX6_skipBlanks_5 (List.mem_of_getElem? (i := 2) rfl) rfl rfl hthis ?_
    refine xg_icmp_ge (pc := 8) 52 C dX6_skipBlanks_8 (by decide) (fun hc => ?_) (fun hc => ?_)
    · have hF := hF.1 hc
      exact xg_retV (pc := 52) C E dX6_skipBlanks_52 hF
    · have hF := hF.2 hc
      refine xg_aload_n (pc := 11) C dX6_skipBlanks_11 0 rfl ?_
      refine xg_getr (pc := 12) (C1 := RX6) (T1 := TX6) (ci := 6) (ref := "SandGlasses$Reader") C inm_X6_skipBlanks_6 rfl (by decide) 5 (by decide) rfl dX6_skipBlanks_12 (List.mem_of_getElem? (i := 3) rfl) rfl rfl hthis ?_
      refine xg_aload_n (pc := 15) C dX6_skipBlanks_15 0 rfl ?_
      refine xg_geti (pc := 16) (C1 := RX6) (T1 := TX6) (ci := 6) (ref := "SandGlasses$Reader") C inm_X6_skipBlanks_6 rfl (by decide) 7 (by decide) rfl dX6_skipBlanks_16 (List.mem_of_getElem? (i := 1) rfl) rfl rfl hthis ?_
      obtain ⟨a1, ha1, hka1, hF⟩ := hF
      obtain ⟨hi, hF⟩ := hF
      refine xg_iald (pc := 19) C ha1 hka1 hi dX6_skipBlanks_19 ?_
      refine xg_bipush (pc := 20) (v := 10) C dX6_skipBlanks_20 (by decide) ?_
      refine xg_icmp_eq (pc := 22) 39 C dX6_skipBlanks_22 (by decide) (fun hc => ?_) (fun hc => ?_)
      · have hF := hF.1 hc
        exact hF
      · have hF := hF.2 hc
        refine xg_aload_n (pc := 25) C dX6_skipBlanks_25 0 rfl ?_
        refine xg_getr (pc := 26) (C1 := RX6) (T1 := TX6) (ci := 6) (ref := "SandGlasses$Reader") C inm_X6_skipBlanks_6 rfl (by decide) 5 (by decide) rfl dX6_skipBlanks_26 (List.mem_of_getElem? (i := 3) rfl) rfl rfl hthis ?_
        refine xg_aload_n (pc := 29) C dX6_skipBlanks_29 0 rfl ?_
        refine xg_geti (pc := 30) (C1 := RX6) (T1 := TX6) (ci := 6) (ref := "SandGlasses$Reader") C inm_X6_skipBlanks_6 rfl (by decide) 7 (by decide) rfl dX6_skipBlanks_30 (List.mem_of_getElem? (i := 1) rfl) rfl rfl hthis ?_
        obtain ⟨hi, hF⟩ := hF
        refine xg_iald (pc := 33) C ha1 hka1 hi dX6_skipBlanks_33 ?_
        refine xg_bipush (pc := 34) (v := 32) C dX6_skipBlanks_34 (by decide) ?_
        refine xg_icmp_ne (pc := 36) 52 C dX6_skipBlanks_36 (by decide) (fun hc => ?_) (fun hc => ?_)
        · have hF := hF.1 hc
          exact xg_retV (pc := 52) C E dX6_skipBlanks_52 hF
        · have hF := hF.2 hc
          exact hF
  · intro h hF
    refine xg_aload_n (pc := 39) C dX6_skipBlanks_39 0 rfl ?_
    refine xg_dup (pc := 40) C dX6_skipBlanks_40 (xg_rf_cat _) ?_
    refine xg_geti (pc := 41) (C1 := RX6) (T1 := TX6) (ci := 6) (ref := "SandGlasses$Reader") C inm_X6_skipBlanks_6 rfl (by decide) 7 (by decide) rfl dX6_skipBlanks_41 (List.mem_of_getElem? (i := 1) rfl) rfl rfl hthis ?_
    refine xg_iconst (pc := 44) (v := 1) C dX6_skipBlanks_44 (by decide) ?_
    refine xg_iadd (pc := 45) C dX6_skipBlanks_45 ?_
    refine xg_puti (pc := 46) (C1 := RX6) (T1 := TX6) (ci := 6) (ref := "SandGlasses$Reader") C inm_X6_skipBlanks_6 rfl (by decide) tyX6 tyX6_ok nmX6 7 (by decide) rfl dX6_skipBlanks_46 (List.mem_of_getElem? (i := 1) rfl) rfl rfl (tyX6_ok 7 (by decide)) rfl hthis (fun h2 eh2 => ?_)
    have hF := hF h2 eh2
    refine xg_goto (pc := 49) 0 C dX6_skipBlanks_49 (by decide) ?_
    exact hF
  · skip
    exact hF
def rm_X6_rowEnd : Room := { frames := 0, cells := 0, slots := 0, locals := 0 }
theorem nd_X6_rowEnd : yX6_rowEnd.cls = RX6 ∧ yX6_rowEnd.cls ≠ "java/lang/invoke/MethodHandle" ∧ yX6_rowEnd.cls ≠ "java/lang/invoke/VarHandle" ∧ (parseMethodDescriptor yX6_rowEnd.desc).map (fun d => d.parameters.length) = some 2 := by decide +kernel
theorem inm_X6_rowEnd_6 : ∀ w ∈ u_ws RX6 TX6 (xg_N 6), w ∈ wsX6_rowEnd := fun _ h9 => List.mem_cons_of_mem _ (List.mem_append_right _ h9)
set_option maxHeartbeats 4000000 in
set_option maxRecDepth 100000 in
theorem met_X6_rowEnd (Y : xg_Y) (this : Nat) (x1 : Int32) (x2 : Int32) : xg_MI yX6_rowEnd wsX6_rowEnd rm_X6_rowEnd Y (fun zs => [va_rf (some this), .int x1, .int x2]) (fun Q h => wp_X6_rowEnd Y Q this x1 x2 h) := by
  refine xg_startI (cc := cX6_rowEnd) (maxL := 4) (own := RX6) (by decide) rfl rfl (fun zs => Nat.le_of_ble_eq_true rfl) (fun X Q h C hnL E hw => ?_)
  unfold wp_X6_rowEnd at hw
  obtain ⟨hthis, hw⟩ := hw
  refine xg_sub (lv2 := [(0, va_rf (some this)), (1, .int x1), (2, .int x2)]) [0, 1, 2] rfl ?_
  refine mg_use (hw (fun (y3 : Int32) (h : xg_H) => xg_W X 0 0 Y 5 [(0, va_rf (some this)), (1, .int x1), (2, .int x2), (3, .int y3)] [] h) ?_) (fun hF => ?_)
  · intro y3 h hF
    refine xg_iload_n (pc := 5) C dX6_rowEnd_5 3 rfl ?_
    refine xg_aload_n (pc := 6) C dX6_rowEnd_6 0 rfl ?_
    refine xg_geti (pc := 7) (C1 := RX6) (T1 := TX6) (ci := 6) (ref := "SandGlasses$Reader") C inm_X6_rowEnd_6 rfl (by decide) 6 (by decide) rfl dX6_rowEnd_7 (List.mem_of_getElem? (i := 2) rfl) rfl rfl hthis ?_
    refine xg_icmp_ge (pc := 10) 39 C dX6_rowEnd_10 (by decide) (fun hc => ?_) (fun hc => ?_)
    · have hF := hF.1 hc
      refine xg_iload_n (pc := 39) C dX6_rowEnd_39 3 rfl ?_
      exact xg_retI (pc := 40) C E dX6_rowEnd_40 hF
    · have hF := hF.2 hc
      refine xg_aload_n (pc := 13) C dX6_rowEnd_13 0 rfl ?_
      refine xg_getr (pc := 14) (C1 := RX6) (T1 := TX6) (ci := 6) (ref := "SandGlasses$Reader") C inm_X6_rowEnd_6 rfl (by decide) 5 (by decide) rfl dX6_rowEnd_14 (List.mem_of_getElem? (i := 3) rfl) rfl rfl hthis ?_
      refine xg_iload_n (pc := 17) C dX6_rowEnd_17 3 rfl ?_
      obtain ⟨a2, ha2, hka2, hF⟩ := hF
      obtain ⟨hi, hF⟩ := hF
      refine xg_iald (pc := 18) C ha2 hka2 hi dX6_rowEnd_18 ?_
      refine xg_iload_n (pc := 19) C dX6_rowEnd_19 1 rfl ?_
      refine xg_icmp_lt (pc := 20) 39 C dX6_rowEnd_20 (by decide) (fun hc => ?_) (fun hc => ?_)
      · have hF := hF.1 hc
        refine xg_iload_n (pc := 39) C dX6_rowEnd_39 3 rfl ?_
        exact xg_retI (pc := 40) C E dX6_rowEnd_40 hF
      · have hF := hF.2 hc
        refine xg_aload_n (pc := 23) C dX6_rowEnd_23 0 rfl ?_
        refine xg_getr (pc := 24) (C1 := RX6) (T1 := TX6) (ci := 6) (ref := "SandGlasses$Reader") C inm_X6_rowEnd_6 rfl (by decide) 5 (by decide) rfl dX6_rowEnd_24 (List.mem_of_getElem? (i := 3) rfl) rfl rfl hthis ?_
        refine xg_iload_n (pc := 27) C dX6_rowEnd_27 3 rfl ?_
        obtain ⟨hi, hF⟩ := hF
        refine xg_iald (pc := 28) C ha2 hka2 hi dX6_rowEnd_28 ?_
        refine xg_iload_n (pc := 29) C dX6_rowEnd_29 2 rfl ?_
        refine xg_icmp_gt (pc := 30) 39 C dX6_rowEnd_30 (by decide) (fun hc => ?_) (fun hc => ?_)
        · have hF := hF.1 hc
          refine xg_iload_n (pc := 39) C dX6_rowEnd_39 3 rfl ?_
          exact xg_retI (pc := 40) C E dX6_rowEnd_40 hF
        · have hF := hF.2 hc
          obtain ⟨z3, ez3⟩ : ∃ y : Int32, y = y3 + 1 := ⟨_, rfl⟩
          have hF := hF z3 ez3
          refine xg_iinc (pc := 33) (v := z3) (lv2 := [(3, .int z3), (0, va_rf (some this)), (1, .int x1), (2, .int x2)]) C dX6_rowEnd_33 3 rfl (by rw [ez3]; rfl) 4 hnL (by decide) rfl ?_
          refine xg_goto (pc := 36) 5 C dX6_rowEnd_36 (by decide) ?_
          refine xg_sub (lv2 := [(0, va_rf (some this)), (1, .int x1), (2, .int x2), (3, .int z3)]) [1, 2, 3, 0] rfl ?_
          exact hF
  · skip
    refine xg_aload_n (pc := 0) C dX6_rowEnd_0 0 rfl ?_
    refine xg_geti (pc := 1) (C1 := RX6) (T1 := TX6) (ci := 6) (ref := "SandGlasses$Reader") C inm_X6_rowEnd_6 rfl (by decide) 7 (by decide) rfl dX6_rowEnd_1 (List.mem_of_getElem? (i := 1) rfl) rfl rfl hthis ?_
    refine xg_topi (pc := 4) (fun z1 ez1 => ?_)
    have hF := hF z1 ez1
    refine xg_istore_n (pc := 4) (lv2 := [(3, .int z1), (0, va_rf (some this)), (1, .int x1), (2, .int x2)]) C dX6_rowEnd_4 4 hnL (by decide) rfl ?_
    refine xg_sub (lv2 := [(0, va_rf (some this)), (1, .int x1), (2, .int x2), (3, .int z1)]) [1, 2, 3, 0] rfl ?_
    exact hF
def rm_X6_spelling : Room := { frames := 0, cells := 0, slots := 0, locals := 0 }
theorem nd_X6_spelling : yX6_spelling.cls = RX6 ∧ yX6_spelling.cls ≠ "java/lang/invoke/MethodHandle" ∧ yX6_spelling.cls ≠ "java/lang/invoke/VarHandle" ∧ (parseMethodDescriptor yX6_spelling.desc).map (fun d => d.parameters.length) = some 1 := by decide +kernel
set_option maxHeartbeats 4000000 in
set_option maxRecDepth 100000 in
theorem met_X6_spelling (Y : xg_Y) (x0 : Int32) : xg_MT yX6_spelling wsX6_spelling rm_X6_spelling Y (fun zs => [.int x0]) (fun Q h => wp_X6_spelling Y Q x0 h) := by
  refine xg_startT (cc := cX6_spelling) (maxL := 1) (own := RX6) (by decide) rfl rfl (fun zs => Nat.le_of_ble_eq_true rfl) (fun X Q h C hnL E hw => ?_)
  unfold wp_X6_spelling at hw
  refine xg_sub (lv2 := [(0, .int x0)]) [0] rfl ?_
  have hF := hw
  refine xg_iload_n (pc := 0) C dX6_spelling_0 0 rfl ?_
  by_cases hs0 : x0 = 0
  · have hF := hF.1 hs0
    refine xg_tabIn (pc := 1) 52 C dX6_spelling_1 (by rw [hs0]; decide) (by rw [hs0]; decide) (off := 51) (by rw [hs0]; rfl) (by decide) ?_
    refine xg_ldcs (pc := 52) C 0 (by decide) rfl rfl dX6_spelling_52 ?_
    exact xg_retT (pc := 54) C E (Or.inl ⟨_, rfl⟩) dX6_spelling_54 hF
  have hF := hF.2
  by_cases hs1 : x0 = 1
  · have hF := hF.1 hs1
    refine xg_tabIn (pc := 1) 55 C dX6_spelling_1 (by rw [hs1]; decide) (by rw [hs1]; decide) (off := 54) (by rw [hs1]; rfl) (by decide) ?_
    refine xg_ldcs (pc := 55) C 1 (by decide) rfl rfl dX6_spelling_55 ?_
    exact xg_retT (pc := 57) C E (Or.inl ⟨_, rfl⟩) dX6_spelling_57 hF
  have hF := hF.2
  by_cases hs2 : x0 = 2
  · have hF := hF.1 hs2
    refine xg_tabIn (pc := 1) 58 C dX6_spelling_1 (by rw [hs2]; decide) (by rw [hs2]; decide) (off := 57) (by rw [hs2]; rfl) (by decide) ?_
    refine xg_ldcs (pc := 58) C 2 (by decide) rfl rfl dX6_spelling_58 ?_
    exact xg_retT (pc := 60) C E (Or.inl ⟨_, rfl⟩) dX6_spelling_60 hF
  have hF := hF.2
  by_cases hs3 : x0 = 3
  · have hF := hF.1 hs3
    refine xg_tabIn (pc := 1) 61 C dX6_spelling_1 (by rw [hs3]; decide) (by rw [hs3]; decide) (off := 60) (by rw [hs3]; rfl) (by decide) ?_
    refine xg_ldcs (pc := 61) C 3 (by decide) rfl rfl dX6_spelling_61 ?_
    exact xg_retT (pc := 63) C E (Or.inl ⟨_, rfl⟩) dX6_spelling_63 hF
  have hF := hF.2
  by_cases hs4 : x0 = 4
  · have hF := hF.1 hs4
    refine xg_tabIn (pc := 1) 64 C dX6_spelling_1 (by rw [hs4]; decide) (by rw [hs4]; decide) (off := 63) (by rw [hs4]; rfl) (by decide) ?_
    refine xg_ldcs (pc := 64) C 4 (by decide) rfl rfl dX6_spelling_64 ?_
    exact xg_retT (pc := 66) C E (Or.inl ⟨_, rfl⟩) dX6_spelling_66 hF
  have hF := hF.2
  by_cases hs5 : x0 = 5
  · have hF := hF.1 hs5
    refine xg_tabIn (pc := 1) 67 C dX6_spelling_1 (by rw [hs5]; decide) (by rw [hs5]; decide) (off := 66) (by rw [hs5]; rfl) (by decide) ?_
    refine xg_ldcs (pc := 67) C 5 (by decide) rfl rfl dX6_spelling_67 ?_
    exact xg_retT (pc := 69) C E (Or.inl ⟨_, rfl⟩) dX6_spelling_69 hF
  have hF := hF.2
  by_cases hs6 : x0 = 6
  · have hF := hF.1 hs6
    refine xg_tabIn (pc := 1) 70 C dX6_spelling_1 (by rw [hs6]; decide) (by rw [hs6]; decide) (off := 69) (by rw [hs6]; rfl) (by decide) ?_
    refine xg_ldcs (pc := 70) C 6 (by decide) rfl rfl dX6_spelling_70 ?_
    exact xg_retT (pc := 72) C E (Or.inl ⟨_, rfl⟩) dX6_spelling_72 hF
  have hF := hF.2
  by_cases hs7 : x0 = 7
  · have hF := hF.1 hs7
    refine xg_tabIn (pc := 1) 73 C dX6_spelling_1 (by rw [hs7]; decide) (by rw [hs7]; decide) (off := 72) (by rw [hs7]; rfl) (by decide) ?_
    refine xg_ldcs (pc := 73) C 7 (by decide) rfl rfl dX6_spelling_73 ?_
    exact xg_retT (pc := 75) C E (Or.inl ⟨_, rfl⟩) dX6_spelling_75 hF
  have hF := hF.2
  by_cases hs8 : x0 = 8
  · have hF := hF.1 hs8
    refine xg_tabIn (pc := 1) 76 C dX6_spelling_1 (by rw [hs8]; decide) (by rw [hs8]; decide) (off := 75) (by rw [hs8]; rfl) (by decide) ?_
    refine xg_ldcs (pc := 76) C 8 (by decide) rfl rfl dX6_spelling_76 ?_
    exact xg_retT (pc := 78) C E (Or.inl ⟨_, rfl⟩) dX6_spelling_78 hF
  have hF := hF.2
  have hF := hF hs0 hs1 hs2 hs3 hs4 hs5 hs6 hs7 hs8
  refine xg_tabOut (pc := 1) 79 C dX6_spelling_1 (mg_swd x0 0 8 (fun v h1 h2 => ?_)) (by decide) ?_
  · rcases (show v = 0 ∨ v = 1 ∨ v = 2 ∨ v = 3 ∨ v = 4 ∨ v = 5 ∨ v = 6 ∨ v = 7 ∨ v = 8 by omega) with rfl | rfl | rfl | rfl | rfl | rfl | rfl | rfl | rfl
    · exact hs0
    · exact hs1
    · exact hs2
    · exact hs3
    · exact hs4
    · exact hs5
    · exact hs6
    · exact hs7
    · exact hs8
  refine xg_ldcs (pc := 79) C 9 (by decide) rfl rfl dX6_spelling_79 ?_
  exact xg_retT (pc := 81) C E (Or.inl ⟨_, rfl⟩) dX6_spelling_81 hF
def rm_X6_isHere : Room := { frames := 4, cells := 0, slots := 0, locals := 85 }
theorem nd_X6_isHere : yX6_isHere.cls = RX6 ∧ yX6_isHere.cls ≠ "java/lang/invoke/MethodHandle" ∧ yX6_isHere.cls ≠ "java/lang/invoke/VarHandle" ∧ (parseMethodDescriptor yX6_isHere.desc).map (fun d => d.parameters.length) = some 2 := by decide +kernel
theorem inm_X6_isHere_6 : ∀ w ∈ u_ws RX6 TX6 (xg_N 6), w ∈ wsX6_isHere := fun _ h9 => List.mem_cons_of_mem _ (List.mem_append_right _ h9)
set_option maxHeartbeats 4000000 in
set_option maxRecDepth 100000 in
theorem met_X6_isHere (Y : xg_Y) (this : Nat) (x1 : Nat) (x2 : Int32) : xg_MI yX6_isHere wsX6_isHere rm_X6_isHere Y (fun zs => [va_rf (some this), va_rf (some (zs (10 + x1))), .int x2]) (fun Q h => wp_X6_isHere Y Q this x1 x2 h) := by
  refine xg_startI (cc := cX6_isHere) (maxL := 4) (own := RX6) (by decide) rfl rfl (fun zs => Nat.le_of_ble_eq_true rfl) (fun X Q h C hnL E hw => ?_)
  unfold wp_X6_isHere at hw
  obtain ⟨hTx1, hw⟩ := hw
  obtain ⟨hthis, hw⟩ := hw
  refine xg_sub (lv2 := [(0, va_rf (some this)), (1, va_rf (some (xg_zs X (10 + x1)))), (2, .int x2)]) [0, 1, 2] rfl ?_
  refine mg_use (hw (fun (y3 : Int32) (h : xg_H) => xg_W X 0 0 Y 17 [(0, va_rf (some this)), (1, va_rf (some (xg_zs X (10 + x1)))), (3, .int y3)] [] h) ?_) (fun hF => ?_)
  · intro y3 h hF
    refine xg_iload_n (pc := 17) C dX6_isHere_17 2 rfl ?_
    refine xg_aload_n (pc := 18) C dX6_isHere_18 1 rfl ?_
    refine xg_ctI (pc := 19) (k := x1) C (fun zs => []) hTx1 (met_J0_length_8abf5 Y x1) gX6_isHere_J0_length_8abf5 rfl ⟨rfl, rfl⟩ nd_J0_length_8abf5 ⟨Nat.le_of_ble_eq_true rfl, Nat.le_of_ble_eq_true rfl⟩ rfl rfl (Nat.le_of_ble_eq_true rfl) ⟨Nat.zero_le _, Nat.zero_le _⟩ dX6_isHere_19 hF (fun r4 h3 hF => ?_)
    refine xg_icmp_ge (pc := 22) 52 C dX6_isHere_22 (by decide) (fun hc => ?_) (fun hc => ?_)
    · have hF := hF.1 hc
      refine xg_iconst (pc := 52) (v := 1) C dX6_isHere_52 (by decide) ?_
      exact xg_retZ (pc := 53) C E (Or.inr rfl) dX6_isHere_53 hF
    · have hF := hF.2 hc
      refine xg_aload_n (pc := 25) C dX6_isHere_25 0 rfl ?_
      refine xg_getr (pc := 26) (C1 := RX6) (T1 := TX6) (ci := 6) (ref := "SandGlasses$Reader") C inm_X6_isHere_6 rfl (by decide) 5 (by decide) rfl dX6_isHere_26 (List.mem_of_getElem? (i := 2) rfl) rfl rfl hthis ?_
      refine xg_aload_n (pc := 29) C dX6_isHere_29 0 rfl ?_
      refine xg_geti (pc := 30) (C1 := RX6) (T1 := TX6) (ci := 6) (ref := "SandGlasses$Reader") C inm_X6_isHere_6 rfl (by decide) 7 (by decide) rfl dX6_isHere_30 (List.mem_of_getElem? (i := 1) rfl) rfl rfl hthis ?_
      refine xg_iload_n (pc := 33) C dX6_isHere_33 2 rfl ?_
      refine xg_iadd (pc := 34) C dX6_isHere_34 ?_
      obtain ⟨a5, ha5, hka5, hF⟩ := hF
      obtain ⟨hi, hF⟩ := hF
      refine xg_iald (pc := 35) C ha5 hka5 hi dX6_isHere_35 ?_
      refine xg_aload_n (pc := 36) C dX6_isHere_36 1 rfl ?_
      refine xg_iload_n (pc := 37) C dX6_isHere_37 2 rfl ?_
      refine xg_ctI (pc := 38) (k := x1) C (fun zs => [.int y3]) hTx1 (met_J0_charAt_5068e Y x1 y3) gX6_isHere_J0_charAt_5068e rfl ⟨rfl, rfl⟩ nd_J0_charAt_5068e ⟨Nat.le_of_ble_eq_true rfl, Nat.le_of_ble_eq_true rfl⟩ rfl rfl (Nat.le_of_ble_eq_true rfl) ⟨Nat.zero_le _, Nat.zero_le _⟩ dX6_isHere_38 hF (fun r7 h6 hF => ?_)
      refine xg_icmp_eq (pc := 41) 46 C dX6_isHere_41 (by decide) (fun hc => ?_) (fun hc => ?_)
      · have hF := hF.1 hc
        obtain ⟨z8, ez8⟩ : ∃ y : Int32, y = y3 + 1 := ⟨_, rfl⟩
        have hF := hF z8 ez8
        refine xg_iinc (pc := 46) (v := z8) (lv2 := [(3, .int z8), (0, va_rf (some this)), (1, va_rf (some (xg_zs X (10 + x1))))]) C dX6_isHere_46 2 rfl (by rw [ez8]; rfl) 4 hnL (by decide) rfl ?_
        refine xg_goto (pc := 49) 17 C dX6_isHere_49 (by decide) ?_
        refine xg_sub (lv2 := [(0, va_rf (some this)), (1, va_rf (some (xg_zs X (10 + x1)))), (3, .int z8)]) [1, 2, 0] rfl ?_
        exact hF
      · have hF := hF.2 hc
        refine xg_iconst (pc := 44) (v := 0) C dX6_isHere_44 (by decide) ?_
        exact xg_retZ (pc := 45) C E (Or.inl rfl) dX6_isHere_45 hF
  · skip
    refine xg_iload_n (pc := 0) C dX6_isHere_0 2 rfl ?_
    refine xg_aload_n (pc := 1) C dX6_isHere_1 0 rfl ?_
    refine xg_geti (pc := 2) (C1 := RX6) (T1 := TX6) (ci := 6) (ref := "SandGlasses$Reader") C inm_X6_isHere_6 rfl (by decide) 7 (by decide) rfl dX6_isHere_2 (List.mem_of_getElem? (i := 1) rfl) rfl rfl hthis ?_
    refine xg_isub (pc := 5) C dX6_isHere_5 ?_
    refine xg_aload_n (pc := 6) C dX6_isHere_6 1 rfl ?_
    refine xg_ctI (pc := 7) (k := x1) C (fun zs => []) hTx1 (met_J0_length_8abf5 Y x1) gX6_isHere_J0_length_8abf5 rfl ⟨rfl, rfl⟩ nd_J0_length_8abf5 ⟨Nat.le_of_ble_eq_true rfl, Nat.le_of_ble_eq_true rfl⟩ rfl rfl (Nat.le_of_ble_eq_true rfl) ⟨Nat.zero_le _, Nat.zero_le _⟩ dX6_isHere_7 hF (fun r2 h1 hF => ?_)
    refine xg_icmp_eq (pc := 10) 15 C dX6_isHere_10 (by decide) (fun hc => ?_) (fun hc => ?_)
    · have hF := hF.1 hc
      refine xg_iconst (pc := 15) (v := 0) C dX6_isHere_15 (by decide) ?_
      refine xg_istore_n (pc := 16) (lv2 := [(3, .int 0), (0, va_rf (some this)), (1, va_rf (some (xg_zs X (10 + x1)))), (2, .int x2)]) C dX6_isHere_16 4 hnL (by decide) rfl ?_
      refine xg_sub (lv2 := [(0, va_rf (some this)), (1, va_rf (some (xg_zs X (10 + x1)))), (3, .int 0)]) [1, 2, 0] rfl ?_
      exact hF
    · have hF := hF.2 hc
      refine xg_iconst (pc := 13) (v := 0) C dX6_isHere_13 (by decide) ?_
      exact xg_retZ (pc := 14) C E (Or.inl rfl) dX6_isHere_14 hF
def rm_X6_wordHere : Room := { frames := 5, cells := 0, slots := 0, locals := 108 }
theorem nd_X6_wordHere : yX6_wordHere.cls = RX6 ∧ yX6_wordHere.cls ≠ "java/lang/invoke/MethodHandle" ∧ yX6_wordHere.cls ≠ "java/lang/invoke/VarHandle" ∧ (parseMethodDescriptor yX6_wordHere.desc).map (fun d => d.parameters.length) = some 0 := by decide +kernel
theorem inm_X6_wordHere_6 : ∀ w ∈ u_ws RX6 TX6 (xg_N 6), w ∈ wsX6_wordHere := fun _ h9 => List.mem_cons_of_mem _ (List.mem_append_right _ h9)
set_option maxHeartbeats 4000000 in
set_option maxRecDepth 100000 in
theorem met_X6_wordHere (Y : xg_Y) (this : Nat) : xg_MI yX6_wordHere wsX6_wordHere rm_X6_wordHere Y (fun zs => [va_rf (some this)]) (fun Q h => wp_X6_wordHere Y Q this h) := by
  refine xg_startI (cc := cX6_wordHere) (maxL := 3) (own := RX6) (by decide) rfl rfl (fun zs => Nat.le_of_ble_eq_true rfl) (fun X Q h C hnL E hw => ?_)
  unfold wp_X6_wordHere at hw
  obtain ⟨hthis, hw⟩ := hw
  refine xg_sub (lv2 := [(0, va_rf (some this))]) [0] rfl ?_
  refine mg_use (hw (fun (y1 : Int32) (y2 : Int32) (h : xg_H) => xg_W X 0 0 Y 11 [(0, va_rf (some this)), (1, .int y1), (2, .int y2)] [] h) (fun (y1 : Int32) (y2 : Int32) (h : xg_H) => xg_W X 0 0 Y 43 [(0, va_rf (some this)), (1, .int y1), (2, .int y2)] [] h) ?_ ?_) (fun hF => ?_)
  · intro y1 y2 h hF
    refine xg_iload_n (pc := 11) C dX6_wordHere_11 2 rfl ?_
    refine xg_bipush (pc := 12) (v := 10) C dX6_wordHere_12 (by decide) ?_
    refine xg_icmp_ge (pc := 14) 49 C dX6_wordHere_14 (by decide) (fun hc => ?_) (fun hc => ?_)
    · have hF := hF.1 hc
      refine xg_iconst (pc := 49) (v := (-1)) C dX6_wordHere_49 (by decide) ?_
      exact xg_retI (pc := 50) C E dX6_wordHere_50 hF
    · have hF := hF.2 hc
      refine xg_gets (pc := 17) (ref := "SandGlasses$Reader") C 3 (by decide) dX6_wordHere_17 (List.mem_of_getElem? (i := 1) rfl) rfl ?_
      refine xg_iload_n (pc := 20) C dX6_wordHere_20 2 rfl ?_
      obtain ⟨hi, hF⟩ := hF
      refine xg_sld (pc := 21) C 3 (by decide) hi dX6_wordHere_21 ?_
      refine xg_aload_n (pc := 22) C dX6_wordHere_22 0 rfl ?_
      refine xg_geti (pc := 23) (C1 := RX6) (T1 := TX6) (ci := 6) (ref := "SandGlasses$Reader") C inm_X6_wordHere_6 rfl (by decide) 8 (by decide) rfl dX6_wordHere_23 (List.mem_of_getElem? (i := 2) rfl) rfl rfl hthis ?_
      refine xg_icmp_ne (pc := 26) 43 C dX6_wordHere_26 (by decide) (fun hc => ?_) (fun hc => ?_)
      · have hF := hF.1 hc
        exact hF
      · have hF := hF.2 hc
        refine xg_aload_n (pc := 29) C dX6_wordHere_29 0 rfl ?_
        refine xg_iload_n (pc := 30) C dX6_wordHere_30 2 rfl ?_
        refine xg_csT (pc := 31) C (fun zs => [.int y2]) (met_X6_spelling Y y2) gX6_wordHere_X6_spelling rfl ⟨rfl, rfl⟩ nd_X6_spelling.2 ⟨Nat.le_of_ble_eq_true rfl, Nat.le_of_ble_eq_true rfl⟩ rfl rfl (Nat.le_of_ble_eq_true rfl) ⟨Nat.zero_le _, Nat.zero_le _⟩ dX6_wordHere_31 hF (fun r4 h3 hF => ?_)
        refine xg_iload_n (pc := 34) C dX6_wordHere_34 1 rfl ?_
        refine xg_cvI (pc := 35) (C1 := RX6) (T1 := TX6) (ci := 6) C (fun zs => [va_rf (some (zs (10 + r4))), .int y1]) rfl hthis (by decide) rfl (met_X6_isHere Y this r4 y1) gX6_wordHere_X6_isHere rfl ⟨rfl, rfl⟩ nd_X6_isHere ⟨Nat.le_of_ble_eq_true rfl, Nat.le_of_ble_eq_true rfl⟩ rfl rfl (Nat.le_of_ble_eq_true rfl) ⟨Nat.zero_le _, Nat.zero_le _⟩ dX6_wordHere_35 hF (fun r6 h5 hF => ?_)
        refine xg_if_eq (pc := 38) 43 C dX6_wordHere_38 (by decide) (fun hc => ?_) (fun hc => ?_)
        · have hF := hF.1 hc
          exact hF
        · have hF := hF.2 hc
          refine xg_iload_n (pc := 41) C dX6_wordHere_41 2 rfl ?_
          exact xg_retI (pc := 42) C E dX6_wordHere_42 hF
  · intro y1 y2 h hF
    obtain ⟨z7, ez7⟩ : ∃ y : Int32, y = y2 + 1 := ⟨_, rfl⟩
    have hF := hF z7 ez7
    refine xg_iinc (pc := 43) (v := z7) (lv2 := [(2, .int z7), (0, va_rf (some this)), (1, .int y1)]) C dX6_wordHere_43 2 rfl (by rw [ez7]; rfl) 3 hnL (by decide) rfl ?_
    refine xg_goto (pc := 46) 11 C dX6_wordHere_46 (by decide) ?_
    refine xg_sub (lv2 := [(0, va_rf (some this)), (1, .int y1), (2, .int z7)]) [1, 2, 0] rfl ?_
    exact hF
  · skip
    refine xg_aload_n (pc := 0) C dX6_wordHere_0 0 rfl ?_
    refine xg_bipush (pc := 1) (v := 97) C dX6_wordHere_1 (by decide) ?_
    refine xg_bipush (pc := 3) (v := 122) C dX6_wordHere_3 (by decide) ?_
    refine xg_cvI (pc := 5) (C1 := RX6) (T1 := TX6) (ci := 6) C (fun zs => [.int 97, .int 122]) rfl hthis (by decide) rfl (met_X6_rowEnd Y this 97 122) gX6_wordHere_X6_rowEnd rfl ⟨rfl, rfl⟩ nd_X6_rowEnd ⟨Nat.le_of_ble_eq_true rfl, Nat.le_of_ble_eq_true rfl⟩ rfl rfl (Nat.le_of_ble_eq_true rfl) ⟨Nat.zero_le _, Nat.zero_le _⟩ dX6_wordHere_5 hF (fun r2 h1 hF => ?_)
    refine xg_istore_n (pc := 8) (lv2 := [(1, .int r2), (0, va_rf (some this))]) C dX6_wordHere_8 3 hnL (by decide) rfl ?_
    refine xg_iconst (pc := 9) (v := 0) C dX6_wordHere_9 (by decide) ?_
    refine xg_istore_n (pc := 10) (lv2 := [(2, .int 0), (1, .int r2), (0, va_rf (some this))]) C dX6_wordHere_10 3 hnL (by decide) rfl ?_
    refine xg_sub (lv2 := [(0, va_rf (some this)), (1, .int r2), (2, .int 0)]) [2, 1, 0] rfl ?_
    exact hF
def rm_X6_breakOff : Room := { frames := 0, cells := 0, slots := 0, locals := 0 }
theorem nd_X6_breakOff : yX6_breakOff.cls = RX6 ∧ yX6_breakOff.cls ≠ "java/lang/invoke/MethodHandle" ∧ yX6_breakOff.cls ≠ "java/lang/invoke/VarHandle" ∧ (parseMethodDescriptor yX6_breakOff.desc).map (fun d => d.parameters.length) = some 0 := by decide +kernel
theorem inm_X6_breakOff_6 : ∀ w ∈ u_ws RX6 TX6 (xg_N 6), w ∈ wsX6_breakOff := fun _ h9 => List.mem_cons_of_mem _ (List.mem_append_right _ h9)
set_option maxHeartbeats 4000000 in
set_option maxRecDepth 100000 in
theorem met_X6_breakOff (Y : xg_Y) (this : Nat) : xg_MV yX6_breakOff wsX6_breakOff rm_X6_breakOff Y (fun zs => [va_rf (some this)]) (fun Q h => wp_X6_breakOff Y Q this h) := by
  refine xg_startV (cc := cX6_breakOff) (maxL := 1) (own := RX6) (by decide) rfl rfl (fun zs => Nat.le_of_ble_eq_true rfl) (fun X Q h C hnL E hw => ?_)
  unfold wp_X6_breakOff at hw
  obtain ⟨hthis, hw⟩ := hw
  refine xg_sub (lv2 := [(0, va_rf (some this))]) [0] rfl ?_
  have hF := hw
  refine xg_aload_n (pc := 0) C dX6_breakOff_0 0 rfl ?_
  refine xg_iconst (pc := 1) (v := 1) C dX6_breakOff_1 (by decide) ?_
  refine xg_puti (pc := 2) (C1 := RX6) (T1 := TX6) (ci := 6) (ref := "SandGlasses$Reader") C inm_X6_breakOff_6 rfl (by decide) tyX6 tyX6_ok nmX6 0 (by decide) rfl dX6_breakOff_2 (List.mem_of_getElem? (i := 1) rfl) rfl rfl (tyX6_ok 0 (by decide)) rfl hthis (fun h1 eh1 => ?_)
  have hF := hF h1 eh1
  refine xg_aload_n (pc := 5) C dX6_breakOff_5 0 rfl ?_
  refine xg_aload_n (pc := 6) C dX6_breakOff_6 0 rfl ?_
  refine xg_geti (pc := 7) (C1 := RX6) (T1 := TX6) (ci := 6) (ref := "SandGlasses$Reader") C inm_X6_breakOff_6 rfl (by decide) 7 (by decide) rfl dX6_breakOff_7 (List.mem_of_getElem? (i := 2) rfl) rfl rfl hthis ?_
  refine xg_puti (pc := 10) (C1 := RX6) (T1 := TX6) (ci := 6) (ref := "SandGlasses$Reader") C inm_X6_breakOff_6 rfl (by decide) tyX6 tyX6_ok nmX6 1 (by decide) rfl dX6_breakOff_10 (List.mem_of_getElem? (i := 3) rfl) rfl rfl (tyX6_ok 1 (by decide)) rfl hthis (fun h2 eh2 => ?_)
  have hF := hF h2 eh2
  exact xg_retV (pc := 13) C E dX6_breakOff_13 hF
def rm_X6_note : Room := { frames := 0, cells := 0, slots := 0, locals := 0 }
theorem nd_X6_note : yX6_note.cls = RX6 ∧ yX6_note.cls ≠ "java/lang/invoke/MethodHandle" ∧ yX6_note.cls ≠ "java/lang/invoke/VarHandle" ∧ (parseMethodDescriptor yX6_note.desc).map (fun d => d.parameters.length) = some 2 := by decide +kernel
theorem inm_X6_note_6 : ∀ w ∈ u_ws RX6 TX6 (xg_N 6), w ∈ wsX6_note := fun _ h9 => List.mem_cons_of_mem _ (List.mem_append_right _ h9)
set_option maxHeartbeats 4000000 in
set_option maxRecDepth 100000 in
theorem met_X6_note (Y : xg_Y) (this : Nat) (x1 : Int32) (x2 : Int32) : xg_MV yX6_note wsX6_note rm_X6_note Y (fun zs => [va_rf (some this), .int x1, .int x2]) (fun Q h => wp_X6_note Y Q this x1 x2 h) := by
  refine xg_startV (cc := cX6_note) (maxL := 3) (own := RX6) (by decide) rfl rfl (fun zs => Nat.le_of_ble_eq_true rfl) (fun X Q h C hnL E hw => ?_)
  unfold wp_X6_note at hw
  obtain ⟨hthis, hw⟩ := hw
  refine xg_sub (lv2 := [(0, va_rf (some this)), (1, .int x1), (2, .int x2)]) [0, 1, 2] rfl ?_
  have hF := hw
  refine xg_aload_n (pc := 0) C dX6_note_0 0 rfl ?_
  refine xg_geti (pc := 1) (C1 := RX6) (T1 := TX6) (ci := 6) (ref := "SandGlasses$Reader") C inm_X6_note_6 rfl (by decide) 0 (by decide) rfl dX6_note_1 (List.mem_of_getElem? (i := 1) rfl) rfl rfl hthis ?_
  refine xg_if_ne (pc := 4) 17 C dX6_note_4 (by decide) (fun hc => ?_) (fun hc => ?_)
  · have hF := hF.1 hc
    exact xg_retV (pc := 17) C E dX6_note_17 hF
  · have hF := hF.2 hc
    refine xg_aload_n (pc := 7) C dX6_note_7 0 rfl ?_
    refine xg_iload_n (pc := 8) C dX6_note_8 1 rfl ?_
    refine xg_puti (pc := 9) (C1 := RX6) (T1 := TX6) (ci := 6) (ref := "SandGlasses$Reader") C inm_X6_note_6 rfl (by decide) tyX6 tyX6_ok nmX6 0 (by decide) rfl dX6_note_9 (List.mem_of_getElem? (i := 1) rfl) rfl rfl (tyX6_ok 0 (by decide)) rfl hthis (fun h1 eh1 => ?_)
    have hF := hF h1 eh1
    refine xg_aload_n (pc := 12) C dX6_note_12 0 rfl ?_
    refine xg_iload_n (pc := 13) C dX6_note_13 2 rfl ?_
    refine xg_puti (pc := 14) (C1 := RX6) (T1 := TX6) (ci := 6) (ref := "SandGlasses$Reader") C inm_X6_note_6 rfl (by decide) tyX6 tyX6_ok nmX6 1 (by decide) rfl dX6_note_14 (List.mem_of_getElem? (i := 2) rfl) rfl rfl (tyX6_ok 1 (by decide)) rfl hthis (fun h2 eh2 => ?_)
    have hF := hF h2 eh2
    exact xg_retV (pc := 17) C E dX6_note_17 hF
def rm_X6_readNumber : Room := { frames := 1, cells := 0, slots := 0, locals := 23 }
theorem nd_X6_readNumber : yX6_readNumber.cls = RX6 ∧ yX6_readNumber.cls ≠ "java/lang/invoke/MethodHandle" ∧ yX6_readNumber.cls ≠ "java/lang/invoke/VarHandle" ∧ (parseMethodDescriptor yX6_readNumber.desc).map (fun d => d.parameters.length) = some 2 := by decide +kernel
theorem inm_X6_readNumber_6 : ∀ w ∈ u_ws RX6 TX6 (xg_N 6), w ∈ wsX6_readNumber := fun _ h9 => List.mem_cons_of_mem _ (List.mem_append_right _ h9)
set_option maxHeartbeats 4000000 in
set_option maxRecDepth 100000 in
theorem met_X6_readNumber (Y : xg_Y) (this : Nat) (x1 : Int32) (x2 : Int32) : xg_MI yX6_readNumber wsX6_readNumber rm_X6_readNumber Y (fun zs => [va_rf (some this), .int x1, .int x2]) (fun Q h => wp_X6_readNumber Y Q this x1 x2 h) := by
  refine xg_startI (cc := cX6_readNumber) (maxL := 6) (own := RX6) (by decide) rfl rfl (fun zs => Nat.le_of_ble_eq_true rfl) (fun X Q h C hnL E hw => ?_)
  unfold wp_X6_readNumber at hw
  obtain ⟨hthis, hw⟩ := hw
  refine xg_sub (lv2 := [(0, va_rf (some this)), (1, .int x1), (2, .int x2)]) [0, 1, 2] rfl ?_
  refine mg_use (hw (fun (y3 : Int32) (y4 : Int32) (y5 : Int32) (h : xg_H) => xg_W X 0 0 Y 42 [(0, va_rf (some this)), (1, .int x1), (2, .int x2), (3, .int y3), (4, .int y4), (5, .int y5)] [] h) (fun (y3 : Int32) (y4 : Int32) (h : xg_H) => xg_W X 0 0 Y 96 [(0, va_rf (some this)), (1, .int x1), (2, .int x2), (3, .int y3), (4, .int y4)] [] h) (fun (y3 : Int32) (y4 : Int32) (s0 : Int32) (h : xg_H) => xg_W X 0 0 Y 97 [(0, va_rf (some this)), (1, .int x1), (2, .int x2), (3, .int y3), (4, .int y4)] [.int s0] h) (fun (y3 : Int32) (y4 : Int32) (h : xg_H) => xg_W X 0 0 Y 132 [(0, va_rf (some this)), (2, .int x2), (3, .int y3), (4, .int y4)] [] h) (fun (y3 : Int32) (y4 : Int32) (h : xg_H) => xg_W X 0 0 Y 141 [(0, va_rf (some this)), (2, .int x2), (3, .int y3), (4, .int y4)] [] h) ?_ ?_ ?_ ?_ ?_) (fun hF => ?_)
  · intro y3 y4 y5 h hF
    refine xg_iload (pc := 42) C dX6_readNumber_42 5 rfl ?_
    refine xg_iload_n (pc := 44) C dX6_readNumber_44 3 rfl ?_
    refine xg_icmp_ge (pc := 45) 72 C dX6_readNumber_45 (by decide) (fun hc => ?_) (fun hc => ?_)
    · have hF := hF.1 hc
      refine xg_iload_n (pc := 72) C dX6_readNumber_72 1 rfl ?_
      refine xg_if_ne (pc := 73) 96 C dX6_readNumber_73 (by decide) (fun hc => ?_) (fun hc => ?_)
      · have hF := hF.1 hc
        refine xg_sub (lv2 := [(0, va_rf (some this)), (1, .int x1), (2, .int x2), (3, .int y3), (4, .int y4)]) [0, 1, 2, 3, 4] rfl ?_
        exact hF
      · have hF := hF.2 hc
        refine xg_iload_n (pc := 76) C dX6_readNumber_76 2 rfl ?_
        refine xg_iconst (pc := 77) (v := 1) C dX6_readNumber_77 (by decide) ?_
        refine xg_icmp_ne (pc := 78) 96 C dX6_readNumber_78 (by decide) (fun hc => ?_) (fun hc => ?_)
        · have hF := hF.1 hc
          refine xg_sub (lv2 := [(0, va_rf (some this)), (1, .int x1), (2, .int x2), (3, .int y3), (4, .int y4)]) [0, 1, 2, 3, 4] rfl ?_
          exact hF
        · have hF := hF.2 hc
          refine xg_iload (pc := 81) C dX6_readNumber_81 4 rfl ?_
          refine xg_aload_n (pc := 83) C dX6_readNumber_83 0 rfl ?_
          refine xg_getr (pc := 84) (C1 := RX6) (T1 := TX6) (ci := 6) (ref := "SandGlasses$Reader") C inm_X6_readNumber_6 rfl (by decide) 4 (by decide) rfl dX6_readNumber_84 (List.mem_of_getElem? (i := 3) rfl) rfl rfl hthis ?_
          refine xg_iconst (pc := 87) (v := 0) C dX6_readNumber_87 (by decide) ?_
          obtain ⟨a5, ha5, hka5, hF⟩ := hF
          obtain ⟨hi, hF⟩ := hF
          refine xg_iald (pc := 88) C ha5 hka5 hi dX6_readNumber_88 ?_
          refine xg_icmp_le (pc := 89) 96 C dX6_readNumber_89 (by decide) (fun hc => ?_) (fun hc => ?_)
          · have hF := hF.1 hc
            refine xg_sub (lv2 := [(0, va_rf (some this)), (1, .int x1), (2, .int x2), (3, .int y3), (4, .int y4)]) [0, 1, 2, 3, 4] rfl ?_
            exact hF
          · have hF := hF.2 hc
            refine xg_iconst (pc := 92) (v := 1) C dX6_readNumber_92 (by decide) ?_
            refine xg_goto (pc := 93) 97 C dX6_readNumber_93 (by decide) ?_
            refine xg_sub (lv2 := [(0, va_rf (some this)), (1, .int x1), (2, .int x2), (3, .int y3), (4, .int y4)]) [0, 1, 2, 3, 4] rfl ?_
            exact hF
    · have hF := hF.2 hc
      refine xg_iload (pc := 48) C dX6_readNumber_48 4 rfl ?_
      refine xg_bipush (pc := 50) (v := 10) C dX6_readNumber_50 (by decide) ?_
      refine xg_imul (pc := 52) C dX6_readNumber_52 ?_
      refine xg_aload_n (pc := 53) C dX6_readNumber_53 0 rfl ?_
      refine xg_getr (pc := 54) (C1 := RX6) (T1 := TX6) (ci := 6) (ref := "SandGlasses$Reader") C inm_X6_readNumber_6 rfl (by decide) 5 (by decide) rfl dX6_readNumber_54 (List.mem_of_getElem? (i := 2) rfl) rfl rfl hthis ?_
      refine xg_iload (pc := 57) C dX6_readNumber_57 5 rfl ?_
      obtain ⟨a6, ha6, hka6, hF⟩ := hF
      obtain ⟨hi, hF⟩ := hF
      refine xg_iald (pc := 59) C ha6 hka6 hi dX6_readNumber_59 ?_
      refine xg_iadd (pc := 60) C dX6_readNumber_60 ?_
      refine xg_bipush (pc := 61) (v := 48) C dX6_readNumber_61 (by decide) ?_
      refine xg_isub (pc := 63) C dX6_readNumber_63 ?_
      refine xg_topi (pc := 64) (fun z7 ez7 => ?_)
      have hF := hF z7 ez7
      refine xg_istore (pc := 64) (lv2 := [(4, .int z7), (0, va_rf (some this)), (1, .int x1), (2, .int x2), (3, .int y3), (5, .int y5)]) C dX6_readNumber_64 6 hnL (by decide) rfl ?_
      obtain ⟨z8, ez8⟩ : ∃ y : Int32, y = y5 + 1 := ⟨_, rfl⟩
      have hF := hF z8 ez8
      refine xg_iinc (pc := 66) (v := z8) (lv2 := [(5, .int z8), (4, .int z7), (0, va_rf (some this)), (1, .int x1), (2, .int x2), (3, .int y3)]) C dX6_readNumber_66 5 rfl (by rw [ez8]; rfl) 6 hnL (by decide) rfl ?_
      refine xg_goto (pc := 69) 42 C dX6_readNumber_69 (by decide) ?_
      refine xg_sub (lv2 := [(0, va_rf (some this)), (1, .int x1), (2, .int x2), (3, .int y3), (4, .int z7), (5, .int z8)]) [2, 3, 4, 5, 1, 0] rfl ?_
      exact hF
  · intro y3 y4 h hF
    refine xg_iconst (pc := 96) (v := 0) C dX6_readNumber_96 (by decide) ?_
    exact hF
  · intro y3 y4 s0 h hF
    refine xg_istore (pc := 97) (lv2 := [(5, .int s0), (0, va_rf (some this)), (1, .int x1), (2, .int x2), (3, .int y3), (4, .int y4)]) C dX6_readNumber_97 6 hnL (by decide) rfl ?_
    refine xg_iload (pc := 99) C dX6_readNumber_99 5 rfl ?_
    refine xg_gets (pc := 101) (ref := "SandGlasses$Reader") C 5 (by decide) dX6_readNumber_101 (List.mem_of_getElem? (i := 4) rfl) rfl ?_
    refine xg_iload_n (pc := 104) C dX6_readNumber_104 2 rfl ?_
    refine xg_iconst (pc := 105) (v := 2) C dX6_readNumber_105 (by decide) ?_
    refine xg_imul (pc := 106) C dX6_readNumber_106 ?_
    refine xg_iload_n (pc := 107) C dX6_readNumber_107 3 rfl ?_
    refine xg_iadd (pc := 108) C dX6_readNumber_108 ?_
    obtain ⟨hi, hF⟩ := hF
    refine xg_sld (pc := 109) C 5 (by decide) hi dX6_readNumber_109 ?_
    refine xg_icmp_lt (pc := 110) 132 C dX6_readNumber_110 (by decide) (fun hc => ?_) (fun hc => ?_)
    · have hF := hF.1 hc
      refine xg_sub (lv2 := [(0, va_rf (some this)), (2, .int x2), (3, .int y3), (4, .int y4)]) [1, 3, 4, 5] rfl ?_
      exact hF
    · have hF := hF.2 hc
      refine xg_iload (pc := 113) C dX6_readNumber_113 5 rfl ?_
      refine xg_gets (pc := 115) (ref := "SandGlasses$Reader") C 6 (by decide) dX6_readNumber_115 (List.mem_of_getElem? (i := 5) rfl) rfl ?_
      refine xg_iload_n (pc := 118) C dX6_readNumber_118 2 rfl ?_
      refine xg_iconst (pc := 119) (v := 2) C dX6_readNumber_119 (by decide) ?_
      refine xg_imul (pc := 120) C dX6_readNumber_120 ?_
      refine xg_iload_n (pc := 121) C dX6_readNumber_121 3 rfl ?_
      refine xg_iadd (pc := 122) C dX6_readNumber_122 ?_
      obtain ⟨hi, hF⟩ := hF
      refine xg_sld (pc := 123) C 6 (by decide) hi dX6_readNumber_123 ?_
      refine xg_icmp_gt (pc := 124) 132 C dX6_readNumber_124 (by decide) (fun hc => ?_) (fun hc => ?_)
      · have hF := hF.1 hc
        refine xg_sub (lv2 := [(0, va_rf (some this)), (2, .int x2), (3, .int y3), (4, .int y4)]) [1, 3, 4, 5] rfl ?_
        exact hF
      · have hF := hF.2 hc
        refine xg_iload (pc := 127) C dX6_readNumber_127 0 rfl ?_
        refine xg_if_eq (pc := 129) 141 C dX6_readNumber_129 (by decide) (fun hc => ?_) (fun hc => ?_)
        · have hF := hF.1 hc
          refine xg_sub (lv2 := [(0, va_rf (some this)), (2, .int x2), (3, .int y3), (4, .int y4)]) [1, 3, 4, 5] rfl ?_
          exact hF
        · have hF := hF.2 hc
          refine xg_sub (lv2 := [(0, va_rf (some this)), (2, .int x2), (3, .int y3), (4, .int y4)]) [1, 3, 4, 5] rfl ?_
          exact hF
  · intro y3 y4 h hF
    refine xg_aload_n (pc := 132) C dX6_readNumber_132 0 rfl ?_
    refine xg_iconst (pc := 133) (v := 2) C dX6_readNumber_133 (by decide) ?_
    refine xg_aload_n (pc := 134) C dX6_readNumber_134 0 rfl ?_
    refine xg_geti (pc := 135) (C1 := RX6) (T1 := TX6) (ci := 6) (ref := "SandGlasses$Reader") C inm_X6_readNumber_6 rfl (by decide) 7 (by decide) rfl dX6_readNumber_135 (List.mem_of_getElem? (i := 1) rfl) rfl rfl hthis ?_
    refine xg_cvV (pc := 138) (C1 := RX6) (T1 := TX6) (ci := 6) C (fun zs => [.int 2, .int (xg_i h this 7)]) rfl hthis (by decide) rfl (met_X6_note Y this 2 (xg_i h this 7)) gX6_readNumber_X6_note rfl ⟨rfl, rfl⟩ nd_X6_note ⟨Nat.le_of_ble_eq_true rfl, Nat.le_of_ble_eq_true rfl⟩ rfl rfl (Nat.le_of_ble_eq_true rfl) ⟨Nat.zero_le _, Nat.zero_le _⟩ dX6_readNumber_138 hF (fun h9 hF => ?_)
    exact hF
  · intro y3 y4 h hF
    refine xg_aload_n (pc := 141) C dX6_readNumber_141 0 rfl ?_
    refine xg_getr (pc := 142) (C1 := RX6) (T1 := TX6) (ci := 6) (ref := "SandGlasses$Reader") C inm_X6_readNumber_6 rfl (by decide) 4 (by decide) rfl dX6_readNumber_142 (List.mem_of_getElem? (i := 3) rfl) rfl rfl hthis ?_
    refine xg_iload_n (pc := 145) C dX6_readNumber_145 1 rfl ?_
    refine xg_iload (pc := 146) C dX6_readNumber_146 3 rfl ?_
    obtain ⟨a10, ha10, hka10, hF⟩ := hF
    obtain ⟨hi, hF⟩ := hF
    refine xg_iast (pc := 148) C ha10 hka10 hi dX6_readNumber_148 (fun h11 eh11 => ?_)
    have hF := hF h11 eh11
    refine xg_aload_n (pc := 149) C dX6_readNumber_149 0 rfl ?_
    refine xg_iload_n (pc := 150) C dX6_readNumber_150 2 rfl ?_
    refine xg_puti (pc := 151) (C1 := RX6) (T1 := TX6) (ci := 6) (ref := "SandGlasses$Reader") C inm_X6_readNumber_6 rfl (by decide) tyX6 tyX6_ok nmX6 7 (by decide) rfl dX6_readNumber_151 (List.mem_of_getElem? (i := 1) rfl) rfl rfl (tyX6_ok 7 (by decide)) rfl hthis (fun h12 eh12 => ?_)
    have hF := hF h12 eh12
    refine xg_iconst (pc := 154) (v := 1) C dX6_readNumber_154 (by decide) ?_
    exact xg_retZ (pc := 155) C E (Or.inr rfl) dX6_readNumber_155 hF
  · skip
    refine xg_aload_n (pc := 0) C dX6_readNumber_0 0 rfl ?_
    refine xg_cvV (pc := 1) (C1 := RX6) (T1 := TX6) (ci := 6) C (fun zs => []) rfl hthis (by decide) rfl (met_X6_skipBlanks Y this) gX6_readNumber_X6_skipBlanks rfl ⟨rfl, rfl⟩ nd_X6_skipBlanks ⟨Nat.le_of_ble_eq_true rfl, Nat.le_of_ble_eq_true rfl⟩ rfl rfl (Nat.le_of_ble_eq_true rfl) ⟨Nat.zero_le _, Nat.zero_le _⟩ dX6_readNumber_1 hF (fun h1 hF => ?_)
    refine xg_aload_n (pc := 4) C dX6_readNumber_4 0 rfl ?_
    refine xg_bipush (pc := 5) (v := 48) C dX6_readNumber_5 (by decide) ?_
    refine xg_bipush (pc := 7) (v := 57) C dX6_readNumber_7 (by decide) ?_
    refine xg_cvI (pc := 9) (C1 := RX6) (T1 := TX6) (ci := 6) C (fun zs => [.int 48, .int 57]) rfl hthis (by decide) rfl (met_X6_rowEnd Y this 48 57) gX6_readNumber_X6_rowEnd rfl ⟨rfl, rfl⟩ nd_X6_rowEnd ⟨Nat.le_of_ble_eq_true rfl, Nat.le_of_ble_eq_true rfl⟩ rfl rfl (Nat.le_of_ble_eq_true rfl) ⟨Nat.zero_le _, Nat.zero_le _⟩ dX6_readNumber_9 hF (fun r3 h2 hF => ?_)
    refine xg_istore_n (pc := 12) (lv2 := [(3, .int r3), (0, va_rf (some this)), (1, .int x1), (2, .int x2)]) C dX6_readNumber_12 6 hnL (by decide) rfl ?_
    refine xg_iload_n (pc := 13) C dX6_readNumber_13 0 rfl ?_
    refine xg_aload_n (pc := 14) C dX6_readNumber_14 1 rfl ?_
    refine xg_geti (pc := 15) (C1 := RX6) (T1 := TX6) (ci := 6) (ref := "SandGlasses$Reader") C inm_X6_readNumber_6 rfl (by decide) 7 (by decide) rfl dX6_readNumber_15 (List.mem_of_getElem? (i := 1) rfl) rfl rfl hthis ?_
    refine xg_icmp_eq (pc := 18) 31 C dX6_readNumber_18 (by decide) (fun hc => ?_) (fun hc => ?_)
    · have hF := hF.1 hc
      refine xg_iconst (pc := 31) (v := 0) C dX6_readNumber_31 (by decide) ?_
      exact xg_retZ (pc := 32) C E (Or.inl rfl) dX6_readNumber_32 hF
    · have hF := hF.2 hc
      refine xg_iload_n (pc := 21) C dX6_readNumber_21 0 rfl ?_
      refine xg_aload_n (pc := 22) C dX6_readNumber_22 1 rfl ?_
      refine xg_geti (pc := 23) (C1 := RX6) (T1 := TX6) (ci := 6) (ref := "SandGlasses$Reader") C inm_X6_readNumber_6 rfl (by decide) 7 (by decide) rfl dX6_readNumber_23 (List.mem_of_getElem? (i := 1) rfl) rfl rfl hthis ?_
      refine xg_iconst (pc := 26) (v := 2) C dX6_readNumber_26 (by decide) ?_
      refine xg_iadd (pc := 27) C dX6_readNumber_27 ?_
      refine xg_icmp_le (pc := 28) 33 C dX6_readNumber_28 (by decide) (fun hc => ?_) (fun hc => ?_)
      · have hF := hF.1 hc
        refine xg_iconst (pc := 33) (v := 0) C dX6_readNumber_33 (by decide) ?_
        refine xg_istore (pc := 34) (lv2 := [(4, .int 0), (3, .int r3), (0, va_rf (some this)), (1, .int x1), (2, .int x2)]) C dX6_readNumber_34 6 hnL (by decide) rfl ?_
        refine xg_aload_n (pc := 36) C dX6_readNumber_36 2 rfl ?_
        refine xg_geti (pc := 37) (C1 := RX6) (T1 := TX6) (ci := 6) (ref := "SandGlasses$Reader") C inm_X6_readNumber_6 rfl (by decide) 7 (by decide) rfl dX6_readNumber_37 (List.mem_of_getElem? (i := 1) rfl) rfl rfl hthis ?_
        refine xg_topi (pc := 40) (fun z4 ez4 => ?_)
        have hF := hF z4 ez4
        refine xg_istore (pc := 40) (lv2 := [(5, .int z4), (4, .int 0), (3, .int r3), (0, va_rf (some this)), (1, .int x1), (2, .int x2)]) C dX6_readNumber_40 6 hnL (by decide) rfl ?_
        refine xg_sub (lv2 := [(0, va_rf (some this)), (1, .int x1), (2, .int x2), (3, .int r3), (4, .int 0), (5, .int z4)]) [3, 4, 5, 2, 1, 0] rfl ?_
        exact hF
      · have hF := hF.2 hc
        refine xg_iconst (pc := 31) (v := 0) C dX6_readNumber_31 (by decide) ?_
        exact xg_retZ (pc := 32) C E (Or.inl rfl) dX6_readNumber_32 hF
