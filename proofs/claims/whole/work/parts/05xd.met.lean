def rm_X2_ranMinutes : Room := { frames := 3, cells := 0, slots := 0, locals := 69 }
theorem nd_X2_ranMinutes : yX2_ranMinutes.cls = RX2 ∧ yX2_ranMinutes.cls ≠ "java/lang/invoke/MethodHandle" ∧ yX2_ranMinutes.cls ≠ "java/lang/invoke/VarHandle" ∧ (parseMethodDescriptor yX2_ranMinutes.desc).map (fun d => d.parameters.length) = some 3 := by decide +kernel
theorem inm_X2_ranMinutes_2 : ∀ w ∈ u_ws RX2 TX2 (xg_N 2), w ∈ wsX2_ranMinutes := fun _ h9 => List.mem_cons_of_mem _ (List.mem_append_left _ (List.mem_append_left _ (List.mem_append_right _ h9)))
set_option maxHeartbeats 4000000 in
set_option maxRecDepth 100000 in
theorem met_X2_ranMinutes (Y : xg_Y) (this : Nat) (x1 : Int32) (x2 : Int32) (x3 : Int32) : xg_ML yX2_ranMinutes wsX2_ranMinutes rm_X2_ranMinutes Y (fun zs => [va_rf (some this), .int x1, .int x2, .int x3]) (fun Q h => wp_X2_ranMinutes Y Q this x1 x2 x3 h) := by
  refine xg_startL (cc := cX2_ranMinutes) (maxL := 5) (own := RX2) (by decide) rfl rfl (fun zs => Nat.le_of_ble_eq_true rfl) (fun X Q h C hnL E hw => ?_)
  unfold wp_X2_ranMinutes at hw
  obtain ⟨hthis, hw⟩ := hw
  refine xg_sub (lv2 := [(0, va_rf (some this)), (1, .int x1), (2, .int x2), (3, .int x3)]) [0, 1, 2, 3] rfl ?_
  refine mg_use (hw (fun (y4 : Int32) (h : xg_H) => xg_W X 0 0 Y 58 [(0, va_rf (some this)), (4, .int y4)] [] h) ?_) (fun hF => ?_)
  · intro y4 h hF
    refine xg_aload_n (pc := 58) C dX2_ranMinutes_58 0 rfl ?_
    refine xg_getr (pc := 59) (C1 := RX2) (T1 := TX2) (ci := 2) (ref := "SandGlasses$Cloth") C inm_X2_ranMinutes_2 rfl (by decide) 5 (by decide) rfl dX2_ranMinutes_59 (List.mem_of_getElem? (i := 1) rfl) rfl rfl hthis ?_
    refine xg_iload (pc := 62) C dX2_ranMinutes_62 1 rfl ?_
    obtain ⟨a6, ha6, hka6, hF⟩ := hF
    obtain ⟨hi, hF⟩ := hF
    refine xg_lald (pc := 64) C ha6 hka6 hi dX2_ranMinutes_64 ?_
    exact xg_retL (pc := 65) C E dX2_ranMinutes_65 hF
  · skip
    refine xg_iload_n (pc := 0) C dX2_ranMinutes_0 1 rfl ?_
    refine xg_bipush (pc := 1) (v := 8) C dX2_ranMinutes_1 (by decide) ?_
    refine xg_imul (pc := 3) C dX2_ranMinutes_3 ?_
    refine xg_iload_n (pc := 4) C dX2_ranMinutes_4 2 rfl ?_
    refine xg_iadd (pc := 5) C dX2_ranMinutes_5 ?_
    refine xg_bipush (pc := 6) (v := 41) C dX2_ranMinutes_6 (by decide) ?_
    refine xg_imul (pc := 8) C dX2_ranMinutes_8 ?_
    refine xg_iload_n (pc := 9) C dX2_ranMinutes_9 3 rfl ?_
    refine xg_iadd (pc := 10) C dX2_ranMinutes_10 ?_
    refine xg_topi (pc := 11) (fun z1 ez1 => ?_)
    have hF := hF z1 ez1
    refine xg_istore (pc := 11) (lv2 := [(4, .int z1), (0, va_rf (some this)), (1, .int x1), (2, .int x2), (3, .int x3)]) C dX2_ranMinutes_11 5 hnL (by decide) rfl ?_
    refine xg_iload (pc := 13) C dX2_ranMinutes_13 0 rfl ?_
    refine xg_if_lt (pc := 15) 28 C dX2_ranMinutes_15 (by decide) (fun hc => ?_) (fun hc => ?_)
    · have hF := hF.1 hc
      refine xg_lconst (pc := 28) (v := 0) C dX2_ranMinutes_28 (by decide) ?_
      exact xg_retL (pc := 29) C E dX2_ranMinutes_29 hF
    · have hF := hF.2 hc
      refine xg_iload (pc := 18) C dX2_ranMinutes_18 0 rfl ?_
      refine xg_aload_n (pc := 20) C dX2_ranMinutes_20 1 rfl ?_
      refine xg_getr (pc := 21) (C1 := RX2) (T1 := TX2) (ci := 2) (ref := "SandGlasses$Cloth") C inm_X2_ranMinutes_2 rfl (by decide) 5 (by decide) rfl dX2_ranMinutes_21 (List.mem_of_getElem? (i := 1) rfl) rfl rfl hthis ?_
      obtain ⟨a2, ha2, hka2, hF⟩ := hF
      refine xg_alen (pc := 24) (c9 := 23) C ha2 hka2 (by decide) dX2_ranMinutes_24 ?_
      refine xg_icmp_lt (pc := 25) 30 C dX2_ranMinutes_25 (by decide) (fun hc => ?_) (fun hc => ?_)
      · have hF := hF.1 hc
        refine xg_aload_n (pc := 30) C dX2_ranMinutes_30 1 rfl ?_
        refine xg_getr (pc := 31) (C1 := RX2) (T1 := TX2) (ci := 2) (ref := "SandGlasses$Cloth") C inm_X2_ranMinutes_2 rfl (by decide) 5 (by decide) rfl dX2_ranMinutes_31 (List.mem_of_getElem? (i := 1) rfl) rfl rfl hthis ?_
        refine xg_iload (pc := 34) C dX2_ranMinutes_34 0 rfl ?_
        obtain ⟨hi, hF⟩ := hF
        refine xg_lald (pc := 36) C ha2 hka2 hi dX2_ranMinutes_36 ?_
        refine xg_ldc2 (pc := 37) (v := (-1)) C dX2_ranMinutes_37 (List.mem_of_getElem? (i := 2) rfl) ?_
        refine xg_lcmp (pc := 40) C dX2_ranMinutes_40 ?_
        refine xg_if_ne (pc := 41) 58 C dX2_ranMinutes_41 (by decide) (fun hc => ?_) (fun hc => ?_)
        · have hF := hF.1 hc
          refine xg_sub (lv2 := [(0, va_rf (some this)), (4, .int z1)]) [1, 0] rfl ?_
          exact hF
        · have hF := hF.2 hc
          refine xg_aload_n (pc := 44) C dX2_ranMinutes_44 1 rfl ?_
          refine xg_getr (pc := 45) (C1 := RX2) (T1 := TX2) (ci := 2) (ref := "SandGlasses$Cloth") C inm_X2_ranMinutes_2 rfl (by decide) 5 (by decide) rfl dX2_ranMinutes_45 (List.mem_of_getElem? (i := 1) rfl) rfl rfl hthis ?_
          refine xg_iload (pc := 48) C dX2_ranMinutes_48 0 rfl ?_
          refine xg_aload_n (pc := 50) C dX2_ranMinutes_50 1 rfl ?_
          refine xg_iload_n (pc := 51) C dX2_ranMinutes_51 2 rfl ?_
          refine xg_iload_n (pc := 52) C dX2_ranMinutes_52 3 rfl ?_
          refine xg_iload_n (pc := 53) C dX2_ranMinutes_53 4 rfl ?_
          refine xg_cvL (pc := 54) (C1 := RX2) (T1 := TX2) (ci := 2) C (fun zs => [.int x1, .int x2, .int x3]) rfl hthis (by decide) rfl (met_X2_follow Y this x1 x2 x3) gX2_ranMinutes_X2_follow rfl ⟨rfl, rfl⟩ nd_X2_follow ⟨Nat.le_of_ble_eq_true rfl, Nat.le_of_ble_eq_true rfl⟩ rfl rfl (by simp [xg_rf_cat, xg_cat_i, xg_cat_l, xg_cat_a]) ⟨Nat.zero_le _, Nat.zero_le _⟩ dX2_ranMinutes_54 hF (fun r4 h3 hF => ?_)
          obtain ⟨hi, hF⟩ := hF
          refine xg_last (pc := 57) C ha2 hka2 hi dX2_ranMinutes_57 (fun h5 eh5 => ?_)
          have hF := hF h5 eh5
          refine xg_sub (lv2 := [(0, va_rf (some this)), (4, .int z1)]) [1, 0] rfl ?_
          exact hF
      · have hF := hF.2 hc
        refine xg_lconst (pc := 28) (v := 0) C dX2_ranMinutes_28 (by decide) ?_
        exact xg_retL (pc := 29) C E dX2_ranMinutes_29 hF
def rm_X2_fitsNow : Room := { frames := 4, cells := 0, slots := 0, locals := 93 }
theorem nd_X2_fitsNow : yX2_fitsNow.cls = RX2 ∧ yX2_fitsNow.cls ≠ "java/lang/invoke/MethodHandle" ∧ yX2_fitsNow.cls ≠ "java/lang/invoke/VarHandle" ∧ (parseMethodDescriptor yX2_fitsNow.desc).map (fun d => d.parameters.length) = some 0 := by decide +kernel
theorem inm_X2_fitsNow_2 : ∀ w ∈ u_ws RX2 TX2 (xg_N 2), w ∈ wsX2_fitsNow := fun _ h9 => List.mem_cons_of_mem _ (List.mem_append_left _ (List.mem_append_left _ (List.mem_append_right _ h9)))
theorem inm_X2_fitsNow_8 : ∀ w ∈ u_ws RX8 TX8 (xg_N 8), w ∈ wsX2_fitsNow := fun _ h9 => List.mem_cons_of_mem _ (List.mem_append_left _ (List.mem_append_right _ h9))
set_option maxHeartbeats 4000000 in
set_option maxRecDepth 100000 in
theorem met_X2_fitsNow (Y : xg_Y) (this : Nat) : xg_MI yX2_fitsNow wsX2_fitsNow rm_X2_fitsNow Y (fun zs => [va_rf (some this)]) (fun Q h => wp_X2_fitsNow Y Q this h) := by
  refine xg_startI (cc := cX2_fitsNow) (maxL := 5) (own := RX2) (by decide) rfl rfl (fun zs => Nat.le_of_ble_eq_true rfl) (fun X Q h C hnL E hw => ?_)
  unfold wp_X2_fitsNow at hw
  obtain ⟨hthis, hw⟩ := hw
  refine xg_sub (lv2 := [(0, va_rf (some this))]) [0] rfl ?_
  refine mg_use (hw (fun (s0 : Int32) (h : xg_H) => xg_W X 0 0 Y 16 [(0, va_rf (some this))] [.int s0] h) (fun (y1 : Int32) (y2 : Int32) (h : xg_H) => xg_W X 0 0 Y 19 [(0, va_rf (some this)), (1, .int y1), (2, .int y2)] [] h) (fun (y1 : Int32) (y2 : Int32) (h : xg_H) => xg_W X 0 0 Y 64 [(0, va_rf (some this)), (1, .int y1), (2, .int y2)] [] h) ?_ ?_ ?_) (fun hF => ?_)
  · intro s0 h hF
    refine xg_istore_n (pc := 16) (lv2 := [(1, .int s0), (0, va_rf (some this))]) C dX2_fitsNow_16 5 hnL (by decide) rfl ?_
    refine xg_iconst (pc := 17) (v := 0) C dX2_fitsNow_17 (by decide) ?_
    refine xg_istore_n (pc := 18) (lv2 := [(2, .int 0), (1, .int s0), (0, va_rf (some this))]) C dX2_fitsNow_18 5 hnL (by decide) rfl ?_
    refine xg_sub (lv2 := [(0, va_rf (some this)), (1, .int s0), (2, .int 0)]) [2, 1, 0] rfl ?_
    exact hF
  · intro y1 y2 h hF
    refine xg_iload_n (pc := 19) C dX2_fitsNow_19 2 rfl ?_
    refine xg_aload_n (pc := 20) C dX2_fitsNow_20 0 rfl ?_
    refine xg_getr (pc := 21) (C1 := RX2) (T1 := TX2) (ci := 2) (ref := "SandGlasses$Cloth") C inm_X2_fitsNow_2 rfl (by decide) 12 (by decide) rfl dX2_fitsNow_21 (List.mem_of_getElem? (i := 1) rfl) rfl rfl hthis ?_
    obtain ⟨a2, ha2, hka2, hF⟩ := hF
    refine xg_geti (pc := 24) (C1 := RX8) (T1 := TX8) (ci := 8) (ref := "SandGlasses$Text") C inm_X2_fitsNow_8 rfl (by decide) 0 (by decide) rfl dX2_fitsNow_24 (List.mem_of_getElem? (i := 2) rfl) rfl ha2 hka2 ?_
    refine xg_icmp_ge (pc := 27) 57 C dX2_fitsNow_27 (by decide) (fun hc => ?_) (fun hc => ?_)
    · have hF := hF.1 hc
      refine xg_aload_n (pc := 57) C dX2_fitsNow_57 0 rfl ?_
      refine xg_lconst (pc := 58) (v := 0) C dX2_fitsNow_58 (by decide) ?_
      refine xg_putl (pc := 59) (C1 := RX2) (T1 := TX2) (ci := 2) (ref := "SandGlasses$Cloth") C inm_X2_fitsNow_2 rfl (by decide) tyX2 tyX2_ok nmX2 11 (by decide) rfl dX2_fitsNow_59 (List.mem_of_getElem? (i := 9) rfl) rfl rfl (tyX2_ok 11 (by decide)) rfl hthis (fun h3 eh3 => ?_)
      have hF := hF h3 eh3
      refine xg_iconst (pc := 62) (v := 0) C dX2_fitsNow_62 (by decide) ?_
      refine xg_istore_n (pc := 63) (lv2 := [(2, .int 0), (0, va_rf (some this)), (1, .int y1)]) C dX2_fitsNow_63 5 hnL (by decide) rfl ?_
      refine xg_sub (lv2 := [(0, va_rf (some this)), (1, .int y1), (2, .int 0)]) [1, 2, 0] rfl ?_
      exact hF
    · have hF := hF.2 hc
      refine xg_iload_n (pc := 30) C dX2_fitsNow_30 1 rfl ?_
      refine xg_aload_n (pc := 31) C dX2_fitsNow_31 0 rfl ?_
      refine xg_getr (pc := 32) (C1 := RX2) (T1 := TX2) (ci := 2) (ref := "SandGlasses$Cloth") C inm_X2_fitsNow_2 rfl (by decide) 4 (by decide) rfl dX2_fitsNow_32 (List.mem_of_getElem? (i := 3) rfl) rfl rfl hthis ?_
      refine xg_iload_n (pc := 35) C dX2_fitsNow_35 2 rfl ?_
      refine xg_bipush (pc := 36) (v := 8) C dX2_fitsNow_36 (by decide) ?_
      refine xg_imul (pc := 38) C dX2_fitsNow_38 ?_
      refine xg_aload_n (pc := 39) C dX2_fitsNow_39 0 rfl ?_
      refine xg_getr (pc := 40) (C1 := RX2) (T1 := TX2) (ci := 2) (ref := "SandGlasses$Cloth") C inm_X2_fitsNow_2 rfl (by decide) 3 (by decide) rfl dX2_fitsNow_40 (List.mem_of_getElem? (i := 4) rfl) rfl rfl hthis ?_
      refine xg_iload_n (pc := 43) C dX2_fitsNow_43 2 rfl ?_
      obtain ⟨a4, ha4, hka4, hF⟩ := hF
      obtain ⟨hi, hF⟩ := hF
      refine xg_iald (pc := 44) C ha4 hka4 hi dX2_fitsNow_44 ?_
      refine xg_iadd (pc := 45) C dX2_fitsNow_45 ?_
      obtain ⟨a5, ha5, hka5, hF⟩ := hF
      obtain ⟨hi, hF⟩ := hF
      refine xg_iald (pc := 46) C ha5 hka5 hi dX2_fitsNow_46 ?_
      refine xg_mmin (pc := 47) C (List.mem_of_getElem? (i := 5) rfl) (List.mem_of_getElem? (i := 6) rfl) (List.mem_of_getElem? (i := 7) rfl) (List.mem_of_getElem? (i := 8) rfl) (Nat.le_of_ble_eq_true rfl) (Nat.le_of_ble_eq_true rfl) (Nat.zero_le _) (Nat.zero_le _) dX2_fitsNow_47 ?_
      refine xg_topi (pc := 50) (fun z6 ez6 => ?_)
      have hF := hF z6 ez6
      refine xg_istore_n (pc := 50) (lv2 := [(1, .int z6), (0, va_rf (some this)), (2, .int y2)]) C dX2_fitsNow_50 5 hnL (by decide) rfl ?_
      obtain ⟨z7, ez7⟩ : ∃ y : Int32, y = y2 + 1 := ⟨_, rfl⟩
      have hF := hF z7 ez7
      refine xg_iinc (pc := 51) (v := z7) (lv2 := [(2, .int z7), (1, .int z6), (0, va_rf (some this))]) C dX2_fitsNow_51 2 rfl (by rw [ez7]; rfl) 5 hnL (by decide) rfl ?_
      refine xg_goto (pc := 54) 19 C dX2_fitsNow_54 (by decide) ?_
      refine xg_sub (lv2 := [(0, va_rf (some this)), (1, .int z6), (2, .int z7)]) [2, 1, 0] rfl ?_
      exact hF
  · intro y1 y2 h hF
    refine xg_iload_n (pc := 64) C dX2_fitsNow_64 2 rfl ?_
    refine xg_aload_n (pc := 65) C dX2_fitsNow_65 0 rfl ?_
    refine xg_getr (pc := 66) (C1 := RX2) (T1 := TX2) (ci := 2) (ref := "SandGlasses$Cloth") C inm_X2_fitsNow_2 rfl (by decide) 12 (by decide) rfl dX2_fitsNow_66 (List.mem_of_getElem? (i := 1) rfl) rfl rfl hthis ?_
    obtain ⟨a8, ha8, hka8, hF⟩ := hF
    refine xg_geti (pc := 69) (C1 := RX8) (T1 := TX8) (ci := 8) (ref := "SandGlasses$Text") C inm_X2_fitsNow_8 rfl (by decide) 0 (by decide) rfl dX2_fitsNow_69 (List.mem_of_getElem? (i := 2) rfl) rfl ha8 hka8 ?_
    refine xg_icmp_ge (pc := 72) 124 C dX2_fitsNow_72 (by decide) (fun hc => ?_) (fun hc => ?_)
    · have hF := hF.1 hc
      refine xg_aload_n (pc := 124) C dX2_fitsNow_124 0 rfl ?_
      refine xg_getl (pc := 125) (C1 := RX2) (T1 := TX2) (ci := 2) (ref := "SandGlasses$Cloth") C inm_X2_fitsNow_2 rfl (by decide) 11 (by decide) rfl dX2_fitsNow_125 (List.mem_of_getElem? (i := 9) rfl) rfl rfl hthis ?_
      refine xg_aload_n (pc := 128) C dX2_fitsNow_128 0 rfl ?_
      refine xg_getl (pc := 129) (C1 := RX2) (T1 := TX2) (ci := 2) (ref := "SandGlasses$Cloth") C inm_X2_fitsNow_2 rfl (by decide) 9 (by decide) rfl dX2_fitsNow_129 (List.mem_of_getElem? (i := 11) rfl) rfl rfl hthis ?_
      refine xg_land (pc := 132) C dX2_fitsNow_132 ?_
      refine xg_lconst (pc := 133) (v := 0) C dX2_fitsNow_133 (by decide) ?_
      refine xg_lcmp (pc := 134) C dX2_fitsNow_134 ?_
      refine xg_if_ne (pc := 135) 142 C dX2_fitsNow_135 (by decide) (fun hc => ?_) (fun hc => ?_)
      · have hF := hF.1 hc
        refine xg_iconst (pc := 142) (v := 0) C dX2_fitsNow_142 (by decide) ?_
        exact xg_retZ (pc := 143) C E (Or.inl rfl) dX2_fitsNow_143 hF
      · have hF := hF.2 hc
        refine xg_iconst (pc := 138) (v := 1) C dX2_fitsNow_138 (by decide) ?_
        refine xg_goto (pc := 139) 143 C dX2_fitsNow_139 (by decide) ?_
        exact xg_retZ (pc := 143) C E (Or.inr rfl) dX2_fitsNow_143 hF
    · have hF := hF.2 hc
      refine xg_aload_n (pc := 75) C dX2_fitsNow_75 0 rfl ?_
      refine xg_iload_n (pc := 76) C dX2_fitsNow_76 2 rfl ?_
      refine xg_aload_n (pc := 77) C dX2_fitsNow_77 0 rfl ?_
      refine xg_getr (pc := 78) (C1 := RX2) (T1 := TX2) (ci := 2) (ref := "SandGlasses$Cloth") C inm_X2_fitsNow_2 rfl (by decide) 3 (by decide) rfl dX2_fitsNow_78 (List.mem_of_getElem? (i := 4) rfl) rfl rfl hthis ?_
      refine xg_iload_n (pc := 81) C dX2_fitsNow_81 2 rfl ?_
      obtain ⟨a9, ha9, hka9, hF⟩ := hF
      obtain ⟨hi, hF⟩ := hF
      refine xg_iald (pc := 82) C ha9 hka9 hi dX2_fitsNow_82 ?_
      refine xg_iload_n (pc := 83) C dX2_fitsNow_83 1 rfl ?_
      refine xg_cvL (pc := 84) (C1 := RX2) (T1 := TX2) (ci := 2) C (fun zs => [.int y2, .int (xg_i h a9 y2.toNatClampNeg), .int y1]) rfl hthis (by decide) rfl (met_X2_ranMinutes Y this y2 (xg_i h a9 y2.toNatClampNeg) y1) gX2_fitsNow_X2_ranMinutes rfl ⟨rfl, rfl⟩ nd_X2_ranMinutes ⟨Nat.le_of_ble_eq_true rfl, Nat.le_of_ble_eq_true rfl⟩ rfl rfl (Nat.le_of_ble_eq_true rfl) ⟨Nat.zero_le _, Nat.zero_le _⟩ dX2_fitsNow_84 hF (fun r11 h10 hF => ?_)
      refine xg_lstore_n (pc := 87) (lv2 := [(3, .long r11), (0, va_rf (some this)), (1, .int y1), (2, .int y2)]) C dX2_fitsNow_87 5 hnL (by decide) rfl ?_
      refine xg_lload_n (pc := 88) C dX2_fitsNow_88 0 rfl ?_
      refine xg_aload_n (pc := 89) C dX2_fitsNow_89 1 rfl ?_
      refine xg_getr (pc := 90) (C1 := RX2) (T1 := TX2) (ci := 2) (ref := "SandGlasses$Cloth") C inm_X2_fitsNow_2 rfl (by decide) 8 (by decide) rfl dX2_fitsNow_90 (List.mem_of_getElem? (i := 10) rfl) rfl rfl hthis ?_
      refine xg_iload_n (pc := 93) C dX2_fitsNow_93 3 rfl ?_
      obtain ⟨a12, ha12, hka12, hF⟩ := hF
      obtain ⟨hi, hF⟩ := hF
      refine xg_lald (pc := 94) C ha12 hka12 hi dX2_fitsNow_94 ?_
      refine xg_land (pc := 95) C dX2_fitsNow_95 ?_
      refine xg_aload_n (pc := 96) C dX2_fitsNow_96 1 rfl ?_
      refine xg_getr (pc := 97) (C1 := RX2) (T1 := TX2) (ci := 2) (ref := "SandGlasses$Cloth") C inm_X2_fitsNow_2 rfl (by decide) 8 (by decide) rfl dX2_fitsNow_97 (List.mem_of_getElem? (i := 10) rfl) rfl rfl hthis ?_
      refine xg_iload_n (pc := 100) C dX2_fitsNow_100 3 rfl ?_
      obtain ⟨hi, hF⟩ := hF
      refine xg_lald (pc := 101) C ha12 hka12 hi dX2_fitsNow_101 ?_
      refine xg_lcmp (pc := 102) C dX2_fitsNow_102 ?_
      refine xg_if_eq (pc := 103) 108 C dX2_fitsNow_103 (by decide) (fun hc => ?_) (fun hc => ?_)
      · have hF := hF.1 hc
        refine xg_aload_n (pc := 108) C dX2_fitsNow_108 1 rfl ?_
        refine xg_dup (pc := 109) C dX2_fitsNow_109 (xg_rf_cat _) ?_
        refine xg_getl (pc := 110) (C1 := RX2) (T1 := TX2) (ci := 2) (ref := "SandGlasses$Cloth") C inm_X2_fitsNow_2 rfl (by decide) 11 (by decide) rfl dX2_fitsNow_110 (List.mem_of_getElem? (i := 9) rfl) rfl rfl hthis ?_
        refine xg_lload_n (pc := 113) C dX2_fitsNow_113 0 rfl ?_
        refine xg_lor (pc := 114) C dX2_fitsNow_114 ?_
        refine xg_putl (pc := 115) (C1 := RX2) (T1 := TX2) (ci := 2) (ref := "SandGlasses$Cloth") C inm_X2_fitsNow_2 rfl (by decide) tyX2 tyX2_ok nmX2 11 (by decide) rfl dX2_fitsNow_115 (List.mem_of_getElem? (i := 9) rfl) rfl rfl (tyX2_ok 11 (by decide)) rfl hthis (fun h13 eh13 => ?_)
        have hF := hF h13 eh13
        obtain ⟨z14, ez14⟩ : ∃ y : Int32, y = y2 + 1 := ⟨_, rfl⟩
        have hF := hF z14 ez14
        refine xg_iinc (pc := 118) (v := z14) (lv2 := [(2, .int z14), (3, .long r11), (0, va_rf (some this)), (1, .int y1)]) C dX2_fitsNow_118 3 rfl (by rw [ez14]; rfl) 5 hnL (by decide) rfl ?_
        refine xg_goto (pc := 121) 64 C dX2_fitsNow_121 (by decide) ?_
        refine xg_sub (lv2 := [(0, va_rf (some this)), (1, .int y1), (2, .int z14)]) [2, 3, 0] rfl ?_
        exact hF
      · have hF := hF.2 hc
        refine xg_iconst (pc := 106) (v := 0) C dX2_fitsNow_106 (by decide) ?_
        exact xg_retZ (pc := 107) C E (Or.inl rfl) dX2_fitsNow_107 hF
  · skip
    refine xg_aload_n (pc := 0) C dX2_fitsNow_0 0 rfl ?_
    refine xg_getr (pc := 1) (C1 := RX2) (T1 := TX2) (ci := 2) (ref := "SandGlasses$Cloth") C inm_X2_fitsNow_2 rfl (by decide) 12 (by decide) rfl dX2_fitsNow_1 (List.mem_of_getElem? (i := 1) rfl) rfl rfl hthis ?_
    obtain ⟨a1, ha1, hka1, hF⟩ := hF
    refine xg_geti (pc := 4) (C1 := RX8) (T1 := TX8) (ci := 8) (ref := "SandGlasses$Text") C inm_X2_fitsNow_8 rfl (by decide) 0 (by decide) rfl dX2_fitsNow_4 (List.mem_of_getElem? (i := 2) rfl) rfl ha1 hka1 ?_
    refine xg_if_ne (pc := 7) 14 C dX2_fitsNow_7 (by decide) (fun hc => ?_) (fun hc => ?_)
    · have hF := hF.1 hc
      refine xg_bipush (pc := 14) (v := 40) C dX2_fitsNow_14 (by decide) ?_
      exact hF
    · have hF := hF.2 hc
      refine xg_iconst (pc := 10) (v := 0) C dX2_fitsNow_10 (by decide) ?_
      refine xg_goto (pc := 11) 16 C dX2_fitsNow_11 (by decide) ?_
      exact hF
def rm_X2_rowNumber : Room := { frames := 0, cells := 0, slots := 0, locals := 0 }
theorem nd_X2_rowNumber : yX2_rowNumber.cls = RX2 ∧ yX2_rowNumber.cls ≠ "java/lang/invoke/MethodHandle" ∧ yX2_rowNumber.cls ≠ "java/lang/invoke/VarHandle" ∧ (parseMethodDescriptor yX2_rowNumber.desc).map (fun d => d.parameters.length) = some 0 := by decide +kernel
theorem inm_X2_rowNumber_2 : ∀ w ∈ u_ws RX2 TX2 (xg_N 2), w ∈ wsX2_rowNumber := fun _ h9 => List.mem_cons_of_mem _ (List.mem_append_left _ (List.mem_append_right _ h9))
theorem inm_X2_rowNumber_8 : ∀ w ∈ u_ws RX8 TX8 (xg_N 8), w ∈ wsX2_rowNumber := fun _ h9 => List.mem_cons_of_mem _ (List.mem_append_right _ h9)
set_option maxHeartbeats 4000000 in
set_option maxRecDepth 100000 in
theorem met_X2_rowNumber (Y : xg_Y) (this : Nat) : xg_MI yX2_rowNumber wsX2_rowNumber rm_X2_rowNumber Y (fun zs => [va_rf (some this)]) (fun Q h => wp_X2_rowNumber Y Q this h) := by
  refine xg_startI (cc := cX2_rowNumber) (maxL := 3) (own := RX2) (by decide) rfl rfl (fun zs => Nat.le_of_ble_eq_true rfl) (fun X Q h C hnL E hw => ?_)
  unfold wp_X2_rowNumber at hw
  obtain ⟨hthis, hw⟩ := hw
  refine xg_sub (lv2 := [(0, va_rf (some this))]) [0] rfl ?_
  refine mg_use (hw (fun (y1 : Int32) (y2 : Int32) (h : xg_H) => xg_W X 0 0 Y 4 [(0, va_rf (some this)), (1, .int y1), (2, .int y2)] [] h) ?_) (fun hF => ?_)
  · intro y1 y2 h hF
    refine xg_iload_n (pc := 4) C dX2_rowNumber_4 2 rfl ?_
    refine xg_aload_n (pc := 5) C dX2_rowNumber_5 0 rfl ?_
    refine xg_getr (pc := 6) (C1 := RX2) (T1 := TX2) (ci := 2) (ref := "SandGlasses$Cloth") C inm_X2_rowNumber_2 rfl (by decide) 12 (by decide) rfl dX2_rowNumber_6 (List.mem_of_getElem? (i := 1) rfl) rfl rfl hthis ?_
    obtain ⟨a1, ha1, hka1, hF⟩ := hF
    refine xg_geti (pc := 9) (C1 := RX8) (T1 := TX8) (ci := 8) (ref := "SandGlasses$Text") C inm_X2_rowNumber_8 rfl (by decide) 0 (by decide) rfl dX2_rowNumber_9 (List.mem_of_getElem? (i := 2) rfl) rfl ha1 hka1 ?_
    refine xg_icmp_ge (pc := 12) 33 C dX2_rowNumber_12 (by decide) (fun hc => ?_) (fun hc => ?_)
    · have hF := hF.1 hc
      refine xg_iload_n (pc := 33) C dX2_rowNumber_33 1 rfl ?_
      exact xg_retI (pc := 34) C E dX2_rowNumber_34 hF
    · have hF := hF.2 hc
      refine xg_iload_n (pc := 15) C dX2_rowNumber_15 1 rfl ?_
      refine xg_bipush (pc := 16) (v := 10) C dX2_rowNumber_16 (by decide) ?_
      refine xg_imul (pc := 18) C dX2_rowNumber_18 ?_
      refine xg_aload_n (pc := 19) C dX2_rowNumber_19 0 rfl ?_
      refine xg_getr (pc := 20) (C1 := RX2) (T1 := TX2) (ci := 2) (ref := "SandGlasses$Cloth") C inm_X2_rowNumber_2 rfl (by decide) 3 (by decide) rfl dX2_rowNumber_20 (List.mem_of_getElem? (i := 3) rfl) rfl rfl hthis ?_
      refine xg_iload_n (pc := 23) C dX2_rowNumber_23 2 rfl ?_
      obtain ⟨a2, ha2, hka2, hF⟩ := hF
      obtain ⟨hi, hF⟩ := hF
      refine xg_iald (pc := 24) C ha2 hka2 hi dX2_rowNumber_24 ?_
      refine xg_iadd (pc := 25) C dX2_rowNumber_25 ?_
      refine xg_topi (pc := 26) (fun z3 ez3 => ?_)
      have hF := hF z3 ez3
      refine xg_istore_n (pc := 26) (lv2 := [(1, .int z3), (0, va_rf (some this)), (2, .int y2)]) C dX2_rowNumber_26 3 hnL (by decide) rfl ?_
      obtain ⟨z4, ez4⟩ : ∃ y : Int32, y = y2 + 1 := ⟨_, rfl⟩
      have hF := hF z4 ez4
      refine xg_iinc (pc := 27) (v := z4) (lv2 := [(2, .int z4), (1, .int z3), (0, va_rf (some this))]) C dX2_rowNumber_27 2 rfl (by rw [ez4]; rfl) 3 hnL (by decide) rfl ?_
      refine xg_goto (pc := 30) 4 C dX2_rowNumber_30 (by decide) ?_
      refine xg_sub (lv2 := [(0, va_rf (some this)), (1, .int z3), (2, .int z4)]) [2, 1, 0] rfl ?_
      exact hF
  · skip
    refine xg_iconst (pc := 0) (v := 1) C dX2_rowNumber_0 (by decide) ?_
    refine xg_istore_n (pc := 1) (lv2 := [(1, .int 1), (0, va_rf (some this))]) C dX2_rowNumber_1 3 hnL (by decide) rfl ?_
    refine xg_iconst (pc := 2) (v := 0) C dX2_rowNumber_2 (by decide) ?_
    refine xg_istore_n (pc := 3) (lv2 := [(2, .int 0), (1, .int 1), (0, va_rf (some this))]) C dX2_rowNumber_3 3 hnL (by decide) rfl ?_
    refine xg_sub (lv2 := [(0, va_rf (some this)), (1, .int 1), (2, .int 0)]) [2, 1, 0] rfl ?_
    exact hF
def rm_X2_noteFitting : Room := { frames := 0, cells := 0, slots := 0, locals := 0 }
theorem nd_X2_noteFitting : yX2_noteFitting.cls = RX2 ∧ yX2_noteFitting.cls ≠ "java/lang/invoke/MethodHandle" ∧ yX2_noteFitting.cls ≠ "java/lang/invoke/VarHandle" ∧ (parseMethodDescriptor yX2_noteFitting.desc).map (fun d => d.parameters.length) = some 0 := by decide +kernel
theorem inm_X2_noteFitting_2 : ∀ w ∈ u_ws RX2 TX2 (xg_N 2), w ∈ wsX2_noteFitting := fun _ h9 => List.mem_cons_of_mem _ (List.mem_append_left _ (List.mem_append_right _ h9))
theorem inm_X2_noteFitting_8 : ∀ w ∈ u_ws RX8 TX8 (xg_N 8), w ∈ wsX2_noteFitting := fun _ h9 => List.mem_cons_of_mem _ (List.mem_append_right _ h9)
set_option maxHeartbeats 4000000 in
set_option maxRecDepth 100000 in
theorem met_X2_noteFitting (Y : xg_Y) (this : Nat) : xg_MV yX2_noteFitting wsX2_noteFitting rm_X2_noteFitting Y (fun zs => [va_rf (some this)]) (fun Q h => wp_X2_noteFitting Y Q this h) := by
  refine xg_startV (cc := cX2_noteFitting) (maxL := 2) (own := RX2) (by decide) rfl rfl (fun zs => Nat.le_of_ble_eq_true rfl) (fun X Q h C hnL E hw => ?_)
  unfold wp_X2_noteFitting at hw
  obtain ⟨hthis, hw⟩ := hw
  refine xg_sub (lv2 := [(0, va_rf (some this))]) [0] rfl ?_
  refine mg_use (hw (fun (y1 : Int32) (h : xg_H) => xg_W X 0 0 Y 12 [(0, va_rf (some this)), (1, .int y1)] [] h) (fun (y1 : Int32) (h : xg_H) => xg_W X 0 0 Y 48 [(0, va_rf (some this)), (1, .int y1)] [] h) ?_ ?_) (fun hF => ?_)
  · intro y1 h hF
    refine xg_iload_n (pc := 12) C dX2_noteFitting_12 1 rfl ?_
    refine xg_aload_n (pc := 13) C dX2_noteFitting_13 0 rfl ?_
    refine xg_getr (pc := 14) (C1 := RX2) (T1 := TX2) (ci := 2) (ref := "SandGlasses$Cloth") C inm_X2_noteFitting_2 rfl (by decide) 12 (by decide) rfl dX2_noteFitting_14 (List.mem_of_getElem? (i := 2) rfl) rfl rfl hthis ?_
    obtain ⟨a2, ha2, hka2, hF⟩ := hF
    refine xg_geti (pc := 17) (C1 := RX8) (T1 := TX8) (ci := 8) (ref := "SandGlasses$Text") C inm_X2_noteFitting_8 rfl (by decide) 0 (by decide) rfl dX2_noteFitting_17 (List.mem_of_getElem? (i := 3) rfl) rfl ha2 hka2 ?_
    refine xg_icmp_ge (pc := 20) 46 C dX2_noteFitting_20 (by decide) (fun hc => ?_) (fun hc => ?_)
    · have hF := hF.1 hc
      refine xg_iconst (pc := 46) (v := 1) C dX2_noteFitting_46 (by decide) ?_
      refine xg_istore_n (pc := 47) (lv2 := [(1, .int 1), (0, va_rf (some this))]) C dX2_noteFitting_47 2 hnL (by decide) rfl ?_
      refine xg_sub (lv2 := [(0, va_rf (some this)), (1, .int 1)]) [1, 0] rfl ?_
      exact hF
    · have hF := hF.2 hc
      refine xg_aload_n (pc := 23) C dX2_noteFitting_23 0 rfl ?_
      refine xg_getr (pc := 24) (C1 := RX2) (T1 := TX2) (ci := 2) (ref := "SandGlasses$Cloth") C inm_X2_noteFitting_2 rfl (by decide) 6 (by decide) rfl dX2_noteFitting_24 (List.mem_of_getElem? (i := 4) rfl) rfl rfl hthis ?_
      refine xg_iload_n (pc := 27) C dX2_noteFitting_27 1 rfl ?_
      refine xg_dup2 (pc := 28) C dX2_noteFitting_28 rfl (xg_rf_cat _) ?_
      obtain ⟨a3, ha3, hka3, hF⟩ := hF
      obtain ⟨hi, hF⟩ := hF
      refine xg_iald (pc := 29) C ha3 hka3 hi dX2_noteFitting_29 ?_
      refine xg_iconst (pc := 30) (v := 1) C dX2_noteFitting_30 (by decide) ?_
      refine xg_aload_n (pc := 31) C dX2_noteFitting_31 0 rfl ?_
      refine xg_getr (pc := 32) (C1 := RX2) (T1 := TX2) (ci := 2) (ref := "SandGlasses$Cloth") C inm_X2_noteFitting_2 rfl (by decide) 3 (by decide) rfl dX2_noteFitting_32 (List.mem_of_getElem? (i := 5) rfl) rfl rfl hthis ?_
      refine xg_iload_n (pc := 35) C dX2_noteFitting_35 1 rfl ?_
      obtain ⟨a4, ha4, hka4, hF⟩ := hF
      obtain ⟨hi, hF⟩ := hF
      refine xg_iald (pc := 36) C ha4 hka4 hi dX2_noteFitting_36 ?_
      refine xg_ishl (pc := 37) C dX2_noteFitting_37 ?_
      refine xg_ior (pc := 38) C dX2_noteFitting_38 ?_
      obtain ⟨hi, hF⟩ := hF
      refine xg_iast (pc := 39) C ha3 hka3 hi dX2_noteFitting_39 (fun h5 eh5 => ?_)
      have hF := hF h5 eh5
      obtain ⟨z6, ez6⟩ : ∃ y : Int32, y = y1 + 1 := ⟨_, rfl⟩
      have hF := hF z6 ez6
      refine xg_iinc (pc := 40) (v := z6) (lv2 := [(1, .int z6), (0, va_rf (some this))]) C dX2_noteFitting_40 1 rfl (by rw [ez6]; rfl) 2 hnL (by decide) rfl ?_
      refine xg_goto (pc := 43) 12 C dX2_noteFitting_43 (by decide) ?_
      refine xg_sub (lv2 := [(0, va_rf (some this)), (1, .int z6)]) [1, 0] rfl ?_
      exact hF
  · intro y1 h hF
    refine xg_iload_n (pc := 48) C dX2_noteFitting_48 1 rfl ?_
    refine xg_bipush (pc := 49) (v := 40) C dX2_noteFitting_49 (by decide) ?_
    refine xg_icmp_gt (pc := 51) 78 C dX2_noteFitting_51 (by decide) (fun hc => ?_) (fun hc => ?_)
    · have hF := hF.1 hc
      exact xg_retV (pc := 78) C E dX2_noteFitting_78 hF
    · have hF := hF.2 hc
      refine xg_aload_n (pc := 54) C dX2_noteFitting_54 0 rfl ?_
      refine xg_getr (pc := 55) (C1 := RX2) (T1 := TX2) (ci := 2) (ref := "SandGlasses$Cloth") C inm_X2_noteFitting_2 rfl (by decide) 7 (by decide) rfl dX2_noteFitting_55 (List.mem_of_getElem? (i := 6) rfl) rfl rfl hthis ?_
      refine xg_iload_n (pc := 58) C dX2_noteFitting_58 1 rfl ?_
      refine xg_dup2 (pc := 59) C dX2_noteFitting_59 rfl (xg_rf_cat _) ?_
      obtain ⟨a7, ha7, hka7, hF⟩ := hF
      obtain ⟨hi, hF⟩ := hF
      refine xg_iald (pc := 60) C ha7 hka7 hi dX2_noteFitting_60 ?_
      refine xg_aload_n (pc := 61) C dX2_noteFitting_61 0 rfl ?_
      refine xg_getl (pc := 62) (C1 := RX2) (T1 := TX2) (ci := 2) (ref := "SandGlasses$Cloth") C inm_X2_noteFitting_2 rfl (by decide) 11 (by decide) rfl dX2_noteFitting_62 (List.mem_of_getElem? (i := 7) rfl) rfl rfl hthis ?_
      refine xg_iload_n (pc := 65) C dX2_noteFitting_65 1 rfl ?_
      refine xg_lshr (pc := 66) C dX2_noteFitting_66 ?_
      refine xg_lconst (pc := 67) (v := 1) C dX2_noteFitting_67 (by decide) ?_
      refine xg_land (pc := 68) C dX2_noteFitting_68 ?_
      refine xg_l2i (pc := 69) C dX2_noteFitting_69 ?_
      refine xg_iadd (pc := 70) C dX2_noteFitting_70 ?_
      obtain ⟨hi, hF⟩ := hF
      refine xg_iast (pc := 71) C ha7 hka7 hi dX2_noteFitting_71 (fun h8 eh8 => ?_)
      have hF := hF h8 eh8
      obtain ⟨z9, ez9⟩ : ∃ y : Int32, y = y1 + 1 := ⟨_, rfl⟩
      have hF := hF z9 ez9
      refine xg_iinc (pc := 72) (v := z9) (lv2 := [(1, .int z9), (0, va_rf (some this))]) C dX2_noteFitting_72 1 rfl (by rw [ez9]; rfl) 2 hnL (by decide) rfl ?_
      refine xg_goto (pc := 75) 48 C dX2_noteFitting_75 (by decide) ?_
      refine xg_sub (lv2 := [(0, va_rf (some this)), (1, .int z9)]) [1, 0] rfl ?_
      exact hF
  · skip
    refine xg_aload_n (pc := 0) C dX2_noteFitting_0 0 rfl ?_
    refine xg_dup (pc := 1) C dX2_noteFitting_1 (xg_rf_cat _) ?_
    refine xg_geti (pc := 2) (C1 := RX2) (T1 := TX2) (ci := 2) (ref := "SandGlasses$Cloth") C inm_X2_noteFitting_2 rfl (by decide) 0 (by decide) rfl dX2_noteFitting_2 (List.mem_of_getElem? (i := 1) rfl) rfl rfl hthis ?_
    refine xg_iconst (pc := 5) (v := 1) C dX2_noteFitting_5 (by decide) ?_
    refine xg_iadd (pc := 6) C dX2_noteFitting_6 ?_
    refine xg_puti (pc := 7) (C1 := RX2) (T1 := TX2) (ci := 2) (ref := "SandGlasses$Cloth") C inm_X2_noteFitting_2 rfl (by decide) tyX2 tyX2_ok nmX2 0 (by decide) rfl dX2_noteFitting_7 (List.mem_of_getElem? (i := 1) rfl) rfl rfl (tyX2_ok 0 (by decide)) rfl hthis (fun h1 eh1 => ?_)
    have hF := hF h1 eh1
    refine xg_iconst (pc := 10) (v := 0) C dX2_noteFitting_10 (by decide) ?_
    refine xg_istore_n (pc := 11) (lv2 := [(1, .int 0), (0, va_rf (some this))]) C dX2_noteFitting_11 2 hnL (by decide) rfl ?_
    refine xg_sub (lv2 := [(0, va_rf (some this)), (1, .int 0)]) [1, 0] rfl ?_
    exact hF
def rm_X2_survey : Room := { frames := 5, cells := 0, slots := 0, locals := 117 }
theorem nd_X2_survey : yX2_survey.cls = RX2 ∧ yX2_survey.cls ≠ "java/lang/invoke/MethodHandle" ∧ yX2_survey.cls ≠ "java/lang/invoke/VarHandle" ∧ (parseMethodDescriptor yX2_survey.desc).map (fun d => d.parameters.length) = some 4 := by decide +kernel
theorem inm_X2_survey_2 : ∀ w ∈ u_ws RX2 TX2 (xg_N 2), w ∈ wsX2_survey := fun _ h9 => List.mem_cons_of_mem _ (List.mem_append_left _ (List.mem_append_left _ (List.mem_append_right _ h9)))
theorem inm_X2_survey_8 : ∀ w ∈ u_ws RX8 TX8 (xg_N 8), w ∈ wsX2_survey := fun _ h9 => List.mem_cons_of_mem _ (List.mem_append_left _ (List.mem_append_right _ h9))
set_option maxHeartbeats 4000000 in
set_option maxRecDepth 100000 in
theorem met_X2_survey (Y : xg_Y) (this : Nat) (x1 : Option Nat) (x2 : Option Nat) (x3 : Option Nat) (x4 : Int32) : xg_MV yX2_survey wsX2_survey rm_X2_survey Y (fun zs => [va_rf (some this), va_rf x1, va_rf x2, va_rf x3, .int x4]) (fun Q h => wp_X2_survey Y Q this x1 x2 x3 x4 h) := by
  refine xg_startV (cc := cX2_survey) (maxL := 7) (own := RX2) (by decide) rfl rfl (fun zs => by cases x1 <;> cases x2 <;> cases x3 <;> exact Nat.le_of_ble_eq_true rfl) (fun X Q h C hnL E hw => ?_)
  unfold wp_X2_survey at hw
  obtain ⟨hthis, hw⟩ := hw
  refine xg_sub (lv2 := [(0, va_rf (some this)), (1, va_rf x1), (2, va_rf x2), (3, va_rf x3), (4, .int x4)]) [0, 1, 2, 3, 4] (by cases x1 <;> cases x2 <;> cases x3 <;> rfl) ?_
  refine mg_use (hw (fun (s0 : Int32) (h : xg_H) => xg_W X 0 0 Y 68 [(0, va_rf (some this)), (1, va_rf x1), (4, .int x4)] [.int s0] h) (fun (y5 : Int32) (y6 : Int32) (h : xg_H) => xg_W X 0 0 Y 73 [(0, va_rf (some this)), (1, va_rf x1), (4, .int x4), (5, .int y5), (6, .int y6)] [] h) (fun (y5 : Int32) (y6 : Int32) (h : xg_H) => xg_W X 0 0 Y 105 [(0, va_rf (some this)), (4, .int x4), (5, .int y5), (6, .int y6)] [] h) (fun (y5 : Int32) (y6 : Int32) (h : xg_H) => xg_W X 0 0 Y 146 [(0, va_rf (some this)), (4, .int x4), (5, .int y5), (6, .int y6)] [] h) (fun (y5 : Int32) (y6 : Int32) (h : xg_H) => xg_W X 0 0 Y 142 [(0, va_rf (some this)), (4, .int x4), (5, .int y5), (6, .int y6)] [] h) ?_ ?_ ?_ ?_ ?_) (fun hF => ?_)
  · intro s0 h hF
    refine xg_istore (pc := 68) (lv2 := [(5, .int s0), (0, va_rf (some this)), (1, va_rf x1), (4, .int x4)]) C dX2_survey_68 7 hnL (by decide) rfl ?_
    refine xg_iconst (pc := 70) (v := 0) C dX2_survey_70 (by decide) ?_
    refine xg_istore (pc := 71) (lv2 := [(6, .int 0), (5, .int s0), (0, va_rf (some this)), (1, va_rf x1), (4, .int x4)]) C dX2_survey_71 7 hnL (by decide) rfl ?_
    refine xg_sub (lv2 := [(0, va_rf (some this)), (1, va_rf x1), (4, .int x4), (5, .int s0), (6, .int 0)]) [2, 3, 4, 1, 0] rfl ?_
    exact hF
  · intro y5 y6 h hF
    refine xg_iload (pc := 73) C dX2_survey_73 4 rfl ?_
    refine xg_aload_n (pc := 75) C dX2_survey_75 1 rfl ?_
    obtain ⟨a10, ha10, hka10, hF⟩ := hF
    refine xg_geti (pc := 76) (C1 := RX8) (T1 := TX8) (ci := 8) (ref := "SandGlasses$Text") C inm_X2_survey_8 rfl (by decide) 0 (by decide) rfl dX2_survey_76 (List.mem_of_getElem? (i := 10) rfl) rfl ha10 hka10 ?_
    refine xg_icmp_ge (pc := 79) 102 C dX2_survey_79 (by decide) (fun hc => ?_) (fun hc => ?_)
    · have hF := hF.1 hc
      refine xg_iconst (pc := 102) (v := 0) C dX2_survey_102 (by decide) ?_
      refine xg_istore (pc := 103) (lv2 := [(6, .int 0), (0, va_rf (some this)), (1, va_rf x1), (4, .int x4), (5, .int y5)]) C dX2_survey_103 7 hnL (by decide) rfl ?_
      refine xg_sub (lv2 := [(0, va_rf (some this)), (4, .int x4), (5, .int y5), (6, .int 0)]) [1, 3, 4, 0] rfl ?_
      exact hF
    · have hF := hF.2 hc
      refine xg_iload (pc := 82) C dX2_survey_82 3 rfl ?_
      refine xg_aload_n (pc := 84) C dX2_survey_84 1 rfl ?_
      refine xg_getr (pc := 85) (C1 := RX8) (T1 := TX8) (ci := 8) (ref := "SandGlasses$Text") C inm_X2_survey_8 rfl (by decide) 1 (by decide) rfl dX2_survey_85 (List.mem_of_getElem? (i := 11) rfl) rfl ha10 hka10 ?_
      refine xg_iload (pc := 88) C dX2_survey_88 4 rfl ?_
      obtain ⟨a11, ha11, hka11, hF⟩ := hF
      obtain ⟨hi, hF⟩ := hF
      refine xg_iald (pc := 90) C ha11 hka11 hi dX2_survey_90 ?_
      refine xg_iconst (pc := 91) (v := 1) C dX2_survey_91 (by decide) ?_
      refine xg_iadd (pc := 92) C dX2_survey_92 ?_
      refine xg_imul (pc := 93) C dX2_survey_93 ?_
      refine xg_topi (pc := 94) (fun z12 ez12 => ?_)
      have hF := hF z12 ez12
      refine xg_istore (pc := 94) (lv2 := [(5, .int z12), (0, va_rf (some this)), (1, va_rf x1), (4, .int x4), (6, .int y6)]) C dX2_survey_94 7 hnL (by decide) rfl ?_
      obtain ⟨z13, ez13⟩ : ∃ y : Int32, y = y6 + 1 := ⟨_, rfl⟩
      have hF := hF z13 ez13
      refine xg_iinc (pc := 96) (v := z13) (lv2 := [(6, .int z13), (5, .int z12), (0, va_rf (some this)), (1, va_rf x1), (4, .int x4)]) C dX2_survey_96 4 rfl (by rw [ez13]; rfl) 7 hnL (by decide) rfl ?_
      refine xg_goto (pc := 99) 73 C dX2_survey_99 (by decide) ?_
      refine xg_sub (lv2 := [(0, va_rf (some this)), (1, va_rf x1), (4, .int x4), (5, .int z12), (6, .int z13)]) [2, 3, 4, 1, 0] rfl ?_
      exact hF
  · intro y5 y6 h hF
    refine xg_iload (pc := 105) C dX2_survey_105 3 rfl ?_
    refine xg_iload (pc := 107) C dX2_survey_107 2 rfl ?_
    refine xg_icmp_ge (pc := 109) 152 C dX2_survey_109 (by decide) (fun hc => ?_) (fun hc => ?_)
    · have hF := hF.1 hc
      exact xg_retV (pc := 152) C E dX2_survey_152 hF
    · have hF := hF.2 hc
      refine xg_aload_n (pc := 112) C dX2_survey_112 0 rfl ?_
      refine xg_iload (pc := 113) C dX2_survey_113 3 rfl ?_
      refine xg_cvV (pc := 115) (C1 := RX2) (T1 := TX2) (ci := 2) C (fun zs => [.int y6]) rfl hthis (by decide) rfl (met_X2_layOut Y this y6) gX2_survey_X2_layOut rfl ⟨rfl, rfl⟩ nd_X2_layOut ⟨Nat.le_of_ble_eq_true rfl, Nat.le_of_ble_eq_true rfl⟩ rfl rfl (Nat.le_of_ble_eq_true rfl) ⟨Nat.zero_le _, Nat.zero_le _⟩ dX2_survey_115 hF (fun h14 hF => ?_)
      refine xg_aload_n (pc := 118) C dX2_survey_118 0 rfl ?_
      refine xg_cvI (pc := 119) (C1 := RX2) (T1 := TX2) (ci := 2) C (fun zs => []) rfl hthis (by decide) rfl (met_X2_fitsNow Y this) gX2_survey_X2_fitsNow rfl ⟨rfl, rfl⟩ nd_X2_fitsNow ⟨Nat.le_of_ble_eq_true rfl, Nat.le_of_ble_eq_true rfl⟩ rfl rfl (Nat.le_of_ble_eq_true rfl) ⟨Nat.zero_le _, Nat.zero_le _⟩ dX2_survey_119 hF (fun r16 h15 hF => ?_)
      refine xg_if_eq (pc := 122) 146 C dX2_survey_122 (by decide) (fun hc => ?_) (fun hc => ?_)
      · have hF := hF.1 hc
        exact hF
      · have hF := hF.2 hc
        refine xg_aload_n (pc := 125) C dX2_survey_125 0 rfl ?_
        refine xg_geti (pc := 126) (C1 := RX2) (T1 := TX2) (ci := 2) (ref := "SandGlasses$Cloth") C inm_X2_survey_2 rfl (by decide) 0 (by decide) rfl dX2_survey_126 (List.mem_of_getElem? (i := 3) rfl) rfl rfl hthis ?_
        refine xg_iload (pc := 129) C dX2_survey_129 1 rfl ?_
        refine xg_icmp_ne (pc := 131) 142 C dX2_survey_131 (by decide) (fun hc => ?_) (fun hc => ?_)
        · have hF := hF.1 hc
          exact hF
        · have hF := hF.2 hc
          refine xg_aload_n (pc := 134) C dX2_survey_134 0 rfl ?_
          refine xg_aload_n (pc := 135) C dX2_survey_135 0 rfl ?_
          refine xg_cvI (pc := 136) (C1 := RX2) (T1 := TX2) (ci := 2) C (fun zs => []) rfl hthis (by decide) rfl (met_X2_rowNumber Y this) gX2_survey_X2_rowNumber rfl ⟨rfl, rfl⟩ nd_X2_rowNumber ⟨Nat.le_of_ble_eq_true rfl, Nat.le_of_ble_eq_true rfl⟩ rfl rfl (Nat.le_of_ble_eq_true rfl) ⟨Nat.zero_le _, Nat.zero_le _⟩ dX2_survey_136 hF (fun r18 h17 hF => ?_)
          refine xg_puti (pc := 139) (C1 := RX2) (T1 := TX2) (ci := 2) (ref := "SandGlasses$Cloth") C inm_X2_survey_2 rfl (by decide) tyX2 tyX2_ok nmX2 1 (by decide) rfl dX2_survey_139 (List.mem_of_getElem? (i := 4) rfl) rfl rfl (tyX2_ok 1 (by decide)) rfl hthis (fun h19 eh19 => ?_)
          have hF := hF h19 eh19
          exact hF
  · intro y5 y6 h hF
    obtain ⟨z20, ez20⟩ : ∃ y : Int32, y = y6 + 1 := ⟨_, rfl⟩
    have hF := hF z20 ez20
    refine xg_iinc (pc := 146) (v := z20) (lv2 := [(6, .int z20), (0, va_rf (some this)), (4, .int x4), (5, .int y5)]) C dX2_survey_146 3 rfl (by rw [ez20]; rfl) 7 hnL (by decide) rfl ?_
    refine xg_goto (pc := 149) 105 C dX2_survey_149 (by decide) ?_
    refine xg_sub (lv2 := [(0, va_rf (some this)), (4, .int x4), (5, .int y5), (6, .int z20)]) [1, 2, 3, 0] rfl ?_
    exact hF
  · intro y5 y6 h hF
    refine xg_aload_n (pc := 142) C dX2_survey_142 0 rfl ?_
    refine xg_cvV (pc := 143) (C1 := RX2) (T1 := TX2) (ci := 2) C (fun zs => []) rfl hthis (by decide) rfl (met_X2_noteFitting Y this) gX2_survey_X2_noteFitting rfl ⟨rfl, rfl⟩ nd_X2_noteFitting ⟨Nat.le_of_ble_eq_true rfl, Nat.le_of_ble_eq_true rfl⟩ rfl rfl (Nat.le_of_ble_eq_true rfl) ⟨Nat.zero_le _, Nat.zero_le _⟩ dX2_survey_143 hF (fun h21 hF => ?_)
    exact hF
  · skip
    refine xg_aload_n (pc := 0) C dX2_survey_0 0 rfl ?_
    refine xg_aload_n (pc := 1) C dX2_survey_1 1 rfl ?_
    refine xg_putr (pc := 2) (C1 := RX2) (T1 := TX2) (ci := 2) (ref := "SandGlasses$Cloth") C inm_X2_survey_2 rfl (by decide) tyX2 tyX2_ok nmX2 12 (by decide) rfl (ty1 := .object "SandGlasses$Text") (xg_rt _) dX2_survey_2 (List.mem_of_getElem? (i := 1) rfl) rfl rfl (tyX2_ok 12 (by decide)) rfl hthis (fun h1 eh1 => ?_)
    have hF := hF h1 eh1
    refine xg_aload_n (pc := 5) C dX2_survey_5 0 rfl ?_
    refine xg_aload_n (pc := 6) C dX2_survey_6 2 rfl ?_
    refine xg_putr (pc := 7) (C1 := RX2) (T1 := TX2) (ci := 2) (ref := "SandGlasses$Cloth") C inm_X2_survey_2 rfl (by decide) tyX2 tyX2_ok nmX2 13 (by decide) rfl (ty1 := .object "SandGlasses$Text") (xg_rt _) dX2_survey_7 (List.mem_of_getElem? (i := 2) rfl) rfl rfl (tyX2_ok 13 (by decide)) rfl hthis (fun h2 eh2 => ?_)
    have hF := hF h2 eh2
    refine xg_aload_n (pc := 10) C dX2_survey_10 0 rfl ?_
    refine xg_iconst (pc := 11) (v := 0) C dX2_survey_11 (by decide) ?_
    refine xg_puti (pc := 12) (C1 := RX2) (T1 := TX2) (ci := 2) (ref := "SandGlasses$Cloth") C inm_X2_survey_2 rfl (by decide) tyX2 tyX2_ok nmX2 0 (by decide) rfl dX2_survey_12 (List.mem_of_getElem? (i := 3) rfl) rfl rfl (tyX2_ok 0 (by decide)) rfl hthis (fun h3 eh3 => ?_)
    have hF := hF h3 eh3
    refine xg_aload_n (pc := 15) C dX2_survey_15 0 rfl ?_
    refine xg_bipush (pc := 16) (v := (-2)) C dX2_survey_16 (by decide) ?_
    refine xg_puti (pc := 18) (C1 := RX2) (T1 := TX2) (ci := 2) (ref := "SandGlasses$Cloth") C inm_X2_survey_2 rfl (by decide) tyX2 tyX2_ok nmX2 1 (by decide) rfl dX2_survey_18 (List.mem_of_getElem? (i := 4) rfl) rfl rfl (tyX2_ok 1 (by decide)) rfl hthis (fun h4 eh4 => ?_)
    have hF := hF h4 eh4
    refine xg_aload_n (pc := 21) C dX2_survey_21 0 rfl ?_
    refine xg_getr (pc := 22) (C1 := RX2) (T1 := TX2) (ci := 2) (ref := "SandGlasses$Cloth") C inm_X2_survey_2 rfl (by decide) 6 (by decide) rfl dX2_survey_22 (List.mem_of_getElem? (i := 5) rfl) rfl rfl hthis ?_
    refine xg_iconst (pc := 25) (v := 0) C dX2_survey_25 (by decide) ?_
    refine xg_csV (pc := 26) C (fun zs => [va_rf (xg_o h4 this 6), .int 0]) (met_J7_fill_53178 Y (xg_o h4 this 6) 0) gX2_survey_J7_fill_53178 rfl ⟨rfl, rfl⟩ nd_J7_fill_53178.2 ⟨Nat.le_of_ble_eq_true rfl, Nat.le_of_ble_eq_true rfl⟩ rfl rfl (Nat.le_of_ble_eq_true rfl) ⟨Nat.zero_le _, Nat.zero_le _⟩ dX2_survey_26 hF (fun h5 hF => ?_)
    refine xg_aload_n (pc := 29) C dX2_survey_29 0 rfl ?_
    refine xg_getr (pc := 30) (C1 := RX2) (T1 := TX2) (ci := 2) (ref := "SandGlasses$Cloth") C inm_X2_survey_2 rfl (by decide) 7 (by decide) rfl dX2_survey_30 (List.mem_of_getElem? (i := 6) rfl) rfl rfl hthis ?_
    refine xg_iconst (pc := 33) (v := 0) C dX2_survey_33 (by decide) ?_
    refine xg_csV (pc := 34) C (fun zs => [va_rf (xg_o h5 this 7), .int 0]) (met_J7_fill_53178 Y (xg_o h5 this 7) 0) gX2_survey_J7_fill_53178 rfl ⟨rfl, rfl⟩ nd_J7_fill_53178.2 ⟨Nat.le_of_ble_eq_true rfl, Nat.le_of_ble_eq_true rfl⟩ rfl rfl (Nat.le_of_ble_eq_true rfl) ⟨Nat.zero_le _, Nat.zero_le _⟩ dX2_survey_34 hF (fun h6 hF => ?_)
    refine xg_aload_n (pc := 37) C dX2_survey_37 0 rfl ?_
    refine xg_getr (pc := 38) (C1 := RX2) (T1 := TX2) (ci := 2) (ref := "SandGlasses$Cloth") C inm_X2_survey_2 rfl (by decide) 5 (by decide) rfl dX2_survey_38 (List.mem_of_getElem? (i := 7) rfl) rfl rfl hthis ?_
    refine xg_ldc2 (pc := 41) (v := (-1)) C dX2_survey_41 (List.mem_of_getElem? (i := 8) rfl) ?_
    refine xg_csV (pc := 44) C (fun zs => [va_rf (xg_o h6 this 5), .long (-1)]) (met_J7_fill_d0a16 Y (xg_o h6 this 5) (-1)) gX2_survey_J7_fill_d0a16 rfl ⟨rfl, rfl⟩ nd_J7_fill_d0a16.2 ⟨Nat.le_of_ble_eq_true rfl, Nat.le_of_ble_eq_true rfl⟩ rfl rfl (Nat.le_of_ble_eq_true rfl) ⟨Nat.zero_le _, Nat.zero_le _⟩ dX2_survey_44 hF (fun h7 hF => ?_)
    refine xg_aload_n (pc := 47) C dX2_survey_47 0 rfl ?_
    refine xg_aload_n (pc := 48) C dX2_survey_48 3 rfl ?_
    refine xg_cvV (pc := 49) (C1 := RX2) (T1 := TX2) (ci := 2) C (fun zs => [va_rf x3]) rfl hthis (by decide) rfl (met_X2_readFacts Y this x3) gX2_survey_X2_readFacts rfl ⟨rfl, rfl⟩ nd_X2_readFacts ⟨Nat.le_of_ble_eq_true rfl, Nat.le_of_ble_eq_true rfl⟩ rfl rfl (Nat.le_of_ble_eq_true rfl) ⟨Nat.zero_le _, Nat.zero_le _⟩ dX2_survey_49 hF (fun h8 hF => ?_)
    refine xg_aload_n (pc := 52) C dX2_survey_52 0 rfl ?_
    refine xg_cvV (pc := 53) (C1 := RX2) (T1 := TX2) (ci := 2) C (fun zs => []) rfl hthis (by decide) rfl (met_X2_findStops Y this) gX2_survey_X2_findStops rfl ⟨rfl, rfl⟩ nd_X2_findStops ⟨Nat.le_of_ble_eq_true rfl, Nat.le_of_ble_eq_true rfl⟩ rfl rfl (Nat.le_of_ble_eq_true rfl) ⟨Nat.zero_le _, Nat.zero_le _⟩ dX2_survey_53 hF (fun h9 hF => ?_)
    refine xg_aload_n (pc := 56) C dX2_survey_56 0 rfl ?_
    refine xg_geti (pc := 57) (C1 := RX2) (T1 := TX2) (ci := 2) (ref := "SandGlasses$Cloth") C inm_X2_survey_2 rfl (by decide) 10 (by decide) rfl dX2_survey_57 (List.mem_of_getElem? (i := 9) rfl) rfl rfl hthis ?_
    refine xg_if_eq (pc := 60) 67 C dX2_survey_60 (by decide) (fun hc => ?_) (fun hc => ?_)
    · have hF := hF.1 hc
      refine xg_iconst (pc := 67) (v := 1) C dX2_survey_67 (by decide) ?_
      refine xg_sub (lv2 := [(0, va_rf (some this)), (1, va_rf x1), (4, .int x4)]) [0, 1, 4] rfl ?_
      exact hF
    · have hF := hF.2 hc
      refine xg_iconst (pc := 63) (v := 0) C dX2_survey_63 (by decide) ?_
      refine xg_goto (pc := 64) 68 C dX2_survey_64 (by decide) ?_
      refine xg_sub (lv2 := [(0, va_rf (some this)), (1, va_rf x1), (4, .int x4)]) [0, 1, 4] rfl ?_
      exact hF
def rm_X2_bestMinute : Room := { frames := 1, cells := 0, slots := 0, locals := 24 }
theorem nd_X2_bestMinute : yX2_bestMinute.cls = RX2 ∧ yX2_bestMinute.cls ≠ "java/lang/invoke/MethodHandle" ∧ yX2_bestMinute.cls ≠ "java/lang/invoke/VarHandle" ∧ (parseMethodDescriptor yX2_bestMinute.desc).map (fun d => d.parameters.length) = some 0 := by decide +kernel
theorem inm_X2_bestMinute_2 : ∀ w ∈ u_ws RX2 TX2 (xg_N 2), w ∈ wsX2_bestMinute := fun _ h9 => List.mem_cons_of_mem _ (List.mem_append_right _ h9)
set_option maxHeartbeats 4000000 in
set_option maxRecDepth 100000 in
theorem met_X2_bestMinute (Y : xg_Y) (this : Nat) : xg_MI yX2_bestMinute wsX2_bestMinute rm_X2_bestMinute Y (fun zs => [va_rf (some this)]) (fun Q h => wp_X2_bestMinute Y Q this h) := by
  refine xg_startI (cc := cX2_bestMinute) (maxL := 5) (own := RX2) (by decide) rfl rfl (fun zs => Nat.le_of_ble_eq_true rfl) (fun X Q h C hnL E hw => ?_)
  unfold wp_X2_bestMinute at hw
  obtain ⟨hthis, hw⟩ := hw
  refine xg_sub (lv2 := [(0, va_rf (some this))]) [0] rfl ?_
  refine mg_use (hw (fun (y1 : Int32) (y2 : Int32) (y3 : Int32) (h : xg_H) => xg_W X 0 0 Y 11 [(0, va_rf (some this)), (1, .int y1), (2, .int y2), (3, .int y3)] [] h) (fun (y1 : Int32) (y2 : Int32) (y3 : Int32) (h : xg_H) => xg_W X 0 0 Y 57 [(0, va_rf (some this)), (1, .int y1), (2, .int y2), (3, .int y3)] [] h) ?_ ?_) (fun hF => ?_)
  · intro y1 y2 y3 h hF
    refine xg_iload_n (pc := 11) C dX2_bestMinute_11 3 rfl ?_
    refine xg_bipush (pc := 12) (v := 40) C dX2_bestMinute_12 (by decide) ?_
    refine xg_icmp_gt (pc := 14) 63 C dX2_bestMinute_14 (by decide) (fun hc => ?_) (fun hc => ?_)
    · have hF := hF.1 hc
      refine xg_iload_n (pc := 63) C dX2_bestMinute_63 1 rfl ?_
      exact xg_retI (pc := 64) C E dX2_bestMinute_64 hF
    · have hF := hF.2 hc
      refine xg_aload_n (pc := 17) C dX2_bestMinute_17 0 rfl ?_
      refine xg_geti (pc := 18) (C1 := RX2) (T1 := TX2) (ci := 2) (ref := "SandGlasses$Cloth") C inm_X2_bestMinute_2 rfl (by decide) 0 (by decide) rfl dX2_bestMinute_18 (List.mem_of_getElem? (i := 1) rfl) rfl rfl hthis ?_
      refine xg_if_le (pc := 21) 63 C dX2_bestMinute_21 (by decide) (fun hc => ?_) (fun hc => ?_)
      · have hF := hF.1 hc
        refine xg_iload_n (pc := 63) C dX2_bestMinute_63 1 rfl ?_
        exact xg_retI (pc := 64) C E dX2_bestMinute_64 hF
      · have hF := hF.2 hc
        refine xg_aload_n (pc := 24) C dX2_bestMinute_24 0 rfl ?_
        refine xg_getr (pc := 25) (C1 := RX2) (T1 := TX2) (ci := 2) (ref := "SandGlasses$Cloth") C inm_X2_bestMinute_2 rfl (by decide) 7 (by decide) rfl dX2_bestMinute_25 (List.mem_of_getElem? (i := 2) rfl) rfl rfl hthis ?_
        refine xg_iload_n (pc := 28) C dX2_bestMinute_28 3 rfl ?_
        obtain ⟨a2, ha2, hka2, hF⟩ := hF
        obtain ⟨hi, hF⟩ := hF
        refine xg_iald (pc := 29) C ha2 hka2 hi dX2_bestMinute_29 ?_
        refine xg_aload_n (pc := 30) C dX2_bestMinute_30 0 rfl ?_
        refine xg_geti (pc := 31) (C1 := RX2) (T1 := TX2) (ci := 2) (ref := "SandGlasses$Cloth") C inm_X2_bestMinute_2 rfl (by decide) 0 (by decide) rfl dX2_bestMinute_31 (List.mem_of_getElem? (i := 1) rfl) rfl rfl hthis ?_
        refine xg_aload_n (pc := 34) C dX2_bestMinute_34 0 rfl ?_
        refine xg_getr (pc := 35) (C1 := RX2) (T1 := TX2) (ci := 2) (ref := "SandGlasses$Cloth") C inm_X2_bestMinute_2 rfl (by decide) 7 (by decide) rfl dX2_bestMinute_35 (List.mem_of_getElem? (i := 2) rfl) rfl rfl hthis ?_
        refine xg_iload_n (pc := 38) C dX2_bestMinute_38 3 rfl ?_
        obtain ⟨hi, hF⟩ := hF
        refine xg_iald (pc := 39) C ha2 hka2 hi dX2_bestMinute_39 ?_
        refine xg_isub (pc := 40) C dX2_bestMinute_40 ?_
        refine xg_mmax (pc := 41) C (List.mem_of_getElem? (i := 3) rfl) (List.mem_of_getElem? (i := 4) rfl) (List.mem_of_getElem? (i := 5) rfl) (List.mem_of_getElem? (i := 6) rfl) (Nat.le_of_ble_eq_true rfl) (Nat.le_of_ble_eq_true rfl) (Nat.zero_le _) (Nat.zero_le _) dX2_bestMinute_41 ?_
        refine xg_topi (pc := 44) (fun z3 ez3 => ?_)
        have hF := hF z3 ez3
        refine xg_istore (pc := 44) (lv2 := [(4, .int z3), (0, va_rf (some this)), (1, .int y1), (2, .int y2), (3, .int y3)]) C dX2_bestMinute_44 5 hnL (by decide) rfl ?_
        refine xg_iload (pc := 46) C dX2_bestMinute_46 0 rfl ?_
        refine xg_iload_n (pc := 48) C dX2_bestMinute_48 3 rfl ?_
        refine xg_icmp_ge (pc := 49) 57 C dX2_bestMinute_49 (by decide) (fun hc => ?_) (fun hc => ?_)
        · have hF := hF.1 hc
          refine xg_sub (lv2 := [(0, va_rf (some this)), (1, .int y1), (2, .int y2), (3, .int y3)]) [1, 2, 3, 4] rfl ?_
          exact hF
        · have hF := hF.2 hc
          refine xg_iload_n (pc := 52) C dX2_bestMinute_52 4 rfl ?_
          refine xg_istore_n (pc := 53) (lv2 := [(1, .int y3), (4, .int z3), (0, va_rf (some this)), (2, .int y2), (3, .int y3)]) C dX2_bestMinute_53 5 hnL (by decide) rfl ?_
          refine xg_iload (pc := 54) C dX2_bestMinute_54 1 rfl ?_
          refine xg_istore_n (pc := 56) (lv2 := [(2, .int z3), (1, .int y3), (4, .int z3), (0, va_rf (some this)), (3, .int y3)]) C dX2_bestMinute_56 5 hnL (by decide) rfl ?_
          refine xg_sub (lv2 := [(0, va_rf (some this)), (1, .int y3), (2, .int z3), (3, .int y3)]) [3, 1, 0, 4] rfl ?_
          exact hF
  · intro y1 y2 y3 h hF
    obtain ⟨z4, ez4⟩ : ∃ y : Int32, y = y3 + 1 := ⟨_, rfl⟩
    have hF := hF z4 ez4
    refine xg_iinc (pc := 57) (v := z4) (lv2 := [(3, .int z4), (0, va_rf (some this)), (1, .int y1), (2, .int y2)]) C dX2_bestMinute_57 3 rfl (by rw [ez4]; rfl) 5 hnL (by decide) rfl ?_
    refine xg_goto (pc := 60) 11 C dX2_bestMinute_60 (by decide) ?_
    refine xg_sub (lv2 := [(0, va_rf (some this)), (1, .int y1), (2, .int y2), (3, .int z4)]) [1, 2, 3, 0] rfl ?_
    exact hF
  · skip
    refine xg_iconst (pc := 0) (v := (-1)) C dX2_bestMinute_0 (by decide) ?_
    refine xg_istore_n (pc := 1) (lv2 := [(1, .int (-1)), (0, va_rf (some this))]) C dX2_bestMinute_1 5 hnL (by decide) rfl ?_
    refine xg_aload_n (pc := 2) C dX2_bestMinute_2 1 rfl ?_
    refine xg_geti (pc := 3) (C1 := RX2) (T1 := TX2) (ci := 2) (ref := "SandGlasses$Cloth") C inm_X2_bestMinute_2 rfl (by decide) 0 (by decide) rfl dX2_bestMinute_3 (List.mem_of_getElem? (i := 1) rfl) rfl rfl hthis ?_
    refine xg_iconst (pc := 6) (v := 1) C dX2_bestMinute_6 (by decide) ?_
    refine xg_iadd (pc := 7) C dX2_bestMinute_7 ?_
    refine xg_topi (pc := 8) (fun z1 ez1 => ?_)
    have hF := hF z1 ez1
    refine xg_istore_n (pc := 8) (lv2 := [(2, .int z1), (1, .int (-1)), (0, va_rf (some this))]) C dX2_bestMinute_8 5 hnL (by decide) rfl ?_
    refine xg_iconst (pc := 9) (v := 1) C dX2_bestMinute_9 (by decide) ?_
    refine xg_istore_n (pc := 10) (lv2 := [(3, .int 1), (2, .int z1), (1, .int (-1)), (0, va_rf (some this))]) C dX2_bestMinute_10 5 hnL (by decide) rfl ?_
    refine xg_sub (lv2 := [(0, va_rf (some this)), (1, .int (-1)), (2, .int z1), (3, .int 1)]) [3, 2, 1, 0] rfl ?_
    exact hF
def rm_X2_mayBeFull : Room := { frames := 1, cells := 0, slots := 0, locals := 21 }
theorem nd_X2_mayBeFull : yX2_mayBeFull.cls = RX2 ∧ yX2_mayBeFull.cls ≠ "java/lang/invoke/MethodHandle" ∧ yX2_mayBeFull.cls ≠ "java/lang/invoke/VarHandle" ∧ (parseMethodDescriptor yX2_mayBeFull.desc).map (fun d => d.parameters.length) = some 1 := by decide +kernel
theorem inm_X2_mayBeFull_2 : ∀ w ∈ u_ws RX2 TX2 (xg_N 2), w ∈ wsX2_mayBeFull := fun _ h9 => List.mem_cons_of_mem _ (List.mem_append_right _ h9)
theorem inm_X2_mayBeFull_8 : ∀ w ∈ u_ws RX8 TX8 (xg_N 8), w ∈ wsX2_mayBeFull := fun _ h9 => List.mem_cons_of_mem _ (List.mem_append_left _ (List.mem_append_right _ h9))
set_option maxHeartbeats 4000000 in
set_option maxRecDepth 100000 in
theorem met_X2_mayBeFull (Y : xg_Y) (this : Nat) (x1 : Option Nat) : xg_MI yX2_mayBeFull wsX2_mayBeFull rm_X2_mayBeFull Y (fun zs => [va_rf (some this), va_rf x1]) (fun Q h => wp_X2_mayBeFull Y Q this x1 h) := by
  refine xg_startI (cc := cX2_mayBeFull) (maxL := 4) (own := RX2) (by decide) rfl rfl (fun zs => by cases x1 <;> exact Nat.le_of_ble_eq_true rfl) (fun X Q h C hnL E hw => ?_)
  unfold wp_X2_mayBeFull at hw
  obtain ⟨hthis, hw⟩ := hw
  refine xg_sub (lv2 := [(0, va_rf (some this)), (1, va_rf x1)]) [0, 1] (by cases x1 <;> rfl) ?_
  refine mg_use (hw (fun (y2 : Int32) (y3 : Int32) (h : xg_H) => xg_W X 0 0 Y 4 [(0, va_rf (some this)), (1, va_rf x1), (2, .int y2), (3, .int y3)] [] h) (fun (y3 : Int32) (s0 : Int32) (s1 : Int32) (h : xg_H) => xg_W X 0 0 Y 38 [(0, va_rf (some this)), (1, va_rf x1), (3, .int y3)] [.int s0, .int s1] h) ?_ ?_) (fun hF => ?_)
  · intro y2 y3 h hF
    refine xg_iload_n (pc := 4) C dX2_mayBeFull_4 3 rfl ?_
    refine xg_aload_n (pc := 5) C dX2_mayBeFull_5 1 rfl ?_
    obtain ⟨a1, ha1, hka1, hF⟩ := hF
    refine xg_geti (pc := 6) (C1 := RX8) (T1 := TX8) (ci := 8) (ref := "SandGlasses$Text") C inm_X2_mayBeFull_8 rfl (by decide) 0 (by decide) rfl dX2_mayBeFull_6 (List.mem_of_getElem? (i := 1) rfl) rfl ha1 hka1 ?_
    refine xg_icmp_ge (pc := 9) 46 C dX2_mayBeFull_9 (by decide) (fun hc => ?_) (fun hc => ?_)
    · have hF := hF.1 hc
      refine xg_iload_n (pc := 46) C dX2_mayBeFull_46 2 rfl ?_
      exact xg_retI (pc := 47) C E dX2_mayBeFull_47 hF
    · have hF := hF.2 hc
      refine xg_iload_n (pc := 12) C dX2_mayBeFull_12 2 rfl ?_
      refine xg_aload_n (pc := 13) C dX2_mayBeFull_13 0 rfl ?_
      refine xg_getr (pc := 14) (C1 := RX2) (T1 := TX2) (ci := 2) (ref := "SandGlasses$Cloth") C inm_X2_mayBeFull_2 rfl (by decide) 6 (by decide) rfl dX2_mayBeFull_14 (List.mem_of_getElem? (i := 2) rfl) rfl rfl hthis ?_
      refine xg_iload_n (pc := 17) C dX2_mayBeFull_17 3 rfl ?_
      obtain ⟨a2, ha2, hka2, hF⟩ := hF
      obtain ⟨hi, hF⟩ := hF
      refine xg_iald (pc := 18) C ha2 hka2 hi dX2_mayBeFull_18 ?_
      refine xg_aload_n (pc := 19) C dX2_mayBeFull_19 1 rfl ?_
      refine xg_getr (pc := 20) (C1 := RX8) (T1 := TX8) (ci := 8) (ref := "SandGlasses$Text") C inm_X2_mayBeFull_8 rfl (by decide) 1 (by decide) rfl dX2_mayBeFull_20 (List.mem_of_getElem? (i := 3) rfl) rfl ha1 hka1 ?_
      refine xg_iload_n (pc := 23) C dX2_mayBeFull_23 3 rfl ?_
      obtain ⟨a3, ha3, hka3, hF⟩ := hF
      obtain ⟨hi, hF⟩ := hF
      refine xg_iald (pc := 24) C ha3 hka3 hi dX2_mayBeFull_24 ?_
      refine xg_cnI (pc := 25) (host := "SandGlasses") C (fun zs => [.int (xg_i h a2 y3.toNatClampNeg), .int (xg_i h a3 y3.toNatClampNeg)]) (by decide +kernel) (List.mem_of_getElem? (i := 5) rfl) (List.mem_of_getElem? (i := 4) rfl) (met_X11_has Y (xg_i h a2 y3.toNatClampNeg) (xg_i h a3 y3.toNatClampNeg)) gX2_mayBeFull_X11_has_n147 rfl ⟨rfl, rfl⟩ nd_X11_has.2 ⟨Nat.le_of_ble_eq_true rfl, Nat.le_of_ble_eq_true rfl⟩ rfl rfl (Nat.le_of_ble_eq_true rfl) ⟨Nat.zero_le _, Nat.zero_le _⟩ dX2_mayBeFull_25 hF (fun r5 h4 hF => ?_)
      refine xg_if_eq (pc := 28) 37 C dX2_mayBeFull_28 (by decide) (fun hc => ?_) (fun hc => ?_)
      · have hF := hF.1 hc
        refine xg_iconst (pc := 37) (v := 0) C dX2_mayBeFull_37 (by decide) ?_
        refine xg_sub (lv2 := [(0, va_rf (some this)), (1, va_rf x1), (3, .int y3)]) [0, 1, 3] rfl ?_
        exact hF
      · have hF := hF.2 hc
        refine xg_iconst (pc := 31) (v := 1) C dX2_mayBeFull_31 (by decide) ?_
        refine xg_iload_n (pc := 32) C dX2_mayBeFull_32 3 rfl ?_
        refine xg_ishl (pc := 33) C dX2_mayBeFull_33 ?_
        refine xg_goto (pc := 34) 38 C dX2_mayBeFull_34 (by decide) ?_
        refine xg_sub (lv2 := [(0, va_rf (some this)), (1, va_rf x1), (3, .int y3)]) [0, 1, 3] rfl ?_
        exact hF
  · intro y3 s0 s1 h hF
    refine xg_ior (pc := 38) C dX2_mayBeFull_38 ?_
    refine xg_topi (pc := 39) (fun z6 ez6 => ?_)
    have hF := hF z6 ez6
    refine xg_istore_n (pc := 39) (lv2 := [(2, .int z6), (0, va_rf (some this)), (1, va_rf x1), (3, .int y3)]) C dX2_mayBeFull_39 4 hnL (by decide) (by cases x1 <;> rfl) ?_
    obtain ⟨z7, ez7⟩ : ∃ y : Int32, y = y3 + 1 := ⟨_, rfl⟩
    have hF := hF z7 ez7
    refine xg_iinc (pc := 40) (v := z7) (lv2 := [(3, .int z7), (2, .int z6), (0, va_rf (some this)), (1, va_rf x1)]) C dX2_mayBeFull_40 3 rfl (by rw [ez7]; rfl) 4 hnL (by decide) rfl ?_
    refine xg_goto (pc := 43) 4 C dX2_mayBeFull_43 (by decide) ?_
    refine xg_sub (lv2 := [(0, va_rf (some this)), (1, va_rf x1), (2, .int z6), (3, .int z7)]) [2, 3, 1, 0] rfl ?_
    exact hF
  · skip
    refine xg_iconst (pc := 0) (v := 0) C dX2_mayBeFull_0 (by decide) ?_
    refine xg_istore_n (pc := 1) (lv2 := [(2, .int 0), (0, va_rf (some this)), (1, va_rf x1)]) C dX2_mayBeFull_1 4 hnL (by decide) (by cases x1 <;> rfl) ?_
    refine xg_iconst (pc := 2) (v := 0) C dX2_mayBeFull_2 (by decide) ?_
    refine xg_istore_n (pc := 3) (lv2 := [(3, .int 0), (2, .int 0), (0, va_rf (some this)), (1, va_rf x1)]) C dX2_mayBeFull_3 4 hnL (by decide) rfl ?_
    refine xg_sub (lv2 := [(0, va_rf (some this)), (1, va_rf x1), (2, .int 0), (3, .int 0)]) [2, 3, 1, 0] rfl ?_
    exact hF
def rm_X2_mayBeEmpty : Room := { frames := 1, cells := 0, slots := 0, locals := 21 }
theorem nd_X2_mayBeEmpty : yX2_mayBeEmpty.cls = RX2 ∧ yX2_mayBeEmpty.cls ≠ "java/lang/invoke/MethodHandle" ∧ yX2_mayBeEmpty.cls ≠ "java/lang/invoke/VarHandle" ∧ (parseMethodDescriptor yX2_mayBeEmpty.desc).map (fun d => d.parameters.length) = some 1 := by decide +kernel
theorem inm_X2_mayBeEmpty_2 : ∀ w ∈ u_ws RX2 TX2 (xg_N 2), w ∈ wsX2_mayBeEmpty := fun _ h9 => List.mem_cons_of_mem _ (List.mem_append_right _ h9)
theorem inm_X2_mayBeEmpty_8 : ∀ w ∈ u_ws RX8 TX8 (xg_N 8), w ∈ wsX2_mayBeEmpty := fun _ h9 => List.mem_cons_of_mem _ (List.mem_append_left _ (List.mem_append_right _ h9))
set_option maxHeartbeats 4000000 in
set_option maxRecDepth 100000 in
theorem met_X2_mayBeEmpty (Y : xg_Y) (this : Nat) (x1 : Option Nat) : xg_MI yX2_mayBeEmpty wsX2_mayBeEmpty rm_X2_mayBeEmpty Y (fun zs => [va_rf (some this), va_rf x1]) (fun Q h => wp_X2_mayBeEmpty Y Q this x1 h) := by
  refine xg_startI (cc := cX2_mayBeEmpty) (maxL := 4) (own := RX2) (by decide) rfl rfl (fun zs => by cases x1 <;> exact Nat.le_of_ble_eq_true rfl) (fun X Q h C hnL E hw => ?_)
  unfold wp_X2_mayBeEmpty at hw
  obtain ⟨hthis, hw⟩ := hw
  refine xg_sub (lv2 := [(0, va_rf (some this)), (1, va_rf x1)]) [0, 1] (by cases x1 <;> rfl) ?_
  refine mg_use (hw (fun (y2 : Int32) (y3 : Int32) (h : xg_H) => xg_W X 0 0 Y 4 [(0, va_rf (some this)), (1, va_rf x1), (2, .int y2), (3, .int y3)] [] h) (fun (y3 : Int32) (s0 : Int32) (s1 : Int32) (h : xg_H) => xg_W X 0 0 Y 33 [(0, va_rf (some this)), (1, va_rf x1), (3, .int y3)] [.int s0, .int s1] h) ?_ ?_) (fun hF => ?_)
  · intro y2 y3 h hF
    refine xg_iload_n (pc := 4) C dX2_mayBeEmpty_4 3 rfl ?_
    refine xg_aload_n (pc := 5) C dX2_mayBeEmpty_5 1 rfl ?_
    obtain ⟨a1, ha1, hka1, hF⟩ := hF
    refine xg_geti (pc := 6) (C1 := RX8) (T1 := TX8) (ci := 8) (ref := "SandGlasses$Text") C inm_X2_mayBeEmpty_8 rfl (by decide) 0 (by decide) rfl dX2_mayBeEmpty_6 (List.mem_of_getElem? (i := 1) rfl) rfl ha1 hka1 ?_
    refine xg_icmp_ge (pc := 9) 41 C dX2_mayBeEmpty_9 (by decide) (fun hc => ?_) (fun hc => ?_)
    · have hF := hF.1 hc
      refine xg_iload_n (pc := 41) C dX2_mayBeEmpty_41 2 rfl ?_
      exact xg_retI (pc := 42) C E dX2_mayBeEmpty_42 hF
    · have hF := hF.2 hc
      refine xg_iload_n (pc := 12) C dX2_mayBeEmpty_12 2 rfl ?_
      refine xg_aload_n (pc := 13) C dX2_mayBeEmpty_13 0 rfl ?_
      refine xg_getr (pc := 14) (C1 := RX2) (T1 := TX2) (ci := 2) (ref := "SandGlasses$Cloth") C inm_X2_mayBeEmpty_2 rfl (by decide) 6 (by decide) rfl dX2_mayBeEmpty_14 (List.mem_of_getElem? (i := 2) rfl) rfl rfl hthis ?_
      refine xg_iload_n (pc := 17) C dX2_mayBeEmpty_17 3 rfl ?_
      obtain ⟨a2, ha2, hka2, hF⟩ := hF
      obtain ⟨hi, hF⟩ := hF
      refine xg_iald (pc := 18) C ha2 hka2 hi dX2_mayBeEmpty_18 ?_
      refine xg_iconst (pc := 19) (v := 0) C dX2_mayBeEmpty_19 (by decide) ?_
      refine xg_cnI (pc := 20) (host := "SandGlasses") C (fun zs => [.int (xg_i h a2 y3.toNatClampNeg), .int 0]) (by decide +kernel) (List.mem_of_getElem? (i := 4) rfl) (List.mem_of_getElem? (i := 3) rfl) (met_X11_has Y (xg_i h a2 y3.toNatClampNeg) 0) gX2_mayBeEmpty_X11_has_n147 rfl ⟨rfl, rfl⟩ nd_X11_has.2 ⟨Nat.le_of_ble_eq_true rfl, Nat.le_of_ble_eq_true rfl⟩ rfl rfl (Nat.le_of_ble_eq_true rfl) ⟨Nat.zero_le _, Nat.zero_le _⟩ dX2_mayBeEmpty_20 hF (fun r4 h3 hF => ?_)
      refine xg_if_eq (pc := 23) 32 C dX2_mayBeEmpty_23 (by decide) (fun hc => ?_) (fun hc => ?_)
      · have hF := hF.1 hc
        refine xg_iconst (pc := 32) (v := 0) C dX2_mayBeEmpty_32 (by decide) ?_
        refine xg_sub (lv2 := [(0, va_rf (some this)), (1, va_rf x1), (3, .int y3)]) [0, 1, 3] rfl ?_
        exact hF
      · have hF := hF.2 hc
        refine xg_iconst (pc := 26) (v := 1) C dX2_mayBeEmpty_26 (by decide) ?_
        refine xg_iload_n (pc := 27) C dX2_mayBeEmpty_27 3 rfl ?_
        refine xg_ishl (pc := 28) C dX2_mayBeEmpty_28 ?_
        refine xg_goto (pc := 29) 33 C dX2_mayBeEmpty_29 (by decide) ?_
        refine xg_sub (lv2 := [(0, va_rf (some this)), (1, va_rf x1), (3, .int y3)]) [0, 1, 3] rfl ?_
        exact hF
  · intro y3 s0 s1 h hF
    refine xg_ior (pc := 33) C dX2_mayBeEmpty_33 ?_
    refine xg_topi (pc := 34) (fun z5 ez5 => ?_)
    have hF := hF z5 ez5
    refine xg_istore_n (pc := 34) (lv2 := [(2, .int z5), (0, va_rf (some this)), (1, va_rf x1), (3, .int y3)]) C dX2_mayBeEmpty_34 4 hnL (by decide) (by cases x1 <;> rfl) ?_
    obtain ⟨z6, ez6⟩ : ∃ y : Int32, y = y3 + 1 := ⟨_, rfl⟩
    have hF := hF z6 ez6
    refine xg_iinc (pc := 35) (v := z6) (lv2 := [(3, .int z6), (2, .int z5), (0, va_rf (some this)), (1, va_rf x1)]) C dX2_mayBeEmpty_35 3 rfl (by rw [ez6]; rfl) 4 hnL (by decide) rfl ?_
    refine xg_goto (pc := 38) 4 C dX2_mayBeEmpty_38 (by decide) ?_
    refine xg_sub (lv2 := [(0, va_rf (some this)), (1, va_rf x1), (2, .int z5), (3, .int z6)]) [2, 3, 1, 0] rfl ?_
    exact hF
  · skip
    refine xg_iconst (pc := 0) (v := 0) C dX2_mayBeEmpty_0 (by decide) ?_
    refine xg_istore_n (pc := 1) (lv2 := [(2, .int 0), (0, va_rf (some this)), (1, va_rf x1)]) C dX2_mayBeEmpty_1 4 hnL (by decide) (by cases x1 <;> rfl) ?_
    refine xg_iconst (pc := 2) (v := 0) C dX2_mayBeEmpty_2 (by decide) ?_
    refine xg_istore_n (pc := 3) (lv2 := [(3, .int 0), (2, .int 0), (0, va_rf (some this)), (1, va_rf x1)]) C dX2_mayBeEmpty_3 4 hnL (by decide) rfl ?_
    refine xg_sub (lv2 := [(0, va_rf (some this)), (1, va_rf x1), (2, .int 0), (3, .int 0)]) [2, 3, 1, 0] rfl ?_
    exact hF
def rm_X11_lowest : Room := { frames := 1, cells := 0, slots := 0, locals := 21 }
theorem nd_X11_lowest : yX11_lowest.cls = RX11 ∧ yX11_lowest.cls ≠ "java/lang/invoke/MethodHandle" ∧ yX11_lowest.cls ≠ "java/lang/invoke/VarHandle" ∧ (parseMethodDescriptor yX11_lowest.desc).map (fun d => d.parameters.length) = some 1 := by decide +kernel
set_option maxHeartbeats 4000000 in
set_option maxRecDepth 100000 in
theorem met_X11_lowest (Y : xg_Y) (x0 : Int32) : xg_MI yX11_lowest wsX11_lowest rm_X11_lowest Y (fun zs => [.int x0]) (fun Q h => wp_X11_lowest Y Q x0 h) := by
  refine xg_startI (cc := cX11_lowest) (maxL := 2) (own := RX11) (by decide) rfl rfl (fun zs => Nat.le_of_ble_eq_true rfl) (fun X Q h C hnL E hw => ?_)
  unfold wp_X11_lowest at hw
  refine xg_sub (lv2 := [(0, .int x0)]) [0] rfl ?_
  refine mg_use (hw (fun (y1 : Int32) (h : xg_H) => xg_W X 0 0 Y 2 [(0, .int x0), (1, .int y1)] [] h) ?_) (fun hF => ?_)
  · intro y1 h hF
    refine xg_iload_n (pc := 2) C dX11_lowest_2 1 rfl ?_
    refine xg_bipush (pc := 3) (v := 30) C dX11_lowest_3 (by decide) ?_
    refine xg_icmp_gt (pc := 5) 24 C dX11_lowest_5 (by decide) (fun hc => ?_) (fun hc => ?_)
    · have hF := hF.1 hc
      refine xg_iconst (pc := 24) (v := (-1)) C dX11_lowest_24 (by decide) ?_
      exact xg_retI (pc := 25) C E dX11_lowest_25 hF
    · have hF := hF.2 hc
      refine xg_iload_n (pc := 8) C dX11_lowest_8 0 rfl ?_
      refine xg_iload_n (pc := 9) C dX11_lowest_9 1 rfl ?_
      refine xg_csI (pc := 10) C (fun zs => [.int x0, .int y1]) (met_X11_has Y x0 y1) gX11_lowest_X11_has rfl ⟨rfl, rfl⟩ nd_X11_has.2 ⟨Nat.le_of_ble_eq_true rfl, Nat.le_of_ble_eq_true rfl⟩ rfl rfl (Nat.le_of_ble_eq_true rfl) ⟨Nat.zero_le _, Nat.zero_le _⟩ dX11_lowest_10 hF (fun r2 h1 hF => ?_)
      refine xg_if_eq (pc := 13) 18 C dX11_lowest_13 (by decide) (fun hc => ?_) (fun hc => ?_)
      · have hF := hF.1 hc
        obtain ⟨z3, ez3⟩ : ∃ y : Int32, y = y1 + 1 := ⟨_, rfl⟩
        have hF := hF z3 ez3
        refine xg_iinc (pc := 18) (v := z3) (lv2 := [(1, .int z3), (0, .int x0)]) C dX11_lowest_18 1 rfl (by rw [ez3]; rfl) 2 hnL (by decide) rfl ?_
        refine xg_goto (pc := 21) 2 C dX11_lowest_21 (by decide) ?_
        refine xg_sub (lv2 := [(0, .int x0), (1, .int z3)]) [1, 0] rfl ?_
        exact hF
      · have hF := hF.2 hc
        refine xg_iload_n (pc := 16) C dX11_lowest_16 1 rfl ?_
        exact xg_retI (pc := 17) C E dX11_lowest_17 hF
  · skip
    refine xg_iconst (pc := 0) (v := 0) C dX11_lowest_0 (by decide) ?_
    refine xg_istore_n (pc := 1) (lv2 := [(1, .int 0), (0, .int x0)]) C dX11_lowest_1 2 hnL (by decide) rfl ?_
    refine xg_sub (lv2 := [(0, .int x0), (1, .int 0)]) [1, 0] rfl ?_
    exact hF
def rm_X2_sureTop : Room := { frames := 2, cells := 0, slots := 0, locals := 42 }
theorem nd_X2_sureTop : yX2_sureTop.cls = RX2 ∧ yX2_sureTop.cls ≠ "java/lang/invoke/MethodHandle" ∧ yX2_sureTop.cls ≠ "java/lang/invoke/VarHandle" ∧ (parseMethodDescriptor yX2_sureTop.desc).map (fun d => d.parameters.length) = some 1 := by decide +kernel
theorem inm_X2_sureTop_2 : ∀ w ∈ u_ws RX2 TX2 (xg_N 2), w ∈ wsX2_sureTop := fun _ h9 => List.mem_cons_of_mem _ (List.mem_append_right _ h9)
set_option maxHeartbeats 4000000 in
set_option maxRecDepth 100000 in
theorem met_X2_sureTop (Y : xg_Y) (this : Nat) (x1 : Int32) : xg_MI yX2_sureTop wsX2_sureTop rm_X2_sureTop Y (fun zs => [va_rf (some this), .int x1]) (fun Q h => wp_X2_sureTop Y Q this x1 h) := by
  refine xg_startI (cc := cX2_sureTop) (maxL := 2) (own := RX2) (by decide) rfl rfl (fun zs => Nat.le_of_ble_eq_true rfl) (fun X Q h C hnL E hw => ?_)
  unfold wp_X2_sureTop at hw
  obtain ⟨hthis, hw⟩ := hw
  refine xg_sub (lv2 := [(0, va_rf (some this)), (1, .int x1)]) [0, 1] rfl ?_
  have hF := hw
  refine xg_iload_n (pc := 0) C dX2_sureTop_0 1 rfl ?_
  refine xg_if_lt (pc := 1) 22 C dX2_sureTop_1 (by decide) (fun hc => ?_) (fun hc => ?_)
  · have hF := hF.1 hc
    refine xg_iconst (pc := 22) (v := (-1)) C dX2_sureTop_22 (by decide) ?_
    exact xg_retI (pc := 23) C E dX2_sureTop_23 hF
  · have hF := hF.2 hc
    refine xg_iload_n (pc := 4) C dX2_sureTop_4 1 rfl ?_
    refine xg_iconst (pc := 5) (v := 4) C dX2_sureTop_5 (by decide) ?_
    refine xg_icmp_ge (pc := 6) 22 C dX2_sureTop_6 (by decide) (fun hc => ?_) (fun hc => ?_)
    · have hF := hF.1 hc
      refine xg_iconst (pc := 22) (v := (-1)) C dX2_sureTop_22 (by decide) ?_
      exact xg_retI (pc := 23) C E dX2_sureTop_23 hF
    · have hF := hF.2 hc
      refine xg_aload_n (pc := 9) C dX2_sureTop_9 0 rfl ?_
      refine xg_getr (pc := 10) (C1 := RX2) (T1 := TX2) (ci := 2) (ref := "SandGlasses$Cloth") C inm_X2_sureTop_2 rfl (by decide) 6 (by decide) rfl dX2_sureTop_10 (List.mem_of_getElem? (i := 1) rfl) rfl rfl hthis ?_
      refine xg_iload_n (pc := 13) C dX2_sureTop_13 1 rfl ?_
      obtain ⟨a1, ha1, hka1, hF⟩ := hF
      obtain ⟨hi, hF⟩ := hF
      refine xg_iald (pc := 14) C ha1 hka1 hi dX2_sureTop_14 ?_
      refine xg_csI (pc := 15) C (fun zs => [.int (xg_i h a1 x1.toNatClampNeg)]) (met_J6_bitCount_0f7a4 Y (xg_i h a1 x1.toNatClampNeg)) gX2_sureTop_J6_bitCount_0f7a4 rfl ⟨rfl, rfl⟩ nd_J6_bitCount_0f7a4.2 ⟨Nat.le_of_ble_eq_true rfl, Nat.le_of_ble_eq_true rfl⟩ rfl rfl (Nat.le_of_ble_eq_true rfl) ⟨Nat.zero_le _, Nat.zero_le _⟩ dX2_sureTop_15 hF (fun r3 h2 hF => ?_)
      refine xg_iconst (pc := 18) (v := 1) C dX2_sureTop_18 (by decide) ?_
      refine xg_icmp_eq (pc := 19) 24 C dX2_sureTop_19 (by decide) (fun hc => ?_) (fun hc => ?_)
      · have hF := hF.1 hc
        refine xg_aload_n (pc := 24) C dX2_sureTop_24 0 rfl ?_
        refine xg_getr (pc := 25) (C1 := RX2) (T1 := TX2) (ci := 2) (ref := "SandGlasses$Cloth") C inm_X2_sureTop_2 rfl (by decide) 6 (by decide) rfl dX2_sureTop_25 (List.mem_of_getElem? (i := 1) rfl) rfl rfl hthis ?_
        refine xg_iload_n (pc := 28) C dX2_sureTop_28 1 rfl ?_
        obtain ⟨a4, ha4, hka4, hF⟩ := hF
        obtain ⟨hi, hF⟩ := hF
        refine xg_iald (pc := 29) C ha4 hka4 hi dX2_sureTop_29 ?_
        refine xg_cnI (pc := 30) (host := "SandGlasses") C (fun zs => [.int (xg_i h2 a4 x1.toNatClampNeg)]) (by decide +kernel) (List.mem_of_getElem? (i := 10) rfl) (List.mem_of_getElem? (i := 9) rfl) (met_X11_lowest Y (xg_i h2 a4 x1.toNatClampNeg)) gX2_sureTop_X11_lowest_n157 rfl ⟨rfl, rfl⟩ nd_X11_lowest.2 ⟨Nat.le_of_ble_eq_true rfl, Nat.le_of_ble_eq_true rfl⟩ rfl rfl (Nat.le_of_ble_eq_true rfl) ⟨Nat.zero_le _, Nat.zero_le _⟩ dX2_sureTop_30 hF (fun r6 h5 hF => ?_)
        exact xg_retI (pc := 33) C E dX2_sureTop_33 hF
      · have hF := hF.2 hc
        refine xg_iconst (pc := 22) (v := (-1)) C dX2_sureTop_22 (by decide) ?_
        exact xg_retI (pc := 23) C E dX2_sureTop_23 hF
def rm_X11_fits : Room := { frames := 6, cells := 0, slots := 0, locals := 143 }
theorem nd_X11_fits : yX11_fits.cls = RX11 ∧ yX11_fits.cls ≠ "java/lang/invoke/MethodHandle" ∧ yX11_fits.cls ≠ "java/lang/invoke/VarHandle" ∧ (parseMethodDescriptor yX11_fits.desc).map (fun d => d.parameters.length) = some 4 := by decide +kernel
theorem inm_X11_fits_2 : ∀ w ∈ u_ws RX2 TX2 (xg_N 2), w ∈ wsX11_fits := fun _ h9 => List.mem_cons_of_mem _ (List.mem_append_left _ (List.mem_append_left _ (List.mem_append_left _ (List.mem_append_right _ h9))))
theorem inm_X11_fits_11 : ∀ w ∈ u_ws RX11 TX11 (xg_N 11), w ∈ wsX11_fits := fun _ h9 => List.mem_cons_of_mem _ (List.mem_append_left _ (List.mem_append_left _ (List.mem_append_left _ (List.mem_append_left _ (List.mem_append_right _ h9)))))
set_option maxHeartbeats 4000000 in
set_option maxRecDepth 100000 in
theorem met_X11_fits (Y : xg_Y) (this : Nat) (x1 : Int32) (x2 : Int32) (x3 : Int32) (x4 : Int32) : xg_MI yX11_fits wsX11_fits rm_X11_fits Y (fun zs => [va_rf (some this), .int x1, .int x2, .int x3, .int x4]) (fun Q h => wp_X11_fits Y Q this x1 x2 x3 x4 h) := by
  refine xg_startI (cc := cX11_fits) (maxL := 8) (own := RX11) (by decide) rfl rfl (fun zs => Nat.le_of_ble_eq_true rfl) (fun X Q h C hnL E hw => ?_)
  unfold wp_X11_fits at hw
  obtain ⟨hthis, hw⟩ := hw
  refine xg_sub (lv2 := [(0, va_rf (some this)), (1, .int x1), (2, .int x2), (3, .int x3), (4, .int x4)]) [0, 1, 2, 3, 4] rfl ?_
  refine mg_use (hw (fun (y5 : Option Nat) (s0 : Int32) (s1 : Option Nat) (s2 : Option Nat) (s3 : Option Nat) (s4 : Option Nat) (h : xg_H) => xg_W X 0 0 Y 96 [(0, va_rf (some this)), (4, .int x4), (5, va_rf y5)] [.int s0, va_rf s1, va_rf s2, va_rf s3, va_rf s4] h) ?_) (fun hF => ?_)
  · intro y5 s0 s1 s2 s3 s4 h hF
    obtain ⟨a13, ha13, hka13, hF⟩ := hF
    refine xg_cvV (pc := 96) (C1 := RX2) (T1 := TX2) (ci := 2) C (fun zs => [va_rf s3, va_rf s2, va_rf s1, .int s0]) ha13 hka13 (by decide) rfl (met_X2_survey Y a13 s3 s2 s1 s0) gX11_fits_X2_survey rfl ⟨rfl, rfl⟩ nd_X2_survey ⟨Nat.le_of_ble_eq_true rfl, Nat.le_of_ble_eq_true rfl⟩ rfl rfl (Nat.le_of_ble_eq_true rfl) ⟨Nat.zero_le _, Nat.zero_le _⟩ dX11_fits_96 hF (fun h14 hF => ?_)
    refine xg_iload (pc := 99) C dX11_fits_99 1 rfl ?_
    by_cases hs0 : x4 = 0
    · have hF := hF.1 hs0
      refine xg_tabIn (pc := 101) 132 C dX11_fits_101 (by rw [hs0]; decide) (by rw [hs0]; decide) (off := 31) (by rw [hs0]; rfl) (by decide) ?_
      refine xg_aload_n (pc := 132) C dX11_fits_132 0 rfl ?_
      refine xg_getr (pc := 133) (C1 := RX11) (T1 := TX11) (ci := 11) (ref := "SandGlasses") C inm_X11_fits_11 rfl (by decide) 4 (by decide) rfl dX11_fits_133 (List.mem_of_getElem? (i := 2) rfl) rfl rfl hthis ?_
      obtain ⟨a15, ha15, hka15, hF⟩ := hF
      refine xg_geti (pc := 136) (C1 := RX2) (T1 := TX2) (ci := 2) (ref := "SandGlasses$Cloth") C inm_X11_fits_2 rfl (by decide) 0 (by decide) rfl dX11_fits_136 (List.mem_of_getElem? (i := 3) rfl) rfl ha15 hka15 ?_
      exact xg_retI (pc := 139) C E dX11_fits_139 hF
    have hF := hF.2
    by_cases hs1 : x4 = 1
    · have hF := hF.1 hs1
      refine xg_tabIn (pc := 101) 140 C dX11_fits_101 (by rw [hs1]; decide) (by rw [hs1]; decide) (off := 39) (by rw [hs1]; rfl) (by decide) ?_
      refine xg_aload_n (pc := 140) C dX11_fits_140 0 rfl ?_
      refine xg_getr (pc := 141) (C1 := RX11) (T1 := TX11) (ci := 11) (ref := "SandGlasses") C inm_X11_fits_11 rfl (by decide) 4 (by decide) rfl dX11_fits_141 (List.mem_of_getElem? (i := 2) rfl) rfl rfl hthis ?_
      obtain ⟨a16, ha16, hka16, hF⟩ := hF
      refine xg_cvI (pc := 144) (C1 := RX2) (T1 := TX2) (ci := 2) C (fun zs => []) ha16 hka16 (by decide) rfl (met_X2_bestMinute Y a16) gX11_fits_X2_bestMinute rfl ⟨rfl, rfl⟩ nd_X2_bestMinute ⟨Nat.le_of_ble_eq_true rfl, Nat.le_of_ble_eq_true rfl⟩ rfl rfl (Nat.le_of_ble_eq_true rfl) ⟨Nat.zero_le _, Nat.zero_le _⟩ dX11_fits_144 hF (fun r18 h17 hF => ?_)
      exact xg_retI (pc := 147) C E dX11_fits_147 hF
    have hF := hF.2
    by_cases hs2 : x4 = 2
    · have hF := hF.1 hs2
      refine xg_tabIn (pc := 101) 148 C dX11_fits_101 (by rw [hs2]; decide) (by rw [hs2]; decide) (off := 47) (by rw [hs2]; rfl) (by decide) ?_
      refine xg_aload_n (pc := 148) C dX11_fits_148 0 rfl ?_
      refine xg_getr (pc := 149) (C1 := RX11) (T1 := TX11) (ci := 11) (ref := "SandGlasses") C inm_X11_fits_11 rfl (by decide) 4 (by decide) rfl dX11_fits_149 (List.mem_of_getElem? (i := 2) rfl) rfl rfl hthis ?_
      refine xg_aload (pc := 152) C dX11_fits_152 2 rfl ?_
      obtain ⟨a19, ha19, hka19, hF⟩ := hF
      refine xg_cvI (pc := 154) (C1 := RX2) (T1 := TX2) (ci := 2) C (fun zs => [va_rf y5]) ha19 hka19 (by decide) rfl (met_X2_mayBeFull Y a19 y5) gX11_fits_X2_mayBeFull rfl ⟨rfl, rfl⟩ nd_X2_mayBeFull ⟨Nat.le_of_ble_eq_true rfl, Nat.le_of_ble_eq_true rfl⟩ rfl rfl (Nat.le_of_ble_eq_true rfl) ⟨Nat.zero_le _, Nat.zero_le _⟩ dX11_fits_154 hF (fun r21 h20 hF => ?_)
      exact xg_retI (pc := 157) C E dX11_fits_157 hF
    have hF := hF.2
    by_cases hs3 : x4 = 3
    · have hF := hF.1 hs3
      refine xg_tabIn (pc := 101) 158 C dX11_fits_101 (by rw [hs3]; decide) (by rw [hs3]; decide) (off := 57) (by rw [hs3]; rfl) (by decide) ?_
      refine xg_aload_n (pc := 158) C dX11_fits_158 0 rfl ?_
      refine xg_getr (pc := 159) (C1 := RX11) (T1 := TX11) (ci := 11) (ref := "SandGlasses") C inm_X11_fits_11 rfl (by decide) 4 (by decide) rfl dX11_fits_159 (List.mem_of_getElem? (i := 2) rfl) rfl rfl hthis ?_
      refine xg_aload (pc := 162) C dX11_fits_162 2 rfl ?_
      obtain ⟨a22, ha22, hka22, hF⟩ := hF
      refine xg_cvI (pc := 164) (C1 := RX2) (T1 := TX2) (ci := 2) C (fun zs => [va_rf y5]) ha22 hka22 (by decide) rfl (met_X2_mayBeEmpty Y a22 y5) gX11_fits_X2_mayBeEmpty rfl ⟨rfl, rfl⟩ nd_X2_mayBeEmpty ⟨Nat.le_of_ble_eq_true rfl, Nat.le_of_ble_eq_true rfl⟩ rfl rfl (Nat.le_of_ble_eq_true rfl) ⟨Nat.zero_le _, Nat.zero_le _⟩ dX11_fits_164 hF (fun r24 h23 hF => ?_)
      exact xg_retI (pc := 167) C E dX11_fits_167 hF
    have hF := hF.2
    have hF := hF hs0 hs1 hs2 hs3
    refine xg_tabOut (pc := 101) 168 C dX11_fits_101 (mg_swd x4 0 3 (fun v h1 h2 => ?_)) (by decide) ?_
    · rcases (show v = 0 ∨ v = 1 ∨ v = 2 ∨ v = 3 by omega) with rfl | rfl | rfl | rfl
      · exact hs0
      · exact hs1
      · exact hs2
      · exact hs3
    refine xg_iload (pc := 168) C dX11_fits_168 1 rfl ?_
    refine xg_bipush (pc := 170) (v := 10) C dX11_fits_170 (by decide) ?_
    refine xg_icmp_ge (pc := 172) 189 C dX11_fits_172 (by decide) (fun hc => ?_) (fun hc => ?_)
    · have hF := hF.1 hc
      refine xg_aload_n (pc := 189) C dX11_fits_189 0 rfl ?_
      refine xg_getr (pc := 190) (C1 := RX11) (T1 := TX11) (ci := 11) (ref := "SandGlasses") C inm_X11_fits_11 rfl (by decide) 4 (by decide) rfl dX11_fits_190 (List.mem_of_getElem? (i := 2) rfl) rfl rfl hthis ?_
      obtain ⟨a25, ha25, hka25, hF⟩ := hF
      refine xg_geti (pc := 193) (C1 := RX2) (T1 := TX2) (ci := 2) (ref := "SandGlasses$Cloth") C inm_X11_fits_2 rfl (by decide) 1 (by decide) rfl dX11_fits_193 (List.mem_of_getElem? (i := 4) rfl) rfl ha25 hka25 ?_
      exact xg_retI (pc := 196) C E dX11_fits_196 hF
    · have hF := hF.2 hc
      refine xg_aload_n (pc := 175) C dX11_fits_175 0 rfl ?_
      refine xg_getr (pc := 176) (C1 := RX11) (T1 := TX11) (ci := 11) (ref := "SandGlasses") C inm_X11_fits_11 rfl (by decide) 4 (by decide) rfl dX11_fits_176 (List.mem_of_getElem? (i := 2) rfl) rfl rfl hthis ?_
      refine xg_iload (pc := 179) C dX11_fits_179 1 rfl ?_
      refine xg_iconst (pc := 181) (v := 4) C dX11_fits_181 (by decide) ?_
      refine xg_isub (pc := 182) C dX11_fits_182 ?_
      obtain ⟨a26, ha26, hka26, hF⟩ := hF
      refine xg_cvI (pc := 183) (C1 := RX2) (T1 := TX2) (ci := 2) C (fun zs => [.int (x4 - 4)]) ha26 hka26 (by decide) rfl (met_X2_sureTop Y a26 (x4 - 4)) gX11_fits_X2_sureTop rfl ⟨rfl, rfl⟩ nd_X2_sureTop ⟨Nat.le_of_ble_eq_true rfl, Nat.le_of_ble_eq_true rfl⟩ rfl rfl (Nat.le_of_ble_eq_true rfl) ⟨Nat.zero_le _, Nat.zero_le _⟩ dX11_fits_183 hF (fun r28 h27 hF => ?_)
      refine xg_goto (pc := 186) 196 C dX11_fits_186 (by decide) ?_
      exact xg_retI (pc := 196) C E dX11_fits_196 hF
  · skip
    refine xg_aload_n (pc := 0) C dX11_fits_0 0 rfl ?_
    refine xg_getr (pc := 1) (C1 := RX11) (T1 := TX11) (ci := 11) (ref := "SandGlasses") C inm_X11_fits_11 rfl (by decide) 0 (by decide) rfl dX11_fits_1 (List.mem_of_getElem? (i := 1) rfl) rfl rfl hthis ?_
    refine xg_iconst (pc := 4) (v := 0) C dX11_fits_4 (by decide) ?_
    refine xg_iload_n (pc := 5) C dX11_fits_5 1 rfl ?_
    obtain ⟨a1, ha1, hka1, hF⟩ := hF
    refine xg_cvR (pc := 6) (C1 := RX9) (T1 := TX9) (ci := 9) C (fun zs => [.int 0, .int x1]) ha1 hka1 (by decide) rfl (met_X9_find Y a1 0 x1) gX11_fits_X9_find rfl ⟨rfl, rfl⟩ nd_X9_find ⟨Nat.le_of_ble_eq_true rfl, Nat.le_of_ble_eq_true rfl⟩ rfl rfl (Nat.le_of_ble_eq_true rfl) ⟨Nat.zero_le _, Nat.zero_le _⟩ dX11_fits_6 hF (fun r3 h2 hF => ?_)
    refine xg_astore (pc := 9) (lv2 := [(5, va_rf r3), (0, va_rf (some this)), (1, .int x1), (2, .int x2), (3, .int x3), (4, .int x4)]) C dX11_fits_9 8 hnL (by decide) rfl ?_
    refine xg_aload_n (pc := 11) C dX11_fits_11 1 rfl ?_
    refine xg_getr (pc := 12) (C1 := RX11) (T1 := TX11) (ci := 11) (ref := "SandGlasses") C inm_X11_fits_11 rfl (by decide) 0 (by decide) rfl dX11_fits_12 (List.mem_of_getElem? (i := 1) rfl) rfl rfl hthis ?_
    refine xg_iconst (pc := 15) (v := 1) C dX11_fits_15 (by decide) ?_
    refine xg_iload_n (pc := 16) C dX11_fits_16 3 rfl ?_
    obtain ⟨a4, ha4, hka4, hF⟩ := hF
    refine xg_cvR (pc := 17) (C1 := RX9) (T1 := TX9) (ci := 9) C (fun zs => [.int 1, .int x2]) ha4 hka4 (by decide) rfl (met_X9_find Y a4 1 x2) gX11_fits_X9_find rfl ⟨rfl, rfl⟩ nd_X9_find ⟨Nat.le_of_ble_eq_true rfl, Nat.le_of_ble_eq_true rfl⟩ rfl rfl (Nat.le_of_ble_eq_true rfl) ⟨Nat.zero_le _, Nat.zero_le _⟩ dX11_fits_17 hF (fun r6 h5 hF => ?_)
    refine xg_astore (pc := 20) (lv2 := [(6, va_rf r6), (5, va_rf r3), (0, va_rf (some this)), (1, .int x1), (2, .int x2), (3, .int x3), (4, .int x4)]) C dX11_fits_20 8 hnL (by decide) (by cases r3 <;> rfl) ?_
    refine xg_aload_n (pc := 22) C dX11_fits_22 2 rfl ?_
    refine xg_getr (pc := 23) (C1 := RX11) (T1 := TX11) (ci := 11) (ref := "SandGlasses") C inm_X11_fits_11 rfl (by decide) 0 (by decide) rfl dX11_fits_23 (List.mem_of_getElem? (i := 1) rfl) rfl rfl hthis ?_
    refine xg_iconst (pc := 26) (v := 2) C dX11_fits_26 (by decide) ?_
    refine xg_iload_n (pc := 27) C dX11_fits_27 5 rfl ?_
    obtain ⟨a7, ha7, hka7, hF⟩ := hF
    refine xg_cvR (pc := 28) (C1 := RX9) (T1 := TX9) (ci := 9) C (fun zs => [.int 2, .int x3]) ha7 hka7 (by decide) rfl (met_X9_find Y a7 2 x3) gX11_fits_X9_find rfl ⟨rfl, rfl⟩ nd_X9_find ⟨Nat.le_of_ble_eq_true rfl, Nat.le_of_ble_eq_true rfl⟩ rfl rfl (Nat.le_of_ble_eq_true rfl) ⟨Nat.zero_le _, Nat.zero_le _⟩ dX11_fits_28 hF (fun r9 h8 hF => ?_)
    refine xg_astore (pc := 31) (lv2 := [(7, va_rf r9), (6, va_rf r6), (5, va_rf r3), (0, va_rf (some this)), (1, .int x1), (2, .int x2), (3, .int x3), (4, .int x4)]) C dX11_fits_31 8 hnL (by decide) (by cases r6 <;> rfl) ?_
    refine xg_aload (pc := 33) C dX11_fits_33 2 rfl ?_
    refine xg_ifnull (pc := 35) 67 C dX11_fits_35 (by decide) (fun hc => ?_) (fun a10 ha10 => ?_)
    · have hF := hF.1 hc
      refine xg_bipush (pc := 67) (v := (-2)) C dX11_fits_67 (by decide) ?_
      exact xg_retI (pc := 69) C E dX11_fits_69 hF
    · have hF := hF.2 a10 ha10
      refine xg_aload (pc := 38) C dX11_fits_38 1 rfl ?_
      refine xg_ifnull (pc := 40) 67 C dX11_fits_40 (by decide) (fun hc => ?_) (fun a11 ha11 => ?_)
      · have hF := hF.1 hc
        refine xg_bipush (pc := 67) (v := (-2)) C dX11_fits_67 (by decide) ?_
        exact xg_retI (pc := 69) C E dX11_fits_69 hF
      · have hF := hF.2 a11 ha11
        refine xg_aload (pc := 43) C dX11_fits_43 0 rfl ?_
        refine xg_ifnull (pc := 45) 67 C dX11_fits_45 (by decide) (fun hc => ?_) (fun a12 ha12 => ?_)
        · have hF := hF.1 hc
          refine xg_bipush (pc := 67) (v := (-2)) C dX11_fits_67 (by decide) ?_
          exact xg_retI (pc := 69) C E dX11_fits_69 hF
        · have hF := hF.2 a12 ha12
          refine xg_iload (pc := 48) C dX11_fits_48 7 rfl ?_
          refine xg_if_lt (pc := 50) 67 C dX11_fits_50 (by decide) (fun hc => ?_) (fun hc => ?_)
          · have hF := hF.1 hc
            refine xg_bipush (pc := 67) (v := (-2)) C dX11_fits_67 (by decide) ?_
            exact xg_retI (pc := 69) C E dX11_fits_69 hF
          · have hF := hF.2 hc
            refine xg_iload (pc := 53) C dX11_fits_53 7 rfl ?_
            refine xg_bipush (pc := 55) (v := 8) C dX11_fits_55 (by decide) ?_
            refine xg_icmp_eq (pc := 57) 67 C dX11_fits_57 (by decide) (fun hc => ?_) (fun hc => ?_)
            · have hF := hF.1 hc
              refine xg_bipush (pc := 67) (v := (-2)) C dX11_fits_67 (by decide) ?_
              exact xg_retI (pc := 69) C E dX11_fits_69 hF
            · have hF := hF.2 hc
              refine xg_iload (pc := 60) C dX11_fits_60 7 rfl ?_
              refine xg_bipush (pc := 62) (v := 9) C dX11_fits_62 (by decide) ?_
              refine xg_icmp_ne (pc := 64) 70 C dX11_fits_64 (by decide) (fun hc => ?_) (fun hc => ?_)
              · have hF := hF.1 hc
                refine xg_aload_n (pc := 70) C dX11_fits_70 3 rfl ?_
                refine xg_getr (pc := 71) (C1 := RX11) (T1 := TX11) (ci := 11) (ref := "SandGlasses") C inm_X11_fits_11 rfl (by decide) 4 (by decide) rfl dX11_fits_71 (List.mem_of_getElem? (i := 2) rfl) rfl rfl hthis ?_
                refine xg_aload (pc := 74) C dX11_fits_74 2 rfl ?_
                refine xg_aload (pc := 76) C dX11_fits_76 1 rfl ?_
                refine xg_aload (pc := 78) C dX11_fits_78 0 rfl ?_
                refine xg_iload (pc := 80) C dX11_fits_80 7 rfl ?_
                refine xg_bipush (pc := 82) (v := 10) C dX11_fits_82 (by decide) ?_
                refine xg_icmp_ge (pc := 84) 91 C dX11_fits_84 (by decide) (fun hc => ?_) (fun hc => ?_)
                · have hF := hF.1 hc
                  refine xg_iload (pc := 91) C dX11_fits_91 7 rfl ?_
                  refine xg_bipush (pc := 93) (v := 10) C dX11_fits_93 (by decide) ?_
                  refine xg_isub (pc := 95) C dX11_fits_95 ?_
                  refine xg_sub (lv2 := [(0, va_rf (some this)), (4, .int x4), (5, va_rf r3)]) [3, 7, 2] rfl ?_
                  exact hF
                · have hF := hF.2 hc
                  refine xg_iconst (pc := 87) (v := (-1)) C dX11_fits_87 (by decide) ?_
                  refine xg_goto (pc := 88) 96 C dX11_fits_88 (by decide) ?_
                  refine xg_sub (lv2 := [(0, va_rf (some this)), (4, .int x4), (5, va_rf r3)]) [3, 7, 2] rfl ?_
                  exact hF
              · have hF := hF.2 hc
                refine xg_bipush (pc := 67) (v := (-2)) C dX11_fits_67 (by decide) ?_
                exact xg_retI (pc := 69) C E dX11_fits_69 hF
def rm_X11_highest : Room := { frames := 1, cells := 0, slots := 0, locals := 21 }
theorem nd_X11_highest : yX11_highest.cls = RX11 ∧ yX11_highest.cls ≠ "java/lang/invoke/MethodHandle" ∧ yX11_highest.cls ≠ "java/lang/invoke/VarHandle" ∧ (parseMethodDescriptor yX11_highest.desc).map (fun d => d.parameters.length) = some 1 := by decide +kernel
set_option maxHeartbeats 4000000 in
set_option maxRecDepth 100000 in
theorem met_X11_highest (Y : xg_Y) (x0 : Int32) : xg_MI yX11_highest wsX11_highest rm_X11_highest Y (fun zs => [.int x0]) (fun Q h => wp_X11_highest Y Q x0 h) := by
  refine xg_startI (cc := cX11_highest) (maxL := 2) (own := RX11) (by decide) rfl rfl (fun zs => Nat.le_of_ble_eq_true rfl) (fun X Q h C hnL E hw => ?_)
  unfold wp_X11_highest at hw
  refine xg_sub (lv2 := [(0, .int x0)]) [0] rfl ?_
  refine mg_use (hw (fun (y1 : Int32) (h : xg_H) => xg_W X 0 0 Y 3 [(0, .int x0), (1, .int y1)] [] h) ?_) (fun hF => ?_)
  · intro y1 h hF
    refine xg_iload_n (pc := 3) C dX11_highest_3 1 rfl ?_
    refine xg_if_lt (pc := 4) 23 C dX11_highest_4 (by decide) (fun hc => ?_) (fun hc => ?_)
    · have hF := hF.1 hc
      refine xg_iconst (pc := 23) (v := (-1)) C dX11_highest_23 (by decide) ?_
      exact xg_retI (pc := 24) C E dX11_highest_24 hF
    · have hF := hF.2 hc
      refine xg_iload_n (pc := 7) C dX11_highest_7 0 rfl ?_
      refine xg_iload_n (pc := 8) C dX11_highest_8 1 rfl ?_
      refine xg_csI (pc := 9) C (fun zs => [.int x0, .int y1]) (met_X11_has Y x0 y1) gX11_highest_X11_has rfl ⟨rfl, rfl⟩ nd_X11_has.2 ⟨Nat.le_of_ble_eq_true rfl, Nat.le_of_ble_eq_true rfl⟩ rfl rfl (Nat.le_of_ble_eq_true rfl) ⟨Nat.zero_le _, Nat.zero_le _⟩ dX11_highest_9 hF (fun r2 h1 hF => ?_)
      refine xg_if_eq (pc := 12) 17 C dX11_highest_12 (by decide) (fun hc => ?_) (fun hc => ?_)
      · have hF := hF.1 hc
        obtain ⟨z3, ez3⟩ : ∃ y : Int32, y = y1 + (-1) := ⟨_, rfl⟩
        have hF := hF z3 ez3
        refine xg_iinc (pc := 17) (v := z3) (lv2 := [(1, .int z3), (0, .int x0)]) C dX11_highest_17 1 rfl (by rw [ez3]; rfl) 2 hnL (by decide) rfl ?_
        refine xg_goto (pc := 20) 3 C dX11_highest_20 (by decide) ?_
        refine xg_sub (lv2 := [(0, .int x0), (1, .int z3)]) [1, 0] rfl ?_
        exact hF
      · have hF := hF.2 hc
        refine xg_iload_n (pc := 15) C dX11_highest_15 1 rfl ?_
        exact xg_retI (pc := 16) C E dX11_highest_16 hF
  · skip
    refine xg_bipush (pc := 0) (v := 30) C dX11_highest_0 (by decide) ?_
    refine xg_istore_n (pc := 2) (lv2 := [(1, .int 30), (0, .int x0)]) C dX11_highest_2 2 hnL (by decide) rfl ?_
    refine xg_sub (lv2 := [(0, .int x0), (1, .int 30)]) [1, 0] rfl ?_
    exact hF
def rm_X11_isGlass : Room := { frames := 0, cells := 0, slots := 0, locals := 0 }
theorem nd_X11_isGlass : yX11_isGlass.cls = RX11 ∧ yX11_isGlass.cls ≠ "java/lang/invoke/MethodHandle" ∧ yX11_isGlass.cls ≠ "java/lang/invoke/VarHandle" ∧ (parseMethodDescriptor yX11_isGlass.desc).map (fun d => d.parameters.length) = some 3 := by decide +kernel
theorem inm_X11_isGlass_8 : ∀ w ∈ u_ws RX8 TX8 (xg_N 8), w ∈ wsX11_isGlass := fun _ h9 => List.mem_cons_of_mem _ (List.mem_append_right _ h9)
set_option maxHeartbeats 4000000 in
set_option maxRecDepth 100000 in
theorem met_X11_isGlass (Y : xg_Y) (x0 : Option Nat) (x1 : Int32) (x2 : Int32) : xg_MI yX11_isGlass wsX11_isGlass rm_X11_isGlass Y (fun zs => [va_rf x0, .int x1, .int x2]) (fun Q h => wp_X11_isGlass Y Q x0 x1 x2 h) := by
  refine xg_startI (cc := cX11_isGlass) (maxL := 3) (own := RX11) (by decide) rfl rfl (fun zs => by cases x0 <;> exact Nat.le_of_ble_eq_true rfl) (fun X Q h C hnL E hw => ?_)
  unfold wp_X11_isGlass at hw
  refine xg_sub (lv2 := [(0, va_rf x0), (1, .int x1), (2, .int x2)]) [0, 1, 2] (by cases x0 <;> rfl) ?_
  have hF := hw
  refine xg_iload_n (pc := 0) C dX11_isGlass_0 1 rfl ?_
  refine xg_iload_n (pc := 1) C dX11_isGlass_1 2 rfl ?_
  refine xg_icmp_lt (pc := 2) 19 C dX11_isGlass_2 (by decide) (fun hc => ?_) (fun hc => ?_)
  · have hF := hF.1 hc
    refine xg_iconst (pc := 19) (v := 0) C dX11_isGlass_19 (by decide) ?_
    exact xg_retZ (pc := 20) C E (Or.inl rfl) dX11_isGlass_20 hF
  · have hF := hF.2 hc
    refine xg_iload_n (pc := 5) C dX11_isGlass_5 1 rfl ?_
    refine xg_iload_n (pc := 6) C dX11_isGlass_6 2 rfl ?_
    refine xg_aload_n (pc := 7) C dX11_isGlass_7 0 rfl ?_
    obtain ⟨a1, ha1, hka1, hF⟩ := hF
    refine xg_geti (pc := 8) (C1 := RX8) (T1 := TX8) (ci := 8) (ref := "SandGlasses$Text") C inm_X11_isGlass_8 rfl (by decide) 0 (by decide) rfl dX11_isGlass_8 (List.mem_of_getElem? (i := 1) rfl) rfl ha1 hka1 ?_
    refine xg_iadd (pc := 11) C dX11_isGlass_11 ?_
    refine xg_icmp_ge (pc := 12) 19 C dX11_isGlass_12 (by decide) (fun hc => ?_) (fun hc => ?_)
    · have hF := hF.1 hc
      refine xg_iconst (pc := 19) (v := 0) C dX11_isGlass_19 (by decide) ?_
      exact xg_retZ (pc := 20) C E (Or.inl rfl) dX11_isGlass_20 hF
    · have hF := hF.2 hc
      refine xg_iconst (pc := 15) (v := 1) C dX11_isGlass_15 (by decide) ?_
      refine xg_goto (pc := 16) 20 C dX11_isGlass_16 (by decide) ?_
      exact xg_retZ (pc := 20) C E (Or.inr rfl) dX11_isGlass_20 hF
def rm_X11_isT : Room := { frames := 0, cells := 0, slots := 0, locals := 0 }
theorem nd_X11_isT : yX11_isT.cls = RX11 ∧ yX11_isT.cls ≠ "java/lang/invoke/MethodHandle" ∧ yX11_isT.cls ≠ "java/lang/invoke/VarHandle" ∧ (parseMethodDescriptor yX11_isT.desc).map (fun d => d.parameters.length) = some 1 := by decide +kernel
set_option maxHeartbeats 4000000 in
set_option maxRecDepth 100000 in
theorem met_X11_isT (Y : xg_Y) (x0 : Int32) : xg_MI yX11_isT wsX11_isT rm_X11_isT Y (fun zs => [.int x0]) (fun Q h => wp_X11_isT Y Q x0 h) := by
  refine xg_startI (cc := cX11_isT) (maxL := 1) (own := RX11) (by decide) rfl rfl (fun zs => Nat.le_of_ble_eq_true rfl) (fun X Q h C hnL E hw => ?_)
  unfold wp_X11_isT at hw
  refine xg_sub (lv2 := [(0, .int x0)]) [0] rfl ?_
  have hF := hw
  refine xg_iload_n (pc := 0) C dX11_isT_0 0 rfl ?_
  refine xg_iconst (pc := 1) (v := 1) C dX11_isT_1 (by decide) ?_
  refine xg_icmp_lt (pc := 2) 15 C dX11_isT_2 (by decide) (fun hc => ?_) (fun hc => ?_)
  · have hF := hF.1 hc
    refine xg_iconst (pc := 15) (v := 0) C dX11_isT_15 (by decide) ?_
    exact xg_retZ (pc := 16) C E (Or.inl rfl) dX11_isT_16 hF
  · have hF := hF.2 hc
    refine xg_iload_n (pc := 5) C dX11_isT_5 0 rfl ?_
    refine xg_bipush (pc := 6) (v := 30) C dX11_isT_6 (by decide) ?_
    refine xg_icmp_gt (pc := 8) 15 C dX11_isT_8 (by decide) (fun hc => ?_) (fun hc => ?_)
    · have hF := hF.1 hc
      refine xg_iconst (pc := 15) (v := 0) C dX11_isT_15 (by decide) ?_
      exact xg_retZ (pc := 16) C E (Or.inl rfl) dX11_isT_16 hF
    · have hF := hF.2 hc
      refine xg_iconst (pc := 11) (v := 1) C dX11_isT_11 (by decide) ?_
      refine xg_goto (pc := 12) 16 C dX11_isT_12 (by decide) ?_
      exact xg_retZ (pc := 16) C E (Or.inr rfl) dX11_isT_16 hF
def rm_X11_longestRow : Room := { frames := 1, cells := 0, slots := 0, locals := 24 }
theorem nd_X11_longestRow : yX11_longestRow.cls = RX11 ∧ yX11_longestRow.cls ≠ "java/lang/invoke/MethodHandle" ∧ yX11_longestRow.cls ≠ "java/lang/invoke/VarHandle" ∧ (parseMethodDescriptor yX11_longestRow.desc).map (fun d => d.parameters.length) = some 1 := by decide +kernel
set_option maxHeartbeats 4000000 in
set_option maxRecDepth 100000 in
theorem met_X11_longestRow (Y : xg_Y) (x0 : Int32) : xg_MI yX11_longestRow wsX11_longestRow rm_X11_longestRow Y (fun zs => [.int x0]) (fun Q h => wp_X11_longestRow Y Q x0 h) := by
  refine xg_startI (cc := cX11_longestRow) (maxL := 4) (own := RX11) (by decide) rfl rfl (fun zs => Nat.le_of_ble_eq_true rfl) (fun X Q h C hnL E hw => ?_)
  unfold wp_X11_longestRow at hw
  refine xg_sub (lv2 := [(0, .int x0)]) [0] rfl ?_
  refine mg_use (hw (fun (y1 : Int32) (y2 : Int32) (y3 : Int32) (h : xg_H) => xg_W X 0 0 Y 6 [(0, .int x0), (1, .int y1), (2, .int y2), (3, .int y3)] [] h) (fun (y1 : Int32) (y3 : Int32) (s0 : Int32) (h : xg_H) => xg_W X 0 0 Y 27 [(0, .int x0), (1, .int y1), (3, .int y3)] [.int s0] h) ?_ ?_) (fun hF => ?_)
  · intro y1 y2 y3 h hF
    refine xg_iload_n (pc := 6) C dX11_longestRow_6 3 rfl ?_
    refine xg_bipush (pc := 7) (v := 30) C dX11_longestRow_7 (by decide) ?_
    refine xg_icmp_gt (pc := 9) 40 C dX11_longestRow_9 (by decide) (fun hc => ?_) (fun hc => ?_)
    · have hF := hF.1 hc
      refine xg_iload_n (pc := 40) C dX11_longestRow_40 1 rfl ?_
      exact xg_retI (pc := 41) C E dX11_longestRow_41 hF
    · have hF := hF.2 hc
      refine xg_iload_n (pc := 12) C dX11_longestRow_12 0 rfl ?_
      refine xg_iload_n (pc := 13) C dX11_longestRow_13 3 rfl ?_
      refine xg_csI (pc := 14) C (fun zs => [.int x0, .int y3]) (met_X11_has Y x0 y3) gX11_longestRow_X11_has rfl ⟨rfl, rfl⟩ nd_X11_has.2 ⟨Nat.le_of_ble_eq_true rfl, Nat.le_of_ble_eq_true rfl⟩ rfl rfl (Nat.le_of_ble_eq_true rfl) ⟨Nat.zero_le _, Nat.zero_le _⟩ dX11_longestRow_14 hF (fun r2 h1 hF => ?_)
      refine xg_if_eq (pc := 17) 26 C dX11_longestRow_17 (by decide) (fun hc => ?_) (fun hc => ?_)
      · have hF := hF.1 hc
        refine xg_iconst (pc := 26) (v := 0) C dX11_longestRow_26 (by decide) ?_
        refine xg_sub (lv2 := [(0, .int x0), (1, .int y1), (3, .int y3)]) [0, 1, 3] rfl ?_
        exact hF
      · have hF := hF.2 hc
        refine xg_iload_n (pc := 20) C dX11_longestRow_20 2 rfl ?_
        refine xg_iconst (pc := 21) (v := 1) C dX11_longestRow_21 (by decide) ?_
        refine xg_iadd (pc := 22) C dX11_longestRow_22 ?_
        refine xg_goto (pc := 23) 27 C dX11_longestRow_23 (by decide) ?_
        refine xg_sub (lv2 := [(0, .int x0), (1, .int y1), (3, .int y3)]) [0, 1, 3] rfl ?_
        exact hF
  · intro y1 y3 s0 h hF
    refine xg_istore_n (pc := 27) (lv2 := [(2, .int s0), (0, .int x0), (1, .int y1), (3, .int y3)]) C dX11_longestRow_27 4 hnL (by decide) rfl ?_
    refine xg_iload_n (pc := 28) C dX11_longestRow_28 2 rfl ?_
    refine xg_iload_n (pc := 29) C dX11_longestRow_29 0 rfl ?_
    refine xg_mmax (pc := 30) C (List.mem_of_getElem? (i := 1) rfl) (List.mem_of_getElem? (i := 2) rfl) (List.mem_of_getElem? (i := 3) rfl) (List.mem_of_getElem? (i := 4) rfl) (Nat.le_of_ble_eq_true rfl) (Nat.le_of_ble_eq_true rfl) (Nat.zero_le _) (Nat.zero_le _) dX11_longestRow_30 ?_
    refine xg_topi (pc := 33) (fun z3 ez3 => ?_)
    have hF := hF z3 ez3
    refine xg_istore_n (pc := 33) (lv2 := [(1, .int z3), (2, .int s0), (0, .int x0), (3, .int y3)]) C dX11_longestRow_33 4 hnL (by decide) rfl ?_
    obtain ⟨z4, ez4⟩ : ∃ y : Int32, y = y3 + 1 := ⟨_, rfl⟩
    have hF := hF z4 ez4
    refine xg_iinc (pc := 34) (v := z4) (lv2 := [(3, .int z4), (1, .int z3), (2, .int s0), (0, .int x0)]) C dX11_longestRow_34 3 rfl (by rw [ez4]; rfl) 4 hnL (by decide) rfl ?_
    refine xg_goto (pc := 37) 6 C dX11_longestRow_37 (by decide) ?_
    refine xg_sub (lv2 := [(0, .int x0), (1, .int z3), (2, .int s0), (3, .int z4)]) [3, 1, 2, 0] rfl ?_
    exact hF
  · skip
    refine xg_iconst (pc := 0) (v := 0) C dX11_longestRow_0 (by decide) ?_
    refine xg_istore_n (pc := 1) (lv2 := [(1, .int 0), (0, .int x0)]) C dX11_longestRow_1 4 hnL (by decide) rfl ?_
    refine xg_iconst (pc := 2) (v := 0) C dX11_longestRow_2 (by decide) ?_
    refine xg_istore_n (pc := 3) (lv2 := [(2, .int 0), (1, .int 0), (0, .int x0)]) C dX11_longestRow_3 4 hnL (by decide) rfl ?_
    refine xg_iconst (pc := 4) (v := 0) C dX11_longestRow_4 (by decide) ?_
    refine xg_istore_n (pc := 5) (lv2 := [(3, .int 0), (2, .int 0), (1, .int 0), (0, .int x0)]) C dX11_longestRow_5 4 hnL (by decide) rfl ?_
    refine xg_sub (lv2 := [(0, .int x0), (1, .int 0), (2, .int 0), (3, .int 0)]) [3, 2, 1, 0] rfl ?_
    exact hF
def rm_X11_ofShelf : Room := { frames := 1, cells := 0, slots := 0, locals := 30 }
theorem nd_X11_ofShelf : yX11_ofShelf.cls = RX11 ∧ yX11_ofShelf.cls ≠ "java/lang/invoke/MethodHandle" ∧ yX11_ofShelf.cls ≠ "java/lang/invoke/VarHandle" ∧ (parseMethodDescriptor yX11_ofShelf.desc).map (fun d => d.parameters.length) = some 2 := by decide +kernel
theorem inm_X11_ofShelf_8 : ∀ w ∈ u_ws RX8 TX8 (xg_N 8), w ∈ wsX11_ofShelf := fun _ h9 => List.mem_cons_of_mem _ (List.mem_append_right _ h9)
set_option maxHeartbeats 4000000 in
set_option maxRecDepth 100000 in
theorem met_X11_ofShelf (Y : xg_Y) (x0 : Option Nat) (x1 : Int32) : xg_MI yX11_ofShelf wsX11_ofShelf rm_X11_ofShelf Y (fun zs => [va_rf x0, .int x1]) (fun Q h => wp_X11_ofShelf Y Q x0 x1 h) := by
  refine xg_startI (cc := cX11_ofShelf) (maxL := 8) (own := RX11) (by decide) rfl rfl (fun zs => by cases x0 <;> exact Nat.le_of_ble_eq_true rfl) (fun X Q h C hnL E hw => ?_)
  unfold wp_X11_ofShelf at hw
  refine xg_sub (lv2 := [(0, va_rf x0), (1, .int x1)]) [0, 1] (by cases x0 <;> rfl) ?_
  refine mg_use (hw (fun (y2 : Int32) (y3 : Int32) (y4 : Int32) (y5 : Int32) (y6 : Int32) (h : xg_H) => xg_W X 0 0 Y 13 [(0, va_rf x0), (1, .int x1), (2, .int y2), (3, .int y3), (4, .int y4), (5, .int y5), (6, .int y6)] [] h) (fun (y2 : Int32) (y3 : Int32) (y5 : Int32) (y6 : Int32) (y7 : Int32) (s0 : Int32) (s1 : Int32) (h : xg_H) => xg_W X 0 0 Y 75 [(0, va_rf x0), (1, .int x1), (2, .int y2), (3, .int y3), (5, .int y5), (6, .int y6), (7, .int y7)] [.int s0, .int s1] h) ?_ ?_) (fun hF => ?_)
  · intro y2 y3 y4 y5 y6 h hF
    refine xg_iload (pc := 13) C dX11_ofShelf_13 6 rfl ?_
    refine xg_aload_n (pc := 15) C dX11_ofShelf_15 0 rfl ?_
    obtain ⟨a1, ha1, hka1, hF⟩ := hF
    refine xg_geti (pc := 16) (C1 := RX8) (T1 := TX8) (ci := 8) (ref := "SandGlasses$Text") C inm_X11_ofShelf_8 rfl (by decide) 0 (by decide) rfl dX11_ofShelf_16 (List.mem_of_getElem? (i := 1) rfl) rfl ha1 hka1 ?_
    refine xg_icmp_ge (pc := 19) 93 C dX11_ofShelf_19 (by decide) (fun hc => ?_) (fun hc => ?_)
    · have hF := hF.1 hc
      refine xg_iload_n (pc := 93) C dX11_ofShelf_93 1 rfl ?_
      by_cases hs0 : x1 = 9
      · have hF := hF.1 hs0
        refine xg_tabIn (pc := 94) 124 C dX11_ofShelf_94 (by rw [hs0]; decide) (by rw [hs0]; decide) (off := 30) (by rw [hs0]; rfl) (by decide) ?_
        refine xg_iload_n (pc := 124) C dX11_ofShelf_124 2 rfl ?_
        exact xg_retI (pc := 125) C E dX11_ofShelf_125 hF
      have hF := hF.2
      by_cases hs1 : x1 = 10
      · have hF := hF.1 hs1
        refine xg_tabIn (pc := 94) 126 C dX11_ofShelf_94 (by rw [hs1]; decide) (by rw [hs1]; decide) (off := 32) (by rw [hs1]; rfl) (by decide) ?_
        refine xg_iload_n (pc := 126) C dX11_ofShelf_126 3 rfl ?_
        exact xg_retI (pc := 127) C E dX11_ofShelf_127 hF
      have hF := hF.2
      by_cases hs2 : x1 = 11
      · have hF := hF.1 hs2
        refine xg_tabIn (pc := 94) 128 C dX11_ofShelf_94 (by rw [hs2]; decide) (by rw [hs2]; decide) (off := 34) (by rw [hs2]; rfl) (by decide) ?_
        refine xg_iload (pc := 128) C dX11_ofShelf_128 4 rfl ?_
        exact xg_retI (pc := 130) C E dX11_ofShelf_130 hF
      have hF := hF.2
      by_cases hs3 : x1 = 12
      · have hF := hF.1 hs3
        refine xg_tabIn (pc := 94) 131 C dX11_ofShelf_94 (by rw [hs3]; decide) (by rw [hs3]; decide) (off := 37) (by rw [hs3]; rfl) (by decide) ?_
        refine xg_iload (pc := 131) C dX11_ofShelf_131 5 rfl ?_
        exact xg_retI (pc := 133) C E dX11_ofShelf_133 hF
      have hF := hF.2
      have hF := hF hs0 hs1 hs2 hs3
      refine xg_tabOut (pc := 94) 134 C dX11_ofShelf_94 (mg_swd x1 9 12 (fun v h1 h2 => ?_)) (by decide) ?_
      · rcases (show v = 9 ∨ v = 10 ∨ v = 11 ∨ v = 12 by omega) with rfl | rfl | rfl | rfl
        · exact hs0
        · exact hs1
        · exact hs2
        · exact hs3
      refine xg_aload_n (pc := 134) C dX11_ofShelf_134 0 rfl ?_
      refine xg_csI (pc := 135) C (fun zs => [va_rf x0]) (met_X11_alikeCouples Y x0) gX11_ofShelf_X11_alikeCouples rfl ⟨rfl, rfl⟩ nd_X11_alikeCouples.2 ⟨Nat.le_of_ble_eq_true rfl, Nat.le_of_ble_eq_true rfl⟩ rfl rfl (Nat.le_of_ble_eq_true rfl) ⟨Nat.zero_le _, Nat.zero_le _⟩ dX11_ofShelf_135 hF (fun r3 h2 hF => ?_)
      exact xg_retI (pc := 138) C E dX11_ofShelf_138 hF
    · have hF := hF.2 hc
      refine xg_aload_n (pc := 22) C dX11_ofShelf_22 0 rfl ?_
      refine xg_getr (pc := 23) (C1 := RX8) (T1 := TX8) (ci := 8) (ref := "SandGlasses$Text") C inm_X11_ofShelf_8 rfl (by decide) 2 (by decide) rfl dX11_ofShelf_23 (List.mem_of_getElem? (i := 2) rfl) rfl ha1 hka1 ?_
      refine xg_iload (pc := 26) C dX11_ofShelf_26 6 rfl ?_
      obtain ⟨a4, ha4, hka4, hF⟩ := hF
      obtain ⟨hi, hF⟩ := hF
      refine xg_iald (pc := 28) C ha4 hka4 hi dX11_ofShelf_28 ?_
      refine xg_topi (pc := 29) (fun z5 ez5 => ?_)
      have hF := hF z5 ez5
      refine xg_istore (pc := 29) (lv2 := [(7, .int z5), (0, va_rf x0), (1, .int x1), (2, .int y2), (3, .int y3), (4, .int y4), (5, .int y5), (6, .int y6)]) C dX11_ofShelf_29 8 hnL (by decide) rfl ?_
      refine xg_iload_n (pc := 31) C dX11_ofShelf_31 3 rfl ?_
      refine xg_i2l (pc := 32) C dX11_ofShelf_32 ?_
      refine xg_aload_n (pc := 33) C dX11_ofShelf_33 1 rfl ?_
      refine xg_getr (pc := 34) (C1 := RX8) (T1 := TX8) (ci := 8) (ref := "SandGlasses$Text") C inm_X11_ofShelf_8 rfl (by decide) 1 (by decide) rfl dX11_ofShelf_34 (List.mem_of_getElem? (i := 3) rfl) rfl ha1 hka1 ?_
      refine xg_iload (pc := 37) C dX11_ofShelf_37 7 rfl ?_
      obtain ⟨a6, ha6, hka6, hF⟩ := hF
      obtain ⟨hi, hF⟩ := hF
      refine xg_iald (pc := 39) C ha6 hka6 hi dX11_ofShelf_39 ?_
      refine xg_i2l (pc := 40) C dX11_ofShelf_40 ?_
      refine xg_csL (pc := 41) C (fun zs => [.long (y2.toInt64), .long ((xg_i h a6 y6.toNatClampNeg).toInt64)]) (met_X11_common Y (y2.toInt64) ((xg_i h a6 y6.toNatClampNeg).toInt64)) gX11_ofShelf_X11_common rfl ⟨rfl, rfl⟩ nd_X11_common.2 ⟨Nat.le_of_ble_eq_true rfl, Nat.le_of_ble_eq_true rfl⟩ rfl rfl (Nat.le_of_ble_eq_true rfl) ⟨Nat.zero_le _, Nat.zero_le _⟩ dX11_ofShelf_41 hF (fun r8 h7 hF => ?_)
      refine xg_l2i (pc := 44) C dX11_ofShelf_44 ?_
      refine xg_topi (pc := 45) (fun z9 ez9 => ?_)
      have hF := hF z9 ez9
      refine xg_istore_n (pc := 45) (lv2 := [(2, .int z9), (7, .int z5), (0, va_rf x0), (1, .int x1), (3, .int y3), (4, .int y4), (5, .int y5), (6, .int y6)]) C dX11_ofShelf_45 8 hnL (by decide) rfl ?_
      refine xg_iload_n (pc := 46) C dX11_ofShelf_46 4 rfl ?_
      refine xg_iload (pc := 47) C dX11_ofShelf_47 1 rfl ?_
      refine xg_iadd (pc := 49) C dX11_ofShelf_49 ?_
      refine xg_topi (pc := 50) (fun z10 ez10 => ?_)
      have hF := hF z10 ez10
      refine xg_istore_n (pc := 50) (lv2 := [(3, .int z10), (2, .int z9), (7, .int z5), (0, va_rf x0), (1, .int x1), (4, .int y4), (5, .int y5), (6, .int y6)]) C dX11_ofShelf_50 8 hnL (by decide) rfl ?_
      refine xg_iload (pc := 51) C dX11_ofShelf_51 5 rfl ?_
      refine xg_iload (pc := 53) C dX11_ofShelf_53 2 rfl ?_
      refine xg_iconst (pc := 55) (v := 2) C dX11_ofShelf_55 (by decide) ?_
      refine xg_imul (pc := 56) C dX11_ofShelf_56 ?_
      refine xg_aload_n (pc := 57) C dX11_ofShelf_57 3 rfl ?_
      refine xg_getr (pc := 58) (C1 := RX8) (T1 := TX8) (ci := 8) (ref := "SandGlasses$Text") C inm_X11_ofShelf_8 rfl (by decide) 1 (by decide) rfl dX11_ofShelf_58 (List.mem_of_getElem? (i := 3) rfl) rfl ha1 hka1 ?_
      refine xg_iload (pc := 61) C dX11_ofShelf_61 7 rfl ?_
      obtain ⟨a11, ha11, hka11, hF⟩ := hF
      obtain ⟨hi, hF⟩ := hF
      refine xg_iald (pc := 63) C ha11 hka11 hi dX11_ofShelf_63 ?_
      refine xg_icmp_ne (pc := 64) 74 C dX11_ofShelf_64 (by decide) (fun hc => ?_) (fun hc => ?_)
      · have hF := hF.1 hc
        refine xg_iconst (pc := 74) (v := 0) C dX11_ofShelf_74 (by decide) ?_
        refine xg_sub (lv2 := [(0, va_rf x0), (1, .int x1), (2, .int z9), (3, .int z10), (5, .int y5), (6, .int y6), (7, .int z5)]) [3, 4, 1, 0, 6, 7, 2] rfl ?_
        exact hF
      · have hF := hF.2 hc
        refine xg_iconst (pc := 67) (v := 1) C dX11_ofShelf_67 (by decide) ?_
        refine xg_iload (pc := 68) C dX11_ofShelf_68 7 rfl ?_
        refine xg_ishl (pc := 70) C dX11_ofShelf_70 ?_
        refine xg_goto (pc := 71) 75 C dX11_ofShelf_71 (by decide) ?_
        refine xg_sub (lv2 := [(0, va_rf x0), (1, .int x1), (2, .int z9), (3, .int z10), (5, .int y5), (6, .int y6), (7, .int z5)]) [3, 4, 1, 0, 6, 7, 2] rfl ?_
        exact hF
  · intro y2 y3 y5 y6 y7 s0 s1 h hF
    refine xg_ior (pc := 75) C dX11_ofShelf_75 ?_
    refine xg_topi (pc := 76) (fun z12 ez12 => ?_)
    have hF := hF z12 ez12
    refine xg_istore (pc := 76) (lv2 := [(4, .int z12), (0, va_rf x0), (1, .int x1), (2, .int y2), (3, .int y3), (5, .int y5), (6, .int y6), (7, .int y7)]) C dX11_ofShelf_76 8 hnL (by decide) rfl ?_
    refine xg_iload (pc := 78) C dX11_ofShelf_78 5 rfl ?_
    refine xg_iload (pc := 80) C dX11_ofShelf_80 7 rfl ?_
    refine xg_mmax (pc := 82) C (List.mem_of_getElem? (i := 4) rfl) (List.mem_of_getElem? (i := 5) rfl) (List.mem_of_getElem? (i := 6) rfl) (List.mem_of_getElem? (i := 7) rfl) (Nat.le_of_ble_eq_true rfl) (Nat.le_of_ble_eq_true rfl) (Nat.zero_le _) (Nat.zero_le _) dX11_ofShelf_82 ?_
    refine xg_topi (pc := 85) (fun z13 ez13 => ?_)
    have hF := hF z13 ez13
    refine xg_istore (pc := 85) (lv2 := [(5, .int z13), (4, .int z12), (0, va_rf x0), (1, .int x1), (2, .int y2), (3, .int y3), (6, .int y6), (7, .int y7)]) C dX11_ofShelf_85 8 hnL (by decide) rfl ?_
    obtain ⟨z14, ez14⟩ : ∃ y : Int32, y = y6 + 1 := ⟨_, rfl⟩
    have hF := hF z14 ez14
    refine xg_iinc (pc := 87) (v := z14) (lv2 := [(6, .int z14), (5, .int z13), (4, .int z12), (0, va_rf x0), (1, .int x1), (2, .int y2), (3, .int y3), (7, .int y7)]) C dX11_ofShelf_87 6 rfl (by rw [ez14]; rfl) 8 hnL (by decide) rfl ?_
    refine xg_goto (pc := 90) 13 C dX11_ofShelf_90 (by decide) ?_
    refine xg_sub (lv2 := [(0, va_rf x0), (1, .int x1), (2, .int y2), (3, .int y3), (4, .int z12), (5, .int z13), (6, .int z14)]) [3, 4, 5, 6, 2, 1, 0] rfl ?_
    exact hF
  · skip
    refine xg_iconst (pc := 0) (v := 0) C dX11_ofShelf_0 (by decide) ?_
    refine xg_istore_n (pc := 1) (lv2 := [(2, .int 0), (0, va_rf x0), (1, .int x1)]) C dX11_ofShelf_1 8 hnL (by decide) rfl ?_
    refine xg_iconst (pc := 2) (v := 0) C dX11_ofShelf_2 (by decide) ?_
    refine xg_istore_n (pc := 3) (lv2 := [(3, .int 0), (2, .int 0), (0, va_rf x0), (1, .int x1)]) C dX11_ofShelf_3 8 hnL (by decide) rfl ?_
    refine xg_iconst (pc := 4) (v := 0) C dX11_ofShelf_4 (by decide) ?_
    refine xg_istore (pc := 5) (lv2 := [(4, .int 0), (3, .int 0), (2, .int 0), (0, va_rf x0), (1, .int x1)]) C dX11_ofShelf_5 8 hnL (by decide) rfl ?_
    refine xg_iconst (pc := 7) (v := 0) C dX11_ofShelf_7 (by decide) ?_
    refine xg_istore (pc := 8) (lv2 := [(5, .int 0), (4, .int 0), (3, .int 0), (2, .int 0), (0, va_rf x0), (1, .int x1)]) C dX11_ofShelf_8 8 hnL (by decide) rfl ?_
    refine xg_iconst (pc := 10) (v := 0) C dX11_ofShelf_10 (by decide) ?_
    refine xg_istore (pc := 11) (lv2 := [(6, .int 0), (5, .int 0), (4, .int 0), (3, .int 0), (2, .int 0), (0, va_rf x0), (1, .int x1)]) C dX11_ofShelf_11 8 hnL (by decide) rfl ?_
    refine xg_sub (lv2 := [(0, va_rf x0), (1, .int x1), (2, .int 0), (3, .int 0), (4, .int 0), (5, .int 0), (6, .int 0)]) [5, 6, 4, 3, 2, 1, 0] rfl ?_
    exact hF
def rm_X1_told : Room := { frames := 0, cells := 0, slots := 0, locals := 0 }
theorem nd_X1_told : yX1_told.cls = RX1 ∧ yX1_told.cls ≠ "java/lang/invoke/MethodHandle" ∧ yX1_told.cls ≠ "java/lang/invoke/VarHandle" ∧ (parseMethodDescriptor yX1_told.desc).map (fun d => d.parameters.length) = some 0 := by decide +kernel
theorem inm_X1_told_1 : ∀ w ∈ u_ws RX1 TX1 (xg_N 1), w ∈ wsX1_told := fun _ h9 => List.mem_cons_of_mem _ (List.mem_append_right _ h9)
set_option maxHeartbeats 4000000 in
set_option maxRecDepth 100000 in
theorem met_X1_told (Y : xg_Y) (this : Nat) : xg_MI yX1_told wsX1_told rm_X1_told Y (fun zs => [va_rf (some this)]) (fun Q h => wp_X1_told Y Q this h) := by
  refine xg_startI (cc := cX1_told) (maxL := 1) (own := RX1) (by decide) rfl rfl (fun zs => Nat.le_of_ble_eq_true rfl) (fun X Q h C hnL E hw => ?_)
  unfold wp_X1_told at hw
  obtain ⟨hthis, hw⟩ := hw
  refine xg_sub (lv2 := [(0, va_rf (some this))]) [0] rfl ?_
  have hF := hw
  refine xg_aload_n (pc := 0) C dX1_told_0 0 rfl ?_
  refine xg_geti (pc := 1) (C1 := RX1) (T1 := TX1) (ci := 1) (ref := "SandGlasses$Book") C inm_X1_told_1 rfl (by decide) 16 (by decide) rfl dX1_told_1 (List.mem_of_getElem? (i := 1) rfl) rfl rfl hthis ?_
  exact xg_retI (pc := 4) C E dX1_told_4 hF
def rm_X1_rowsWithin : Room := { frames := 0, cells := 0, slots := 0, locals := 0 }
theorem nd_X1_rowsWithin : yX1_rowsWithin.cls = RX1 ∧ yX1_rowsWithin.cls ≠ "java/lang/invoke/MethodHandle" ∧ yX1_rowsWithin.cls ≠ "java/lang/invoke/VarHandle" ∧ (parseMethodDescriptor yX1_rowsWithin.desc).map (fun d => d.parameters.length) = some 1 := by decide +kernel
theorem inm_X1_rowsWithin_1 : ∀ w ∈ u_ws RX1 TX1 (xg_N 1), w ∈ wsX1_rowsWithin := fun _ h9 => List.mem_cons_of_mem _ (List.mem_append_left _ (List.mem_append_right _ h9))
theorem inm_X1_rowsWithin_10 : ∀ w ∈ u_ws RX10 TX10 (xg_N 10), w ∈ wsX1_rowsWithin := fun _ h9 => List.mem_cons_of_mem _ (List.mem_append_right _ h9)
set_option maxHeartbeats 4000000 in
set_option maxRecDepth 100000 in
theorem met_X1_rowsWithin (Y : xg_Y) (this : Nat) (x1 : Int32) : xg_MI yX1_rowsWithin wsX1_rowsWithin rm_X1_rowsWithin Y (fun zs => [va_rf (some this), .int x1]) (fun Q h => wp_X1_rowsWithin Y Q this x1 h) := by
  refine xg_startI (cc := cX1_rowsWithin) (maxL := 4) (own := RX1) (by decide) rfl rfl (fun zs => Nat.le_of_ble_eq_true rfl) (fun X Q h C hnL E hw => ?_)
  unfold wp_X1_rowsWithin at hw
  obtain ⟨hthis, hw⟩ := hw
  refine xg_sub (lv2 := [(0, va_rf (some this)), (1, .int x1)]) [0, 1] rfl ?_
  refine mg_use (hw (fun (y2 : Int32) (y3 : Int32) (h : xg_H) => xg_W X 0 0 Y 4 [(0, va_rf (some this)), (1, .int x1), (2, .int y2), (3, .int y3)] [] h) (fun (y2 : Int32) (y3 : Int32) (h : xg_H) => xg_W X 0 0 Y 32 [(0, va_rf (some this)), (1, .int x1), (2, .int y2), (3, .int y3)] [] h) ?_ ?_) (fun hF => ?_)
  · intro y2 y3 h hF
    refine xg_iload_n (pc := 4) C dX1_rowsWithin_4 3 rfl ?_
    refine xg_aload_n (pc := 5) C dX1_rowsWithin_5 0 rfl ?_
    refine xg_getr (pc := 6) (C1 := RX1) (T1 := TX1) (ci := 1) (ref := "SandGlasses$Book") C inm_X1_rowsWithin_1 rfl (by decide) 0 (by decide) rfl dX1_rowsWithin_6 (List.mem_of_getElem? (i := 1) rfl) rfl rfl hthis ?_
    obtain ⟨a1, ha1, hka1, hF⟩ := hF
    refine xg_geti (pc := 9) (C1 := RX10) (T1 := TX10) (ci := 10) (ref := "SandGlasses$Walk") C inm_X1_rowsWithin_10 rfl (by decide) 4 (by decide) rfl dX1_rowsWithin_9 (List.mem_of_getElem? (i := 2) rfl) rfl ha1 hka1 ?_
    refine xg_icmp_ge (pc := 12) 38 C dX1_rowsWithin_12 (by decide) (fun hc => ?_) (fun hc => ?_)
    · have hF := hF.1 hc
      refine xg_iload_n (pc := 38) C dX1_rowsWithin_38 2 rfl ?_
      exact xg_retI (pc := 39) C E dX1_rowsWithin_39 hF
    · have hF := hF.2 hc
      refine xg_aload_n (pc := 15) C dX1_rowsWithin_15 0 rfl ?_
      refine xg_getr (pc := 16) (C1 := RX1) (T1 := TX1) (ci := 1) (ref := "SandGlasses$Book") C inm_X1_rowsWithin_1 rfl (by decide) 0 (by decide) rfl dX1_rowsWithin_16 (List.mem_of_getElem? (i := 1) rfl) rfl rfl hthis ?_
      refine xg_getr (pc := 19) (C1 := RX10) (T1 := TX10) (ci := 10) (ref := "SandGlasses$Walk") C inm_X1_rowsWithin_10 rfl (by decide) 1 (by decide) rfl dX1_rowsWithin_19 (List.mem_of_getElem? (i := 3) rfl) rfl ha1 hka1 ?_
      refine xg_iload_n (pc := 22) C dX1_rowsWithin_22 3 rfl ?_
      obtain ⟨a2, ha2, hka2, hF⟩ := hF
      obtain ⟨hi, hF⟩ := hF
      refine xg_iald (pc := 23) C ha2 hka2 hi dX1_rowsWithin_23 ?_
      refine xg_iload_n (pc := 24) C dX1_rowsWithin_24 1 rfl ?_
      refine xg_iand (pc := 25) C dX1_rowsWithin_25 ?_
      refine xg_if_eq (pc := 26) 32 C dX1_rowsWithin_26 (by decide) (fun hc => ?_) (fun hc => ?_)
      · have hF := hF.1 hc
        exact hF
      · have hF := hF.2 hc
        obtain ⟨z3, ez3⟩ : ∃ y : Int32, y = y2 + 1 := ⟨_, rfl⟩
        have hF := hF z3 ez3
        refine xg_iinc (pc := 29) (v := z3) (lv2 := [(2, .int z3), (0, va_rf (some this)), (1, .int x1), (3, .int y3)]) C dX1_rowsWithin_29 2 rfl (by rw [ez3]; rfl) 4 hnL (by decide) rfl ?_
        refine xg_sub (lv2 := [(0, va_rf (some this)), (1, .int x1), (2, .int z3), (3, .int y3)]) [1, 2, 0, 3] rfl ?_
        exact hF
  · intro y2 y3 h hF
    obtain ⟨z4, ez4⟩ : ∃ y : Int32, y = y3 + 1 := ⟨_, rfl⟩
    have hF := hF z4 ez4
    refine xg_iinc (pc := 32) (v := z4) (lv2 := [(3, .int z4), (0, va_rf (some this)), (1, .int x1), (2, .int y2)]) C dX1_rowsWithin_32 3 rfl (by rw [ez4]; rfl) 4 hnL (by decide) rfl ?_
    refine xg_goto (pc := 35) 4 C dX1_rowsWithin_35 (by decide) ?_
    refine xg_sub (lv2 := [(0, va_rf (some this)), (1, .int x1), (2, .int y2), (3, .int z4)]) [1, 2, 3, 0] rfl ?_
    exact hF
  · skip
    refine xg_iconst (pc := 0) (v := 0) C dX1_rowsWithin_0 (by decide) ?_
    refine xg_istore_n (pc := 1) (lv2 := [(2, .int 0), (0, va_rf (some this)), (1, .int x1)]) C dX1_rowsWithin_1 4 hnL (by decide) rfl ?_
    refine xg_iconst (pc := 2) (v := 0) C dX1_rowsWithin_2 (by decide) ?_
    refine xg_istore_n (pc := 3) (lv2 := [(3, .int 0), (2, .int 0), (0, va_rf (some this)), (1, .int x1)]) C dX1_rowsWithin_3 4 hnL (by decide) rfl ?_
    refine xg_sub (lv2 := [(0, va_rf (some this)), (1, .int x1), (2, .int 0), (3, .int 0)]) [2, 3, 1, 0] rfl ?_
    exact hF
def rm_X3_by : Room := { frames := 0, cells := 0, slots := 0, locals := 0 }
theorem nd_X3_by : yX3_by.cls = RX3 ∧ yX3_by.cls ≠ "java/lang/invoke/MethodHandle" ∧ yX3_by.cls ≠ "java/lang/invoke/VarHandle" ∧ (parseMethodDescriptor yX3_by.desc).map (fun d => d.parameters.length) = some 3 := by decide +kernel
theorem inm_X3_by_3 : ∀ w ∈ u_ws RX3 TX3 (xg_N 3), w ∈ wsX3_by := fun _ h9 => List.mem_cons_of_mem _ (List.mem_append_left _ (List.mem_append_right _ h9))
theorem inm_X3_by_10 : ∀ w ∈ u_ws RX10 TX10 (xg_N 10), w ∈ wsX3_by := fun _ h9 => List.mem_cons_of_mem _ (List.mem_append_right _ h9)
set_option maxHeartbeats 4000000 in
set_option maxRecDepth 100000 in
theorem met_X3_by (Y : xg_Y) (this : Nat) (x1 : Int32) (x2 : Int32) (x3 : Int32) : xg_MI yX3_by wsX3_by rm_X3_by Y (fun zs => [va_rf (some this), .int x1, .int x2, .int x3]) (fun Q h => wp_X3_by Y Q this x1 x2 x3 h) := by
  refine xg_startI (cc := cX3_by) (maxL := 7) (own := RX3) (by decide) rfl rfl (fun zs => Nat.le_of_ble_eq_true rfl) (fun X Q h C hnL E hw => ?_)
  unfold wp_X3_by at hw
  obtain ⟨hthis, hw⟩ := hw
  refine xg_sub (lv2 := [(0, va_rf (some this)), (1, .int x1), (2, .int x2), (3, .int x3)]) [0, 1, 2, 3] rfl ?_
  refine mg_use (hw (fun (h : xg_H) => xg_W X 0 0 Y 55 [] [] h) (fun (s0 : Int32) (s1 : Int32) (h : xg_H) => xg_W X 0 0 Y 94 [] [.int s0, .int s1] h) ?_ ?_) (fun hF => ?_)
  · intro h hF
    refine xg_ldc (pc := 55) (v := 1000000) C dX3_by_55 (List.mem_of_getElem? (i := 4) rfl) ?_
    exact xg_retI (pc := 57) C E dX3_by_57 hF
  · intro s0 s1 h hF
    refine xg_iadd (pc := 94) C dX3_by_94 ?_
    exact xg_retI (pc := 95) C E dX3_by_95 hF
  · skip
    refine xg_aload_n (pc := 0) C dX3_by_0 0 rfl ?_
    refine xg_getr (pc := 1) (C1 := RX3) (T1 := TX3) (ci := 3) (ref := "SandGlasses$Costs") C inm_X3_by_3 rfl (by decide) 2 (by decide) rfl dX3_by_1 (List.mem_of_getElem? (i := 1) rfl) rfl rfl hthis ?_
    obtain ⟨a1, ha1, hka1, hF⟩ := hF
    refine xg_getr (pc := 4) (C1 := RX10) (T1 := TX10) (ci := 10) (ref := "SandGlasses$Walk") C inm_X3_by_10 rfl (by decide) 3 (by decide) rfl dX3_by_4 (List.mem_of_getElem? (i := 2) rfl) rfl ha1 hka1 ?_
    refine xg_iload_n (pc := 7) C dX3_by_7 1 rfl ?_
    refine xg_bipush (pc := 8) (v := 16) C dX3_by_8 (by decide) ?_
    refine xg_imul (pc := 10) C dX3_by_10 ?_
    refine xg_iload_n (pc := 11) C dX3_by_11 2 rfl ?_
    refine xg_iadd (pc := 12) C dX3_by_12 ?_
    obtain ⟨a2, ha2, hka2, hF⟩ := hF
    obtain ⟨hi, hF⟩ := hF
    refine xg_iald (pc := 13) C ha2 hka2 hi dX3_by_13 ?_
    refine xg_topi (pc := 14) (fun z3 ez3 => ?_)
    have hF := hF z3 ez3
    refine xg_istore (pc := 14) (lv2 := [(4, .int z3), (0, va_rf (some this)), (1, .int x1), (2, .int x2), (3, .int x3)]) C dX3_by_14 7 hnL (by decide) rfl ?_
    refine xg_iload_n (pc := 16) C dX3_by_16 4 rfl ?_
    refine xg_iload (pc := 17) C dX3_by_17 0 rfl ?_
    refine xg_bipush (pc := 19) (v := 12) C dX3_by_19 (by decide) ?_
    refine xg_ishr (pc := 21) C dX3_by_21 ?_
    refine xg_isub (pc := 22) C dX3_by_22 ?_
    refine xg_topi (pc := 23) (fun z4 ez4 => ?_)
    have hF := hF z4 ez4
    refine xg_istore (pc := 23) (lv2 := [(5, .int z4), (4, .int z3), (0, va_rf (some this)), (1, .int x1), (2, .int x2), (3, .int x3)]) C dX3_by_23 7 hnL (by decide) rfl ?_
    refine xg_iload (pc := 25) C dX3_by_25 1 rfl ?_
    refine xg_sipush (pc := 27) (v := 4095) C dX3_by_27 (by decide) ?_
    refine xg_iand (pc := 30) C dX3_by_30 ?_
    refine xg_topi (pc := 31) (fun z5 ez5 => ?_)
    have hF := hF z5 ez5
    refine xg_istore (pc := 31) (lv2 := [(6, .int z5), (5, .int z4), (4, .int z3), (0, va_rf (some this)), (1, .int x1), (2, .int x2), (3, .int x3)]) C dX3_by_31 7 hnL (by decide) rfl ?_
    refine xg_iload (pc := 33) C dX3_by_33 2 rfl ?_
    refine xg_if_eq (pc := 35) 55 C dX3_by_35 (by decide) (fun hc => ?_) (fun hc => ?_)
    · have hF := hF.1 hc
      refine xg_sub (lv2 := []) [] rfl ?_
      exact hF
    · have hF := hF.2 hc
      refine xg_iload (pc := 38) C dX3_by_38 1 rfl ?_
      refine xg_if_lt (pc := 40) 55 C dX3_by_40 (by decide) (fun hc => ?_) (fun hc => ?_)
      · have hF := hF.1 hc
        refine xg_sub (lv2 := []) [] rfl ?_
        exact hF
      · have hF := hF.2 hc
        refine xg_iload (pc := 43) C dX3_by_43 0 rfl ?_
        refine xg_aload_n (pc := 45) C dX3_by_45 3 rfl ?_
        refine xg_getr (pc := 46) (C1 := RX3) (T1 := TX3) (ci := 3) (ref := "SandGlasses$Costs") C inm_X3_by_3 rfl (by decide) 2 (by decide) rfl dX3_by_46 (List.mem_of_getElem? (i := 1) rfl) rfl rfl hthis ?_
        refine xg_geti (pc := 49) (C1 := RX10) (T1 := TX10) (ci := 10) (ref := "SandGlasses$Walk") C inm_X3_by_10 rfl (by decide) 4 (by decide) rfl dX3_by_49 (List.mem_of_getElem? (i := 3) rfl) rfl ha1 hka1 ?_
        refine xg_icmp_lt (pc := 52) 58 C dX3_by_52 (by decide) (fun hc => ?_) (fun hc => ?_)
        · have hF := hF.1 hc
          refine xg_aload_n (pc := 58) C dX3_by_58 3 rfl ?_
          refine xg_getr (pc := 59) (C1 := RX3) (T1 := TX3) (ci := 3) (ref := "SandGlasses$Costs") C inm_X3_by_3 rfl (by decide) 0 (by decide) rfl dX3_by_59 (List.mem_of_getElem? (i := 5) rfl) rfl rfl hthis ?_
          refine xg_iload_n (pc := 62) C dX3_by_62 5 rfl ?_
          obtain ⟨a6, ha6, hka6, hF⟩ := hF
          obtain ⟨hi, hF⟩ := hF
          refine xg_iald (pc := 63) C ha6 hka6 hi dX3_by_63 ?_
          refine xg_iload (pc := 64) C dX3_by_64 1 rfl ?_
          refine xg_if_ne (pc := 66) 79 C dX3_by_66 (by decide) (fun hc => ?_) (fun hc => ?_)
          · have hF := hF.1 hc
            refine xg_aload_n (pc := 79) C dX3_by_79 3 rfl ?_
            refine xg_getr (pc := 80) (C1 := RX3) (T1 := TX3) (ci := 3) (ref := "SandGlasses$Costs") C inm_X3_by_3 rfl (by decide) 4 (by decide) rfl dX3_by_80 (List.mem_of_getElem? (i := 7) rfl) rfl rfl hthis ?_
            refine xg_iload (pc := 83) C dX3_by_83 1 rfl ?_
            refine xg_aload_n (pc := 85) C dX3_by_85 3 rfl ?_
            refine xg_geti (pc := 86) (C1 := RX3) (T1 := TX3) (ci := 3) (ref := "SandGlasses$Costs") C inm_X3_by_3 rfl (by decide) 3 (by decide) rfl dX3_by_86 (List.mem_of_getElem? (i := 8) rfl) rfl rfl hthis ?_
            refine xg_imul (pc := 89) C dX3_by_89 ?_
            refine xg_iload (pc := 90) C dX3_by_90 0 rfl ?_
            refine xg_iadd (pc := 92) C dX3_by_92 ?_
            obtain ⟨a7, ha7, hka7, hF⟩ := hF
            obtain ⟨hi, hF⟩ := hF
            refine xg_iald (pc := 93) C ha7 hka7 hi dX3_by_93 ?_
            refine xg_sub (lv2 := []) [] rfl ?_
            exact hF
          · have hF := hF.2 hc
            refine xg_aload_n (pc := 69) C dX3_by_69 3 rfl ?_
            refine xg_getr (pc := 70) (C1 := RX3) (T1 := TX3) (ci := 3) (ref := "SandGlasses$Costs") C inm_X3_by_3 rfl (by decide) 1 (by decide) rfl dX3_by_70 (List.mem_of_getElem? (i := 6) rfl) rfl rfl hthis ?_
            refine xg_iload (pc := 73) C dX3_by_73 0 rfl ?_
            obtain ⟨a8, ha8, hka8, hF⟩ := hF
            obtain ⟨hi, hF⟩ := hF
            refine xg_iald (pc := 75) C ha8 hka8 hi dX3_by_75 ?_
            refine xg_goto (pc := 76) 94 C dX3_by_76 (by decide) ?_
            refine xg_sub (lv2 := []) [] rfl ?_
            exact hF
        · have hF := hF.2 hc
          refine xg_sub (lv2 := []) [] rfl ?_
          exact hF
def rm_X3_workOut : Room := { frames := 1, cells := 0, slots := 0, locals := 26 }
theorem nd_X3_workOut : yX3_workOut.cls = RX3 ∧ yX3_workOut.cls ≠ "java/lang/invoke/MethodHandle" ∧ yX3_workOut.cls ≠ "java/lang/invoke/VarHandle" ∧ (parseMethodDescriptor yX3_workOut.desc).map (fun d => d.parameters.length) = some 1 := by decide +kernel
theorem inm_X3_workOut_3 : ∀ w ∈ u_ws RX3 TX3 (xg_N 3), w ∈ wsX3_workOut := fun _ h9 => List.mem_cons_of_mem _ (List.mem_append_left _ (List.mem_append_right _ h9))
theorem inm_X3_workOut_10 : ∀ w ∈ u_ws RX10 TX10 (xg_N 10), w ∈ wsX3_workOut := fun _ h9 => List.mem_cons_of_mem _ (List.mem_append_right _ h9)
set_option maxHeartbeats 4000000 in
set_option maxRecDepth 100000 in
theorem met_X3_workOut (Y : xg_Y) (this : Nat) (x1 : Int32) : xg_MV yX3_workOut wsX3_workOut rm_X3_workOut Y (fun zs => [va_rf (some this), .int x1]) (fun Q h => wp_X3_workOut Y Q this x1 h) := by
  refine xg_startV (cc := cX3_workOut) (maxL := 6) (own := RX3) (by decide) rfl rfl (fun zs => Nat.le_of_ble_eq_true rfl) (fun X Q h C hnL E hw => ?_)
  unfold wp_X3_workOut at hw
  obtain ⟨hthis, hw⟩ := hw
  refine xg_sub (lv2 := [(0, va_rf (some this)), (1, .int x1)]) [0, 1] rfl ?_
  refine mg_use (hw (fun (y2 : Int32) (h : xg_H) => xg_W X 0 0 Y 2 [(0, va_rf (some this)), (1, .int x1), (2, .int y2)] [] h) (fun (y2 : Int32) (y3 : Int32) (h : xg_H) => xg_W X 0 0 Y 15 [(0, va_rf (some this)), (1, .int x1), (2, .int y2), (3, .int y3)] [] h) (fun (y2 : Int32) (y3 : Int32) (y4 : Int32) (y5 : Int32) (h : xg_H) => xg_W X 0 0 Y 33 [(0, va_rf (some this)), (1, .int x1), (2, .int y2), (3, .int y3), (4, .int y4), (5, .int y5)] [] h) ?_ ?_ ?_) (fun hF => ?_)
  · intro y2 h hF
    refine xg_iload_n (pc := 2) C dX3_workOut_2 2 rfl ?_
    refine xg_iload_n (pc := 3) C dX3_workOut_3 1 rfl ?_
    refine xg_icmp_gt (pc := 4) 93 C dX3_workOut_4 (by decide) (fun hc => ?_) (fun hc => ?_)
    · have hF := hF.1 hc
      exact xg_retV (pc := 93) C E dX3_workOut_93 hF
    · have hF := hF.2 hc
      refine xg_iload_n (pc := 7) C dX3_workOut_7 2 rfl ?_
      refine xg_bipush (pc := 8) (v := 30) C dX3_workOut_8 (by decide) ?_
      refine xg_icmp_gt (pc := 10) 93 C dX3_workOut_10 (by decide) (fun hc => ?_) (fun hc => ?_)
      · have hF := hF.1 hc
        exact xg_retV (pc := 93) C E dX3_workOut_93 hF
      · have hF := hF.2 hc
        refine xg_iconst (pc := 13) (v := 0) C dX3_workOut_13 (by decide) ?_
        refine xg_istore_n (pc := 14) (lv2 := [(3, .int 0), (0, va_rf (some this)), (1, .int x1), (2, .int y2)]) C dX3_workOut_14 6 hnL (by decide) rfl ?_
        refine xg_sub (lv2 := [(0, va_rf (some this)), (1, .int x1), (2, .int y2), (3, .int 0)]) [1, 2, 3, 0] rfl ?_
        exact hF
  · intro y2 y3 h hF
    refine xg_iload_n (pc := 15) C dX3_workOut_15 3 rfl ?_
    refine xg_aload_n (pc := 16) C dX3_workOut_16 0 rfl ?_
    refine xg_getr (pc := 17) (C1 := RX3) (T1 := TX3) (ci := 3) (ref := "SandGlasses$Costs") C inm_X3_workOut_3 rfl (by decide) 2 (by decide) rfl dX3_workOut_17 (List.mem_of_getElem? (i := 1) rfl) rfl rfl hthis ?_
    obtain ⟨a1, ha1, hka1, hF⟩ := hF
    refine xg_geti (pc := 20) (C1 := RX10) (T1 := TX10) (ci := 10) (ref := "SandGlasses$Walk") C inm_X3_workOut_10 rfl (by decide) 4 (by decide) rfl dX3_workOut_20 (List.mem_of_getElem? (i := 2) rfl) rfl ha1 hka1 ?_
    refine xg_icmp_ge (pc := 23) 87 C dX3_workOut_23 (by decide) (fun hc => ?_) (fun hc => ?_)
    · have hF := hF.1 hc
      obtain ⟨z2, ez2⟩ : ∃ y : Int32, y = y2 + 1 := ⟨_, rfl⟩
      have hF := hF z2 ez2
      refine xg_iinc (pc := 87) (v := z2) (lv2 := [(2, .int z2), (0, va_rf (some this)), (1, .int x1), (3, .int y3)]) C dX3_workOut_87 2 rfl (by rw [ez2]; rfl) 6 hnL (by decide) rfl ?_
      refine xg_goto (pc := 90) 2 C dX3_workOut_90 (by decide) ?_
      refine xg_sub (lv2 := [(0, va_rf (some this)), (1, .int x1), (2, .int z2)]) [1, 2, 0] rfl ?_
      exact hF
    · have hF := hF.2 hc
      refine xg_ldc (pc := 26) (v := 1000000) C dX3_workOut_26 (List.mem_of_getElem? (i := 3) rfl) ?_
      refine xg_istore (pc := 28) (lv2 := [(4, .int 1000000), (0, va_rf (some this)), (1, .int x1), (2, .int y2), (3, .int y3)]) C dX3_workOut_28 6 hnL (by decide) rfl ?_
      refine xg_iconst (pc := 30) (v := 0) C dX3_workOut_30 (by decide) ?_
      refine xg_istore (pc := 31) (lv2 := [(5, .int 0), (4, .int 1000000), (0, va_rf (some this)), (1, .int x1), (2, .int y2), (3, .int y3)]) C dX3_workOut_31 6 hnL (by decide) rfl ?_
      refine xg_sub (lv2 := [(0, va_rf (some this)), (1, .int x1), (2, .int y2), (3, .int y3), (4, .int 1000000), (5, .int 0)]) [2, 3, 4, 5, 1, 0] rfl ?_
      exact hF
  · intro y2 y3 y4 y5 h hF
    refine xg_iload (pc := 33) C dX3_workOut_33 5 rfl ?_
    refine xg_aload_n (pc := 35) C dX3_workOut_35 0 rfl ?_
    refine xg_getr (pc := 36) (C1 := RX3) (T1 := TX3) (ci := 3) (ref := "SandGlasses$Costs") C inm_X3_workOut_3 rfl (by decide) 2 (by decide) rfl dX3_workOut_36 (List.mem_of_getElem? (i := 1) rfl) rfl rfl hthis ?_
    obtain ⟨a3, ha3, hka3, hF⟩ := hF
    refine xg_geti (pc := 39) (C1 := RX10) (T1 := TX10) (ci := 10) (ref := "SandGlasses$Walk") C inm_X3_workOut_10 rfl (by decide) 5 (by decide) rfl dX3_workOut_39 (List.mem_of_getElem? (i := 4) rfl) rfl ha3 hka3 ?_
    refine xg_icmp_ge (pc := 42) 66 C dX3_workOut_42 (by decide) (fun hc => ?_) (fun hc => ?_)
    · have hF := hF.1 hc
      refine xg_aload_n (pc := 66) C dX3_workOut_66 0 rfl ?_
      refine xg_getr (pc := 67) (C1 := RX3) (T1 := TX3) (ci := 3) (ref := "SandGlasses$Costs") C inm_X3_workOut_3 rfl (by decide) 4 (by decide) rfl dX3_workOut_67 (List.mem_of_getElem? (i := 9) rfl) rfl rfl hthis ?_
      refine xg_iload_n (pc := 70) C dX3_workOut_70 2 rfl ?_
      refine xg_aload_n (pc := 71) C dX3_workOut_71 0 rfl ?_
      refine xg_geti (pc := 72) (C1 := RX3) (T1 := TX3) (ci := 3) (ref := "SandGlasses$Costs") C inm_X3_workOut_3 rfl (by decide) 3 (by decide) rfl dX3_workOut_72 (List.mem_of_getElem? (i := 10) rfl) rfl rfl hthis ?_
      refine xg_imul (pc := 75) C dX3_workOut_75 ?_
      refine xg_iload_n (pc := 76) C dX3_workOut_76 3 rfl ?_
      refine xg_iadd (pc := 77) C dX3_workOut_77 ?_
      refine xg_iload (pc := 78) C dX3_workOut_78 4 rfl ?_
      obtain ⟨a4, ha4, hka4, hF⟩ := hF
      obtain ⟨hi, hF⟩ := hF
      refine xg_iast (pc := 80) C ha4 hka4 hi dX3_workOut_80 (fun h5 eh5 => ?_)
      have hF := hF h5 eh5
      obtain ⟨z6, ez6⟩ : ∃ y : Int32, y = y3 + 1 := ⟨_, rfl⟩
      have hF := hF z6 ez6
      refine xg_iinc (pc := 81) (v := z6) (lv2 := [(3, .int z6), (0, va_rf (some this)), (1, .int x1), (2, .int y2), (4, .int y4), (5, .int y5)]) C dX3_workOut_81 3 rfl (by rw [ez6]; rfl) 6 hnL (by decide) rfl ?_
      refine xg_goto (pc := 84) 15 C dX3_workOut_84 (by decide) ?_
      refine xg_sub (lv2 := [(0, va_rf (some this)), (1, .int x1), (2, .int y2), (3, .int z6)]) [1, 2, 3, 0] rfl ?_
      exact hF
    · have hF := hF.2 hc
      refine xg_iload (pc := 45) C dX3_workOut_45 4 rfl ?_
      refine xg_aload_n (pc := 47) C dX3_workOut_47 0 rfl ?_
      refine xg_iload_n (pc := 48) C dX3_workOut_48 3 rfl ?_
      refine xg_iload (pc := 49) C dX3_workOut_49 5 rfl ?_
      refine xg_iload_n (pc := 51) C dX3_workOut_51 2 rfl ?_
      refine xg_cvI (pc := 52) (C1 := RX3) (T1 := TX3) (ci := 3) C (fun zs => [.int y3, .int y5, .int y2]) rfl hthis (by decide) rfl (met_X3_by Y this y3 y5 y2) gX3_workOut_X3_by rfl ⟨rfl, rfl⟩ nd_X3_by ⟨Nat.le_of_ble_eq_true rfl, Nat.le_of_ble_eq_true rfl⟩ rfl rfl (Nat.le_of_ble_eq_true rfl) ⟨Nat.zero_le _, Nat.zero_le _⟩ dX3_workOut_52 hF (fun r8 h7 hF => ?_)
      refine xg_mmin (pc := 55) C (List.mem_of_getElem? (i := 5) rfl) (List.mem_of_getElem? (i := 6) rfl) (List.mem_of_getElem? (i := 7) rfl) (List.mem_of_getElem? (i := 8) rfl) (Nat.le_of_ble_eq_true rfl) (Nat.le_of_ble_eq_true rfl) (Nat.zero_le _) (Nat.zero_le _) dX3_workOut_55 ?_
      refine xg_topi (pc := 58) (fun z9 ez9 => ?_)
      have hF := hF z9 ez9
      refine xg_istore (pc := 58) (lv2 := [(4, .int z9), (0, va_rf (some this)), (1, .int x1), (2, .int y2), (3, .int y3), (5, .int y5)]) C dX3_workOut_58 6 hnL (by decide) rfl ?_
      obtain ⟨z10, ez10⟩ : ∃ y : Int32, y = y5 + 1 := ⟨_, rfl⟩
      have hF := hF z10 ez10
      refine xg_iinc (pc := 60) (v := z10) (lv2 := [(5, .int z10), (4, .int z9), (0, va_rf (some this)), (1, .int x1), (2, .int y2), (3, .int y3)]) C dX3_workOut_60 5 rfl (by rw [ez10]; rfl) 6 hnL (by decide) rfl ?_
      refine xg_goto (pc := 63) 33 C dX3_workOut_63 (by decide) ?_
      refine xg_sub (lv2 := [(0, va_rf (some this)), (1, .int x1), (2, .int y2), (3, .int y3), (4, .int z9), (5, .int z10)]) [2, 3, 4, 5, 1, 0] rfl ?_
      exact hF
  · skip
    refine xg_iconst (pc := 0) (v := 1) C dX3_workOut_0 (by decide) ?_
    refine xg_istore_n (pc := 1) (lv2 := [(2, .int 1), (0, va_rf (some this)), (1, .int x1)]) C dX3_workOut_1 6 hnL (by decide) rfl ?_
    refine xg_sub (lv2 := [(0, va_rf (some this)), (1, .int x1), (2, .int 1)]) [1, 2, 0] rfl ?_
    exact hF
