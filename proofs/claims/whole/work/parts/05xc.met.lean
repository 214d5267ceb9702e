def rm_X11_common : Room := { frames := 0, cells := 0, slots := 0, locals := 0 }
theorem nd_X11_common : yX11_common.cls = RX11 ∧ yX11_common.cls ≠ "java/lang/invoke/MethodHandle" ∧ yX11_common.cls ≠ "java/lang/invoke/VarHandle" ∧ (parseMethodDescriptor yX11_common.desc).map (fun d => d.parameters.length) = some 2 := by decide +kernel
set_option maxHeartbeats 4000000 in
set_option maxRecDepth 100000 in
theorem met_X11_common (Y : xg_Y) (x0 : Int64) (x2 : Int64) : xg_ML yX11_common wsX11_common rm_X11_common Y (fun zs => [.long x0, .long x2]) (fun Q h => wp_X11_common Y Q x0 x2 h) := by
  refine xg_startL (cc := cX11_common) (maxL := 11) (own := RX11) (by decide) rfl rfl (fun zs => Nat.le_of_ble_eq_true rfl) (fun X Q h C hnL E hw => ?_)
  unfold wp_X11_common at hw
  refine xg_sub (lv2 := [(0, .long x0), (2, .long x2)]) [0, 1] rfl ?_
  refine mg_use (hw (fun (y4 : Int64) (y6 : Int64) (y8 : Int32) (h : xg_H) => xg_W X 0 0 Y 9 [(4, .long y4), (6, .long y6), (8, .int y8)] [] h) (fun (y4 : Int64) (h : xg_H) => xg_W X 0 0 Y 45 [(4, .long y4)] [] h) ?_ ?_) (fun hF => ?_)
  · intro y4 y6 y8 h hF
    refine xg_iload (pc := 9) C dX11_common_9 2 rfl ?_
    refine xg_sipush (pc := 11) (v := 200) C dX11_common_11 (by decide) ?_
    refine xg_icmp_ge (pc := 14) 45 C dX11_common_14 (by decide) (fun hc => ?_) (fun hc => ?_)
    · have hF := hF.1 hc
      refine xg_sub (lv2 := [(4, .long y4)]) [0] rfl ?_
      exact hF
    · have hF := hF.2 hc
      refine xg_lload (pc := 17) C dX11_common_17 1 rfl ?_
      refine xg_lconst (pc := 19) (v := 0) C dX11_common_19 (by decide) ?_
      refine xg_lcmp (pc := 20) C dX11_common_20 ?_
      refine xg_if_eq (pc := 21) 45 C dX11_common_21 (by decide) (fun hc => ?_) (fun hc => ?_)
      · have hF := hF.1 hc
        refine xg_sub (lv2 := [(4, .long y4)]) [0] rfl ?_
        exact hF
      · have hF := hF.2 hc
        refine xg_lload (pc := 24) C dX11_common_24 0 rfl ?_
        refine xg_lload (pc := 26) C dX11_common_26 1 rfl ?_
        obtain ⟨hne, hF⟩ := hF
        refine xg_lrem (pc := 28) C dX11_common_28 hne ?_
        refine xg_topl (pc := 29) (fun z1 ez1 => ?_)
        have hF := hF z1 ez1
        refine xg_lstore (pc := 29) (lv2 := [(9, .long z1), (4, .long y4), (6, .long y6), (8, .int y8)]) C dX11_common_29 11 hnL (by decide) rfl ?_
        refine xg_lload (pc := 31) C dX11_common_31 2 rfl ?_
        refine xg_lstore (pc := 33) (lv2 := [(4, .long y6), (9, .long z1), (6, .long y6), (8, .int y8)]) C dX11_common_33 11 hnL (by decide) rfl ?_
        refine xg_lload (pc := 35) C dX11_common_35 1 rfl ?_
        refine xg_lstore (pc := 37) (lv2 := [(6, .long z1), (4, .long y6), (9, .long z1), (8, .int y8)]) C dX11_common_37 11 hnL (by decide) rfl ?_
        obtain ⟨z2, ez2⟩ : ∃ y : Int32, y = y8 + 1 := ⟨_, rfl⟩
        have hF := hF z2 ez2
        refine xg_iinc (pc := 39) (v := z2) (lv2 := [(8, .int z2), (6, .long z1), (4, .long y6), (9, .long z1)]) C dX11_common_39 3 rfl (by rw [ez2]; rfl) 11 hnL (by decide) rfl ?_
        refine xg_goto (pc := 42) 9 C dX11_common_42 (by decide) ?_
        refine xg_sub (lv2 := [(4, .long y6), (6, .long z1), (8, .int z2)]) [2, 1, 0] rfl ?_
        exact hF
  · intro y4 h hF
    refine xg_lload (pc := 45) C dX11_common_45 0 rfl ?_
    exact xg_retL (pc := 47) C E dX11_common_47 hF
  · skip
    refine xg_lload_n (pc := 0) C dX11_common_0 0 rfl ?_
    refine xg_lstore (pc := 1) (lv2 := [(4, .long x0), (0, .long x0), (2, .long x2)]) C dX11_common_1 11 hnL (by decide) rfl ?_
    refine xg_lload_n (pc := 3) C dX11_common_3 2 rfl ?_
    refine xg_lstore (pc := 4) (lv2 := [(6, .long x2), (4, .long x0), (0, .long x0), (2, .long x2)]) C dX11_common_4 11 hnL (by decide) rfl ?_
    refine xg_iconst (pc := 6) (v := 0) C dX11_common_6 (by decide) ?_
    refine xg_istore (pc := 7) (lv2 := [(8, .int 0), (6, .long x2), (4, .long x0), (0, .long x0), (2, .long x2)]) C dX11_common_7 11 hnL (by decide) rfl ?_
    refine xg_sub (lv2 := [(4, .long x0), (6, .long x2), (8, .int 0)]) [2, 1, 0] rfl ?_
    exact hF
def rm_X11_chance : Room := { frames := 4, cells := 0, slots := 0, locals := 95 }
theorem nd_X11_chance : yX11_chance.cls = RX11 ∧ yX11_chance.cls ≠ "java/lang/invoke/MethodHandle" ∧ yX11_chance.cls ≠ "java/lang/invoke/VarHandle" ∧ (parseMethodDescriptor yX11_chance.desc).map (fun d => d.parameters.length) = some 4 := by decide +kernel
theorem inm_X11_chance_8 : ∀ w ∈ u_ws RX8 TX8 (xg_N 8), w ∈ wsX11_chance := fun _ h9 => List.mem_cons_of_mem _ (List.mem_append_left _ (List.mem_append_left _ (List.mem_append_left _ (List.mem_append_right _ h9))))
theorem inm_X11_chance_11 : ∀ w ∈ u_ws RX11 TX11 (xg_N 11), w ∈ wsX11_chance := fun _ h9 => List.mem_cons_of_mem _ (List.mem_append_left _ (List.mem_append_left _ (List.mem_append_left _ (List.mem_append_left _ (List.mem_append_right _ h9)))))
set_option maxHeartbeats 4000000 in
set_option maxRecDepth 100000 in
theorem met_X11_chance (Y : xg_Y) (this : Nat) (x1 : Int32) (x2 : Int32) (x3 : Int32) (x4 : Int32) : xg_MI yX11_chance wsX11_chance rm_X11_chance Y (fun zs => [va_rf (some this), .int x1, .int x2, .int x3, .int x4]) (fun Q h => wp_X11_chance Y Q this x1 x2 x3 x4 h) := by
  refine xg_startI (cc := cX11_chance) (maxL := 9) (own := RX11) (by decide) rfl rfl (fun zs => Nat.le_of_ble_eq_true rfl) (fun X Q h C hnL E hw => ?_)
  unfold wp_X11_chance at hw
  obtain ⟨hthis, hw⟩ := hw
  refine xg_sub (lv2 := [(0, va_rf (some this)), (1, .int x1), (2, .int x2), (3, .int x3), (4, .int x4)]) [0, 1, 2, 3, 4] rfl ?_
  refine mg_use (hw (fun (y5 : Option Nat) (y6 : Int32) (y7 : Int32) (y8 : Int32) (h : xg_H) => xg_W X 0 0 Y 64 [(4, .int x4), (5, va_rf y5), (6, .int y6), (7, .int y7), (8, .int y8)] [] h) (fun (y8 : Int32) (s0 : Int32) (h : xg_H) => xg_W X 0 0 Y 111 [(8, .int y8)] [.int s0] h) ?_ ?_) (fun hF => ?_)
  · intro y5 y6 y7 y8 h hF
    refine xg_iload (pc := 64) C dX11_chance_64 4 rfl ?_
    refine xg_aload (pc := 66) C dX11_chance_66 1 rfl ?_
    obtain ⟨a10, ha10, hka10, hF⟩ := hF
    refine xg_geti (pc := 68) (C1 := RX8) (T1 := TX8) (ci := 8) (ref := "SandGlasses$Text") C inm_X11_chance_8 rfl (by decide) 0 (by decide) rfl dX11_chance_68 (List.mem_of_getElem? (i := 3) rfl) rfl ha10 hka10 ?_
    refine xg_icmp_ge (pc := 71) 87 C dX11_chance_71 (by decide) (fun hc => ?_) (fun hc => ?_)
    · have hF := hF.1 hc
      refine xg_iload (pc := 87) C dX11_chance_87 2 rfl ?_
      refine xg_i2l (pc := 89) C dX11_chance_89 ?_
      refine xg_iload (pc := 90) C dX11_chance_90 3 rfl ?_
      refine xg_i2l (pc := 92) C dX11_chance_92 ?_
      refine xg_csL (pc := 93) C (fun zs => [.long (y6.toInt64), .long (y7.toInt64)]) (met_X11_common Y (y6.toInt64) (y7.toInt64)) gX11_chance_X11_common rfl ⟨rfl, rfl⟩ nd_X11_common.2 ⟨Nat.le_of_ble_eq_true rfl, Nat.le_of_ble_eq_true rfl⟩ rfl rfl (Nat.le_of_ble_eq_true rfl) ⟨Nat.zero_le _, Nat.zero_le _⟩ dX11_chance_93 hF (fun r12 h11 hF => ?_)
      refine xg_l2i (pc := 96) C dX11_chance_96 ?_
      refine xg_topi (pc := 97) (fun z13 ez13 => ?_)
      have hF := hF z13 ez13
      refine xg_istore (pc := 97) (lv2 := [(8, .int z13), (4, .int x4), (5, va_rf y5), (6, .int y6), (7, .int y7)]) C dX11_chance_97 9 hnL (by decide) rfl ?_
      refine xg_iload (pc := 99) C dX11_chance_99 1 rfl ?_
      refine xg_if_eq (pc := 101) 109 C dX11_chance_101 (by decide) (fun hc => ?_) (fun hc => ?_)
      · have hF := hF.1 hc
        refine xg_iload (pc := 109) C dX11_chance_109 3 rfl ?_
        refine xg_sub (lv2 := [(8, .int z13)]) [0] rfl ?_
        exact hF
      · have hF := hF.2 hc
        refine xg_iload (pc := 104) C dX11_chance_104 4 rfl ?_
        refine xg_goto (pc := 106) 111 C dX11_chance_106 (by decide) ?_
        refine xg_sub (lv2 := [(8, .int z13)]) [0] rfl ?_
        exact hF
    · have hF := hF.2 hc
      refine xg_iload (pc := 74) C dX11_chance_74 3 rfl ?_
      refine xg_bipush (pc := 76) (v := 10) C dX11_chance_76 (by decide) ?_
      refine xg_imul (pc := 78) C dX11_chance_78 ?_
      refine xg_topi (pc := 79) (fun z14 ez14 => ?_)
      have hF := hF z14 ez14
      refine xg_istore (pc := 79) (lv2 := [(7, .int z14), (4, .int x4), (5, va_rf y5), (6, .int y6), (8, .int y8)]) C dX11_chance_79 9 hnL (by decide) rfl ?_
      obtain ⟨z15, ez15⟩ : ∃ y : Int32, y = y8 + 1 := ⟨_, rfl⟩
      have hF := hF z15 ez15
      refine xg_iinc (pc := 81) (v := z15) (lv2 := [(8, .int z15), (7, .int z14), (4, .int x4), (5, va_rf y5), (6, .int y6)]) C dX11_chance_81 4 rfl (by rw [ez15]; rfl) 9 hnL (by decide) rfl ?_
      refine xg_goto (pc := 84) 64 C dX11_chance_84 (by decide) ?_
      refine xg_sub (lv2 := [(4, .int x4), (5, va_rf y5), (6, .int y6), (7, .int z14), (8, .int z15)]) [2, 3, 4, 1, 0] rfl ?_
      exact hF
  · intro y8 s0 h hF
    refine xg_iconst (pc := 111) (v := 1) C dX11_chance_111 (by decide) ?_
    refine xg_iload (pc := 112) C dX11_chance_112 0 rfl ?_
    refine xg_mmax (pc := 114) C (List.mem_of_getElem? (i := 4) rfl) (List.mem_of_getElem? (i := 5) rfl) (List.mem_of_getElem? (i := 6) rfl) (List.mem_of_getElem? (i := 7) rfl) (Nat.le_of_ble_eq_true rfl) (Nat.le_of_ble_eq_true rfl) (Nat.zero_le _) (Nat.zero_le _) dX11_chance_114 ?_
    refine xg_topi (pc := 117) (fun z16 ez16 => ?_)
    have hF := hF z16 ez16
    obtain ⟨hne, hF⟩ := hF
    refine xg_idiv (pc := 117) C dX11_chance_117 hne ?_
    exact xg_retI (pc := 118) C E dX11_chance_118 hF
  · skip
    refine xg_aload_n (pc := 0) C dX11_chance_0 0 rfl ?_
    refine xg_getr (pc := 1) (C1 := RX11) (T1 := TX11) (ci := 11) (ref := "SandGlasses") C inm_X11_chance_11 rfl (by decide) 0 (by decide) rfl dX11_chance_1 (List.mem_of_getElem? (i := 1) rfl) rfl rfl hthis ?_
    refine xg_iconst (pc := 4) (v := 0) C dX11_chance_4 (by decide) ?_
    refine xg_iload_n (pc := 5) C dX11_chance_5 1 rfl ?_
    obtain ⟨a1, ha1, hka1, hF⟩ := hF
    refine xg_cvR (pc := 6) (C1 := RX9) (T1 := TX9) (ci := 9) C (fun zs => [.int 0, .int x1]) ha1 hka1 (by decide) rfl (met_X9_find Y a1 0 x1) gX11_chance_X9_find rfl ⟨rfl, rfl⟩ nd_X9_find ⟨Nat.le_of_ble_eq_true rfl, Nat.le_of_ble_eq_true rfl⟩ rfl rfl (Nat.le_of_ble_eq_true rfl) ⟨Nat.zero_le _, Nat.zero_le _⟩ dX11_chance_6 hF (fun r3 h2 hF => ?_)
    refine xg_astore (pc := 9) (lv2 := [(5, va_rf r3), (0, va_rf (some this)), (1, .int x1), (2, .int x2), (3, .int x3), (4, .int x4)]) C dX11_chance_9 9 hnL (by decide) rfl ?_
    refine xg_aload (pc := 11) C dX11_chance_11 0 rfl ?_
    refine xg_ifnull (pc := 13) 36 C dX11_chance_13 (by decide) (fun hc => ?_) (fun a4 ha4 => ?_)
    · have hF := hF.1 hc
      refine xg_iconst (pc := 36) (v := (-1)) C dX11_chance_36 (by decide) ?_
      exact xg_retI (pc := 37) C E dX11_chance_37 hF
    · have hF := hF.2 a4 ha4
      refine xg_iload_n (pc := 16) C dX11_chance_16 3 rfl ?_
      refine xg_if_lt (pc := 17) 36 C dX11_chance_17 (by decide) (fun hc => ?_) (fun hc => ?_)
      · have hF := hF.1 hc
        refine xg_iconst (pc := 36) (v := (-1)) C dX11_chance_36 (by decide) ?_
        exact xg_retI (pc := 37) C E dX11_chance_37 hF
      · have hF := hF.2 hc
        refine xg_iload_n (pc := 20) C dX11_chance_20 3 rfl ?_
        refine xg_bipush (pc := 21) (v := 10) C dX11_chance_21 (by decide) ?_
        refine xg_icmp_gt (pc := 23) 36 C dX11_chance_23 (by decide) (fun hc => ?_) (fun hc => ?_)
        · have hF := hF.1 hc
          refine xg_iconst (pc := 36) (v := (-1)) C dX11_chance_36 (by decide) ?_
          exact xg_retI (pc := 37) C E dX11_chance_37 hF
        · have hF := hF.2 hc
          refine xg_iload_n (pc := 26) C dX11_chance_26 4 rfl ?_
          refine xg_if_lt (pc := 27) 36 C dX11_chance_27 (by decide) (fun hc => ?_) (fun hc => ?_)
          · have hF := hF.1 hc
            refine xg_iconst (pc := 36) (v := (-1)) C dX11_chance_36 (by decide) ?_
            exact xg_retI (pc := 37) C E dX11_chance_37 hF
          · have hF := hF.2 hc
            refine xg_iload_n (pc := 30) C dX11_chance_30 4 rfl ?_
            refine xg_bipush (pc := 31) (v := 7) C dX11_chance_31 (by decide) ?_
            refine xg_icmp_le (pc := 33) 38 C dX11_chance_33 (by decide) (fun hc => ?_) (fun hc => ?_)
            · have hF := hF.1 hc
              refine xg_aload_n (pc := 38) C dX11_chance_38 1 rfl ?_
              refine xg_getr (pc := 39) (C1 := RX11) (T1 := TX11) (ci := 11) (ref := "SandGlasses") C inm_X11_chance_11 rfl (by decide) 6 (by decide) rfl dX11_chance_39 (List.mem_of_getElem? (i := 2) rfl) rfl rfl hthis ?_
              refine xg_aload (pc := 42) C dX11_chance_42 0 rfl ?_
              obtain ⟨a5, ha5, hka5, hF⟩ := hF
              refine xg_cvV (pc := 44) (C1 := RX4) (T1 := TX4) (ci := 4) C (fun zs => [va_rf r3]) ha5 hka5 (by decide) rfl (met_X4_begin Y a5 r3) gX11_chance_X4_begin rfl ⟨rfl, rfl⟩ nd_X4_begin ⟨Nat.le_of_ble_eq_true rfl, Nat.le_of_ble_eq_true rfl⟩ rfl rfl (Nat.le_of_ble_eq_true rfl) ⟨Nat.zero_le _, Nat.zero_le _⟩ dX11_chance_44 hF (fun h6 hF => ?_)
              refine xg_aload_n (pc := 47) C dX11_chance_47 1 rfl ?_
              refine xg_getr (pc := 48) (C1 := RX11) (T1 := TX11) (ci := 11) (ref := "SandGlasses") C inm_X11_chance_11 rfl (by decide) 6 (by decide) rfl dX11_chance_48 (List.mem_of_getElem? (i := 2) rfl) rfl rfl hthis ?_
              refine xg_iload_n (pc := 51) C dX11_chance_51 3 rfl ?_
              refine xg_iload_n (pc := 52) C dX11_chance_52 4 rfl ?_
              obtain ⟨a7, ha7, hka7, hF⟩ := hF
              refine xg_cvI (pc := 53) (C1 := RX4) (T1 := TX4) (ci := 4) C (fun zs => [.int x2, .int x3]) ha7 hka7 (by decide) rfl (met_X4_chanceOver Y a7 x2 x3) gX11_chance_X4_chanceOver rfl ⟨rfl, rfl⟩ nd_X4_chanceOver ⟨Nat.le_of_ble_eq_true rfl, Nat.le_of_ble_eq_true rfl⟩ rfl rfl (Nat.le_of_ble_eq_true rfl) ⟨Nat.zero_le _, Nat.zero_le _⟩ dX11_chance_53 hF (fun r9 h8 hF => ?_)
              refine xg_istore (pc := 56) (lv2 := [(6, .int r9), (5, va_rf r3), (0, va_rf (some this)), (1, .int x1), (2, .int x2), (3, .int x3), (4, .int x4)]) C dX11_chance_56 9 hnL (by decide) (by cases r3 <;> rfl) ?_
              refine xg_iconst (pc := 58) (v := 1) C dX11_chance_58 (by decide) ?_
              refine xg_istore (pc := 59) (lv2 := [(7, .int 1), (6, .int r9), (5, va_rf r3), (0, va_rf (some this)), (1, .int x1), (2, .int x2), (3, .int x3), (4, .int x4)]) C dX11_chance_59 9 hnL (by decide) rfl ?_
              refine xg_iconst (pc := 61) (v := 0) C dX11_chance_61 (by decide) ?_
              refine xg_istore (pc := 62) (lv2 := [(8, .int 0), (7, .int 1), (6, .int r9), (5, va_rf r3), (0, va_rf (some this)), (1, .int x1), (2, .int x2), (3, .int x3), (4, .int x4)]) C dX11_chance_62 9 hnL (by decide) rfl ?_
              refine xg_sub (lv2 := [(4, .int x4), (5, va_rf r3), (6, .int r9), (7, .int 1), (8, .int 0)]) [8, 3, 2, 1, 0] rfl ?_
              exact hF
            · have hF := hF.2 hc
              refine xg_iconst (pc := 36) (v := (-1)) C dX11_chance_36 (by decide) ?_
              exact xg_retI (pc := 37) C E dX11_chance_37 hF
def rm_X11_count : Room := { frames := 0, cells := 0, slots := 0, locals := 0 }
theorem nd_X11_count : yX11_count.cls = RX11 ∧ yX11_count.cls ≠ "java/lang/invoke/MethodHandle" ∧ yX11_count.cls ≠ "java/lang/invoke/VarHandle" ∧ (parseMethodDescriptor yX11_count.desc).map (fun d => d.parameters.length) = some 1 := by decide +kernel
theorem inm_X11_count_9 : ∀ w ∈ u_ws RX9 TX9 (xg_N 9), w ∈ wsX11_count := fun _ h9 => List.mem_cons_of_mem _ (List.mem_append_right _ h9)
theorem inm_X11_count_11 : ∀ w ∈ u_ws RX11 TX11 (xg_N 11), w ∈ wsX11_count := fun _ h9 => List.mem_cons_of_mem _ (List.mem_append_left _ (List.mem_append_right _ h9))
set_option maxHeartbeats 4000000 in
set_option maxRecDepth 100000 in
theorem met_X11_count (Y : xg_Y) (this : Nat) (x1 : Int32) : xg_MI yX11_count wsX11_count rm_X11_count Y (fun zs => [va_rf (some this), .int x1]) (fun Q h => wp_X11_count Y Q this x1 h) := by
  refine xg_startI (cc := cX11_count) (maxL := 2) (own := RX11) (by decide) rfl rfl (fun zs => Nat.le_of_ble_eq_true rfl) (fun X Q h C hnL E hw => ?_)
  unfold wp_X11_count at hw
  obtain ⟨hthis, hw⟩ := hw
  refine xg_sub (lv2 := [(0, va_rf (some this)), (1, .int x1)]) [0, 1] rfl ?_
  have hF := hw
  refine xg_iload_n (pc := 0) C dX11_count_0 1 rfl ?_
  refine xg_if_lt (pc := 1) 21 C dX11_count_1 (by decide) (fun hc => ?_) (fun hc => ?_)
  · have hF := hF.1 hc
    refine xg_bipush (pc := 21) (v := (-2)) C dX11_count_21 (by decide) ?_
    exact xg_retI (pc := 23) C E dX11_count_23 hF
  · have hF := hF.2 hc
    refine xg_iload_n (pc := 4) C dX11_count_4 1 rfl ?_
    refine xg_iconst (pc := 5) (v := 4) C dX11_count_5 (by decide) ?_
    refine xg_icmp_ge (pc := 6) 21 C dX11_count_6 (by decide) (fun hc => ?_) (fun hc => ?_)
    · have hF := hF.1 hc
      refine xg_bipush (pc := 21) (v := (-2)) C dX11_count_21 (by decide) ?_
      exact xg_retI (pc := 23) C E dX11_count_23 hF
    · have hF := hF.2 hc
      refine xg_aload_n (pc := 9) C dX11_count_9 0 rfl ?_
      refine xg_getr (pc := 10) (C1 := RX11) (T1 := TX11) (ci := 11) (ref := "SandGlasses") C inm_X11_count_11 rfl (by decide) 0 (by decide) rfl dX11_count_10 (List.mem_of_getElem? (i := 1) rfl) rfl rfl hthis ?_
      obtain ⟨a1, ha1, hka1, hF⟩ := hF
      refine xg_getr (pc := 13) (C1 := RX9) (T1 := TX9) (ci := 9) (ref := "SandGlasses$Told") C inm_X11_count_9 rfl (by decide) 4 (by decide) rfl dX11_count_13 (List.mem_of_getElem? (i := 2) rfl) rfl ha1 hka1 ?_
      refine xg_iload_n (pc := 16) C dX11_count_16 1 rfl ?_
      obtain ⟨a2, ha2, hka2, hF⟩ := hF
      obtain ⟨hi, hF⟩ := hF
      refine xg_iald (pc := 17) C ha2 hka2 hi dX11_count_17 ?_
      refine xg_goto (pc := 18) 23 C dX11_count_18 (by decide) ?_
      exact xg_retI (pc := 23) C E dX11_count_23 hF
def rm_X11_lineOf : Room := { frames := 0, cells := 0, slots := 0, locals := 0 }
theorem nd_X11_lineOf : yX11_lineOf.cls = RX11 ∧ yX11_lineOf.cls ≠ "java/lang/invoke/MethodHandle" ∧ yX11_lineOf.cls ≠ "java/lang/invoke/VarHandle" ∧ (parseMethodDescriptor yX11_lineOf.desc).map (fun d => d.parameters.length) = some 3 := by decide +kernel
theorem inm_X11_lineOf_8 : ∀ w ∈ u_ws RX8 TX8 (xg_N 8), w ∈ wsX11_lineOf := fun _ h9 => List.mem_cons_of_mem _ (List.mem_append_right _ h9)
set_option maxHeartbeats 4000000 in
set_option maxRecDepth 100000 in
theorem met_X11_lineOf (Y : xg_Y) (x0 : Option Nat) (x1 : Int32) (x2 : Int32) : xg_MI yX11_lineOf wsX11_lineOf rm_X11_lineOf Y (fun zs => [va_rf x0, .int x1, .int x2]) (fun Q h => wp_X11_lineOf Y Q x0 x1 x2 h) := by
  refine xg_startI (cc := cX11_lineOf) (maxL := 3) (own := RX11) (by decide) rfl rfl (fun zs => by cases x0 <;> exact Nat.le_of_ble_eq_true rfl) (fun X Q h C hnL E hw => ?_)
  unfold wp_X11_lineOf at hw
  refine xg_sub (lv2 := [(0, va_rf x0), (1, .int x1), (2, .int x2)]) [0, 1, 2] (by cases x0 <;> rfl) ?_
  have hF := hw
  refine xg_aload_n (pc := 0) C dX11_lineOf_0 0 rfl ?_
  refine xg_ifnonnull (pc := 1) 7 C dX11_lineOf_1 (by decide) (fun a1 ha1 => ?_) (fun hc => ?_)
  · have hF := hF.2 a1 ha1
    refine xg_iload_n (pc := 7) C dX11_lineOf_7 1 rfl ?_
    refine xg_iconst (pc := 8) (v := (-1)) C dX11_lineOf_8 (by decide) ?_
    refine xg_icmp_ne (pc := 9) 26 C dX11_lineOf_9 (by decide) (fun hc => ?_) (fun hc => ?_)
    · have hF := hF.1 hc
      refine xg_iload_n (pc := 26) C dX11_lineOf_26 1 rfl ?_
      refine xg_if_lt (pc := 27) 38 C dX11_lineOf_27 (by decide) (fun hc => ?_) (fun hc => ?_)
      · have hF := hF.1 hc
        refine xg_bipush (pc := 38) (v := (-2)) C dX11_lineOf_38 (by decide) ?_
        exact xg_retI (pc := 40) C E dX11_lineOf_40 hF
      · have hF := hF.2 hc
        refine xg_iload_n (pc := 30) C dX11_lineOf_30 1 rfl ?_
        refine xg_aload_n (pc := 31) C dX11_lineOf_31 0 rfl ?_
        obtain ⟨hk2, hF⟩ := hF
        refine xg_geti (pc := 32) (C1 := RX8) (T1 := TX8) (ci := 8) (ref := "SandGlasses$Text") C inm_X11_lineOf_8 rfl (by decide) 0 (by decide) rfl dX11_lineOf_32 (List.mem_of_getElem? (i := 1) rfl) rfl ha1 hk2 ?_
        refine xg_icmp_lt (pc := 35) 41 C dX11_lineOf_35 (by decide) (fun hc => ?_) (fun hc => ?_)
        · have hF := hF.1 hc
          refine xg_iload_n (pc := 41) C dX11_lineOf_41 2 rfl ?_
          by_cases hs0 : x2 = 0
          · have hF := hF.1 hs0
            refine xg_look (pc := 42) 68 C dX11_lineOf_42 (by decide) (off := 26) (by rw [hs0]; rfl) (by decide) ?_
            refine xg_aload_n (pc := 68) C dX11_lineOf_68 0 rfl ?_
            refine xg_getr (pc := 69) (C1 := RX8) (T1 := TX8) (ci := 8) (ref := "SandGlasses$Text") C inm_X11_lineOf_8 rfl (by decide) 1 (by decide) rfl dX11_lineOf_69 (List.mem_of_getElem? (i := 2) rfl) rfl ha1 hk2 ?_
            refine xg_iload_n (pc := 72) C dX11_lineOf_72 1 rfl ?_
            obtain ⟨a3, ha3, hka3, hF⟩ := hF
            obtain ⟨hi, hF⟩ := hF
            refine xg_iald (pc := 73) C ha3 hka3 hi dX11_lineOf_73 ?_
            exact xg_retI (pc := 74) C E dX11_lineOf_74 hF
          have hF := hF.2
          by_cases hs1 : x2 = 1
          · have hF := hF.1 hs1
            refine xg_look (pc := 42) 75 C dX11_lineOf_42 (by decide) (off := 33) (by rw [hs1]; rfl) (by decide) ?_
            refine xg_aload_n (pc := 75) C dX11_lineOf_75 0 rfl ?_
            refine xg_getr (pc := 76) (C1 := RX8) (T1 := TX8) (ci := 8) (ref := "SandGlasses$Text") C inm_X11_lineOf_8 rfl (by decide) 2 (by decide) rfl dX11_lineOf_76 (List.mem_of_getElem? (i := 3) rfl) rfl ha1 hk2 ?_
            refine xg_iload_n (pc := 79) C dX11_lineOf_79 1 rfl ?_
            obtain ⟨a4, ha4, hka4, hF⟩ := hF
            obtain ⟨hi, hF⟩ := hF
            refine xg_iald (pc := 80) C ha4 hka4 hi dX11_lineOf_80 ?_
            exact xg_retI (pc := 81) C E dX11_lineOf_81 hF
          have hF := hF.2
          have hF := hF hs0 hs1
          refine xg_look (pc := 42) 82 C dX11_lineOf_42 (by decide) (off := 40) (xg_lkd hs0 hs1) (by decide) ?_
          refine xg_bipush (pc := 82) (v := (-2)) C dX11_lineOf_82 (by decide) ?_
          exact xg_retI (pc := 84) C E dX11_lineOf_84 hF
        · have hF := hF.2 hc
          refine xg_bipush (pc := 38) (v := (-2)) C dX11_lineOf_38 (by decide) ?_
          exact xg_retI (pc := 40) C E dX11_lineOf_40 hF
    · have hF := hF.2 hc
      refine xg_iload_n (pc := 12) C dX11_lineOf_12 2 rfl ?_
      refine xg_if_ne (pc := 13) 23 C dX11_lineOf_13 (by decide) (fun hc => ?_) (fun hc => ?_)
      · have hF := hF.1 hc
        refine xg_bipush (pc := 23) (v := (-2)) C dX11_lineOf_23 (by decide) ?_
        exact xg_retI (pc := 25) C E dX11_lineOf_25 hF
      · have hF := hF.2 hc
        refine xg_aload_n (pc := 16) C dX11_lineOf_16 0 rfl ?_
        obtain ⟨hk5, hF⟩ := hF
        refine xg_geti (pc := 17) (C1 := RX8) (T1 := TX8) (ci := 8) (ref := "SandGlasses$Text") C inm_X11_lineOf_8 rfl (by decide) 0 (by decide) rfl dX11_lineOf_17 (List.mem_of_getElem? (i := 1) rfl) rfl ha1 hk5 ?_
        refine xg_goto (pc := 20) 25 C dX11_lineOf_20 (by decide) ?_
        exact xg_retI (pc := 25) C E dX11_lineOf_25 hF
  · have hF := hF.1 hc
    refine xg_bipush (pc := 4) (v := (-2)) C dX11_lineOf_4 (by decide) ?_
    exact xg_retI (pc := 6) C E dX11_lineOf_6 hF
def rm_X11_deed : Room := { frames := 1, cells := 0, slots := 0, locals := 22 }
theorem nd_X11_deed : yX11_deed.cls = RX11 ∧ yX11_deed.cls ≠ "java/lang/invoke/MethodHandle" ∧ yX11_deed.cls ≠ "java/lang/invoke/VarHandle" ∧ (parseMethodDescriptor yX11_deed.desc).map (fun d => d.parameters.length) = some 3 := by decide +kernel
theorem inm_X11_deed_11 : ∀ w ∈ u_ws RX11 TX11 (xg_N 11), w ∈ wsX11_deed := fun _ h9 => List.mem_cons_of_mem _ (List.mem_append_left _ (List.mem_append_left _ (List.mem_append_right _ h9)))
set_option maxHeartbeats 4000000 in
set_option maxRecDepth 100000 in
theorem met_X11_deed (Y : xg_Y) (this : Nat) (x1 : Int32) (x2 : Int32) (x3 : Int32) : xg_MI yX11_deed wsX11_deed rm_X11_deed Y (fun zs => [va_rf (some this), .int x1, .int x2, .int x3]) (fun Q h => wp_X11_deed Y Q this x1 x2 x3 h) := by
  refine xg_startI (cc := cX11_deed) (maxL := 4) (own := RX11) (by decide) rfl rfl (fun zs => Nat.le_of_ble_eq_true rfl) (fun X Q h C hnL E hw => ?_)
  unfold wp_X11_deed at hw
  obtain ⟨hthis, hw⟩ := hw
  refine xg_sub (lv2 := [(0, va_rf (some this)), (1, .int x1), (2, .int x2), (3, .int x3)]) [0, 1, 2, 3] rfl ?_
  have hF := hw
  refine xg_aload_n (pc := 0) C dX11_deed_0 0 rfl ?_
  refine xg_getr (pc := 1) (C1 := RX11) (T1 := TX11) (ci := 11) (ref := "SandGlasses") C inm_X11_deed_11 rfl (by decide) 0 (by decide) rfl dX11_deed_1 (List.mem_of_getElem? (i := 1) rfl) rfl rfl hthis ?_
  refine xg_iconst (pc := 4) (v := 1) C dX11_deed_4 (by decide) ?_
  refine xg_iload_n (pc := 5) C dX11_deed_5 1 rfl ?_
  obtain ⟨a1, ha1, hka1, hF⟩ := hF
  refine xg_cvR (pc := 6) (C1 := RX9) (T1 := TX9) (ci := 9) C (fun zs => [.int 1, .int x1]) ha1 hka1 (by decide) rfl (met_X9_find Y a1 1 x1) gX11_deed_X9_find rfl ⟨rfl, rfl⟩ nd_X9_find ⟨Nat.le_of_ble_eq_true rfl, Nat.le_of_ble_eq_true rfl⟩ rfl rfl (Nat.le_of_ble_eq_true rfl) ⟨Nat.zero_le _, Nat.zero_le _⟩ dX11_deed_6 hF (fun r3 h2 hF => ?_)
  refine xg_iload_n (pc := 9) C dX11_deed_9 2 rfl ?_
  refine xg_iload_n (pc := 10) C dX11_deed_10 3 rfl ?_
  refine xg_csI (pc := 11) C (fun zs => [va_rf r3, .int x2, .int x3]) (met_X11_lineOf Y r3 x2 x3) gX11_deed_X11_lineOf rfl ⟨rfl, rfl⟩ nd_X11_lineOf.2 ⟨Nat.le_of_ble_eq_true rfl, Nat.le_of_ble_eq_true rfl⟩ rfl rfl (Nat.le_of_ble_eq_true rfl) ⟨Nat.zero_le _, Nat.zero_le _⟩ dX11_deed_11 hF (fun r5 h4 hF => ?_)
  exact xg_retI (pc := 14) C E dX11_deed_14 hF
def rm_X11_drawn : Room := { frames := 4, cells := 0, slots := 0, locals := 94 }
theorem nd_X11_drawn : yX11_drawn.cls = RX11 ∧ yX11_drawn.cls ≠ "java/lang/invoke/MethodHandle" ∧ yX11_drawn.cls ≠ "java/lang/invoke/VarHandle" ∧ (parseMethodDescriptor yX11_drawn.desc).map (fun d => d.parameters.length) = some 4 := by decide +kernel
theorem inm_X11_drawn_11 : ∀ w ∈ u_ws RX11 TX11 (xg_N 11), w ∈ wsX11_drawn := fun _ h9 => List.mem_cons_of_mem _ (List.mem_append_left _ (List.mem_append_left _ (List.mem_append_left _ (List.mem_append_left _ (List.mem_append_right _ h9)))))
set_option maxHeartbeats 4000000 in
set_option maxRecDepth 100000 in
theorem met_X11_drawn (Y : xg_Y) (this : Nat) (x1 : Int32) (x2 : Int32) (x3 : Int32) (x4 : Int32) : xg_MI yX11_drawn wsX11_drawn rm_X11_drawn Y (fun zs => [va_rf (some this), .int x1, .int x2, .int x3, .int x4]) (fun Q h => wp_X11_drawn Y Q this x1 x2 x3 x4 h) := by
  refine xg_startI (cc := cX11_drawn) (maxL := 6) (own := RX11) (by decide) rfl rfl (fun zs => Nat.le_of_ble_eq_true rfl) (fun X Q h C hnL E hw => ?_)
  unfold wp_X11_drawn at hw
  obtain ⟨hthis, hw⟩ := hw
  refine xg_sub (lv2 := [(0, va_rf (some this)), (1, .int x1), (2, .int x2), (3, .int x3), (4, .int x4)]) [0, 1, 2, 3, 4] rfl ?_
  have hF := hw
  refine xg_aload_n (pc := 0) C dX11_drawn_0 0 rfl ?_
  refine xg_getr (pc := 1) (C1 := RX11) (T1 := TX11) (ci := 11) (ref := "SandGlasses") C inm_X11_drawn_11 rfl (by decide) 0 (by decide) rfl dX11_drawn_1 (List.mem_of_getElem? (i := 1) rfl) rfl rfl hthis ?_
  refine xg_iconst (pc := 4) (v := 0) C dX11_drawn_4 (by decide) ?_
  refine xg_iload_n (pc := 5) C dX11_drawn_5 1 rfl ?_
  obtain ⟨a1, ha1, hka1, hF⟩ := hF
  refine xg_cvR (pc := 6) (C1 := RX9) (T1 := TX9) (ci := 9) C (fun zs => [.int 0, .int x1]) ha1 hka1 (by decide) rfl (met_X9_find Y a1 0 x1) gX11_drawn_X9_find rfl ⟨rfl, rfl⟩ nd_X9_find ⟨Nat.le_of_ble_eq_true rfl, Nat.le_of_ble_eq_true rfl⟩ rfl rfl (Nat.le_of_ble_eq_true rfl) ⟨Nat.zero_le _, Nat.zero_le _⟩ dX11_drawn_6 hF (fun r3 h2 hF => ?_)
  refine xg_astore (pc := 9) (lv2 := [(5, va_rf r3), (0, va_rf (some this)), (1, .int x1), (2, .int x2), (3, .int x3), (4, .int x4)]) C dX11_drawn_9 6 hnL (by decide) rfl ?_
  refine xg_aload (pc := 11) C dX11_drawn_11 0 rfl ?_
  refine xg_ifnull (pc := 13) 26 C dX11_drawn_13 (by decide) (fun hc => ?_) (fun a4 ha4 => ?_)
  · have hF := hF.1 hc
    refine xg_iconst (pc := 26) (v := (-1)) C dX11_drawn_26 (by decide) ?_
    exact xg_retI (pc := 27) C E dX11_drawn_27 hF
  · have hF := hF.2 a4 ha4
    refine xg_iload_n (pc := 16) C dX11_drawn_16 4 rfl ?_
    refine xg_if_lt (pc := 17) 26 C dX11_drawn_17 (by decide) (fun hc => ?_) (fun hc => ?_)
    · have hF := hF.1 hc
      refine xg_iconst (pc := 26) (v := (-1)) C dX11_drawn_26 (by decide) ?_
      exact xg_retI (pc := 27) C E dX11_drawn_27 hF
    · have hF := hF.2 hc
      refine xg_iload_n (pc := 20) C dX11_drawn_20 4 rfl ?_
      refine xg_bipush (pc := 21) (v := 60) C dX11_drawn_21 (by decide) ?_
      refine xg_icmp_le (pc := 23) 28 C dX11_drawn_23 (by decide) (fun hc => ?_) (fun hc => ?_)
      · have hF := hF.1 hc
        refine xg_aload_n (pc := 28) C dX11_drawn_28 1 rfl ?_
        refine xg_getr (pc := 29) (C1 := RX11) (T1 := TX11) (ci := 11) (ref := "SandGlasses") C inm_X11_drawn_11 rfl (by decide) 3 (by decide) rfl dX11_drawn_29 (List.mem_of_getElem? (i := 2) rfl) rfl rfl hthis ?_
        refine xg_aload (pc := 32) C dX11_drawn_32 0 rfl ?_
        obtain ⟨a5, ha5, hka5, hF⟩ := hF
        refine xg_cvV (pc := 34) (C1 := RX0) (T1 := TX0) (ci := 0) C (fun zs => [va_rf r3]) ha5 hka5 (by decide) rfl (met_X0_begin Y a5 r3) gX11_drawn_X0_begin rfl ⟨rfl, rfl⟩ nd_X0_begin ⟨Nat.le_of_ble_eq_true rfl, Nat.le_of_ble_eq_true rfl⟩ rfl rfl (Nat.le_of_ble_eq_true rfl) ⟨Nat.zero_le _, Nat.zero_le _⟩ dX11_drawn_34 hF (fun h6 hF => ?_)
        refine xg_aload_n (pc := 37) C dX11_drawn_37 1 rfl ?_
        refine xg_getr (pc := 38) (C1 := RX11) (T1 := TX11) (ci := 11) (ref := "SandGlasses") C inm_X11_drawn_11 rfl (by decide) 3 (by decide) rfl dX11_drawn_38 (List.mem_of_getElem? (i := 2) rfl) rfl rfl hthis ?_
        refine xg_iload_n (pc := 41) C dX11_drawn_41 3 rfl ?_
        refine xg_iload_n (pc := 42) C dX11_drawn_42 4 rfl ?_
        obtain ⟨a7, ha7, hka7, hF⟩ := hF
        refine xg_cvV (pc := 43) (C1 := RX0) (T1 := TX0) (ci := 0) C (fun zs => [.int x2, .int x3]) ha7 hka7 (by decide) rfl (met_X0_playDrawn Y a7 x2 x3) gX11_drawn_X0_playDrawn rfl ⟨rfl, rfl⟩ nd_X0_playDrawn ⟨Nat.le_of_ble_eq_true rfl, Nat.le_of_ble_eq_true rfl⟩ rfl rfl (Nat.le_of_ble_eq_true rfl) ⟨Nat.zero_le _, Nat.zero_le _⟩ dX11_drawn_43 hF (fun h8 hF => ?_)
        refine xg_aload_n (pc := 46) C dX11_drawn_46 1 rfl ?_
        refine xg_getr (pc := 47) (C1 := RX11) (T1 := TX11) (ci := 11) (ref := "SandGlasses") C inm_X11_drawn_11 rfl (by decide) 3 (by decide) rfl dX11_drawn_47 (List.mem_of_getElem? (i := 2) rfl) rfl rfl hthis ?_
        refine xg_iload (pc := 50) C dX11_drawn_50 5 rfl ?_
        obtain ⟨a9, ha9, hka9, hF⟩ := hF
        refine xg_cvI (pc := 52) (C1 := RX0) (T1 := TX0) (ci := 0) C (fun zs => [.int x4]) ha9 hka9 (by decide) rfl (met_X0_look Y a9 x4) gX11_drawn_X0_look rfl ⟨rfl, rfl⟩ nd_X0_look ⟨Nat.le_of_ble_eq_true rfl, Nat.le_of_ble_eq_true rfl⟩ rfl rfl (Nat.le_of_ble_eq_true rfl) ⟨Nat.zero_le _, Nat.zero_le _⟩ dX11_drawn_52 hF (fun r11 h10 hF => ?_)
        exact xg_retI (pc := 55) C E dX11_drawn_55 hF
      · have hF := hF.2 hc
        refine xg_iconst (pc := 26) (v := (-1)) C dX11_drawn_26 (by decide) ?_
        exact xg_retI (pc := 27) C E dX11_drawn_27 hF
def rm_X4_duelFrom (d : Nat) : Room := { frames := d + 3, cells := 0, slots := 0, locals := d * 28 + 69 }
theorem nd_X4_duelFrom : yX4_duelFrom.cls = RX4 ∧ yX4_duelFrom.cls ≠ "java/lang/invoke/MethodHandle" ∧ yX4_duelFrom.cls ≠ "java/lang/invoke/VarHandle" ∧ (parseMethodDescriptor yX4_duelFrom.desc).map (fun d => d.parameters.length) = some 3 := by decide +kernel
theorem inm_X4_duelFrom_4 : ∀ w ∈ u_ws RX4 TX4 (xg_N 4), w ∈ wsX4_duelFrom := fun _ h9 => List.mem_cons_of_mem _ (List.mem_append_left _ (List.mem_append_right _ h9))
set_option maxHeartbeats 4000000 in
set_option maxRecDepth 100000 in
theorem met_X4_duelFrom : ∀ (d : Nat) (Y : xg_Y) (this : Nat) (x1 : Int32) (x2 : Int32) (x3 : Int32) , xg_MI yX4_duelFrom wsX4_duelFrom (rm_X4_duelFrom d) Y (fun zs => [va_rf (some this), .int x1, .int x2, .int x3]) (fun Q h => wp_X4_duelFrom d Y Q this x1 x2 x3 h) := by
  intro d
  induction d with
  | zero =>
    intro Y this x1 x2 x3 
    refine xg_startI (cc := cX4_duelFrom) (maxL := 9) (own := RX4) (by decide) rfl rfl (fun zs => Nat.le_of_ble_eq_true rfl) (fun X Q h C hnL E hw => ?_)
    exact False.elim hw
  | succ d ih =>
    intro Y this x1 x2 x3 
    refine xg_startI (cc := cX4_duelFrom) (maxL := 9) (own := RX4) (by decide) rfl rfl (fun zs => Nat.le_of_ble_eq_true rfl) (fun X Q h C hnL E hw => ?_)
    unfold wp_X4_duelFrom at hw
    obtain ⟨hthis, hw⟩ := hw
    refine xg_sub (lv2 := [(0, va_rf (some this)), (1, .int x1), (2, .int x2), (3, .int x3)]) [0, 1, 2, 3] rfl ?_
    refine mg_use (hw (fun (y4 : Int32) (y5 : Int32) (y6 : Int32) (h : xg_H) => xg_W X 0 0 Y 9 [(0, va_rf (some this)), (1, .int x1), (2, .int x2), (3, .int x3), (4, .int y4), (5, .int y5), (6, .int y6)] [] h) (fun (y4 : Int32) (y5 : Int32) (y6 : Int32) (y8 : Int32) (h : xg_H) => xg_W X 0 0 Y 84 [(0, va_rf (some this)), (1, .int x1), (2, .int x2), (3, .int x3), (4, .int y4), (5, .int y5), (6, .int y6), (8, .int y8)] [] h) (fun (y4 : Int32) (y5 : Int32) (y6 : Int32) (s0 : Int32) (s1 : Int32) (s2 : Int32) (s4 : Int32) (h : xg_H) => xg_W X 0 0 Y 75 [(0, va_rf (some this)), (1, .int x1), (2, .int x2), (3, .int x3), (4, .int y4), (5, .int y5), (6, .int y6)] [.int s0, .int s1, .int s2, va_rf (some this), .int s4] h) (fun (y6 : Int32) (y8 : Int32) (h : xg_H) => xg_W X 0 0 Y 111 [(0, va_rf (some this)), (1, .int x1), (2, .int x2), (3, .int x3), (6, .int y6), (8, .int y8)] [] h) (fun (y4 : Int32) (y5 : Int32) (y6 : Int32) (h : xg_H) => xg_W X 0 0 Y 119 [(0, va_rf (some this)), (1, .int x1), (2, .int x2), (3, .int x3), (4, .int y4), (5, .int y5), (6, .int y6)] [] h) ?_ ?_ ?_ ?_ ?_) (fun hF => ?_)
    · intro y4 y5 y6 h hF
      refine xg_iload (pc := 9) C dX4_duelFrom_9 6 rfl ?_
      refine xg_aload_n (pc := 11) C dX4_duelFrom_11 0 rfl ?_
      refine xg_geti (pc := 12) (C1 := RX4) (T1 := TX4) (ci := 4) (ref := "SandGlasses$Game") C inm_X4_duelFrom_4 rfl (by decide) 6 (by decide) rfl dX4_duelFrom_12 (List.mem_of_getElem? (i := 1) rfl) rfl rfl hthis ?_
      refine xg_icmp_ge (pc := 15) 125 C dX4_duelFrom_15 (by decide) (fun hc => ?_) (fun hc => ?_)
      · have hF := hF.1 hc
        refine xg_iload (pc := 125) C dX4_duelFrom_125 4 rfl ?_
        refine xg_bipush (pc := 127) (v := 16) C dX4_duelFrom_127 (by decide) ?_
        refine xg_imul (pc := 129) C dX4_duelFrom_129 ?_
        refine xg_iconst (pc := 130) (v := 0) C dX4_duelFrom_130 (by decide) ?_
        refine xg_iload (pc := 131) C dX4_duelFrom_131 5 rfl ?_
        refine xg_mmax (pc := 133) C (List.mem_of_getElem? (i := 4) rfl) (List.mem_of_getElem? (i := 5) rfl) (List.mem_of_getElem? (i := 6) rfl) (List.mem_of_getElem? (i := 7) rfl) (by simp only [rm_X4_duelFrom]; omega) (by simp only [rm_X4_duelFrom, List.map, List.sum_cons, List.sum_nil, xg_cat_i, xg_cat_a, xg_cat_l, xg_rf_cat]; omega) (Nat.zero_le _) (Nat.zero_le _) dX4_duelFrom_133 ?_
        refine xg_topi (pc := 136) (fun z1 ez1 => ?_)
        have hF := hF z1 ez1
        refine xg_iadd (pc := 136) C dX4_duelFrom_136 ?_
        exact xg_retI (pc := 137) C E dX4_duelFrom_137 hF
      · have hF := hF.2 hc
        refine xg_aload_n (pc := 18) C dX4_duelFrom_18 0 rfl ?_
        refine xg_getr (pc := 19) (C1 := RX4) (T1 := TX4) (ci := 4) (ref := "SandGlasses$Game") C inm_X4_duelFrom_4 rfl (by decide) 3 (by decide) rfl dX4_duelFrom_19 (List.mem_of_getElem? (i := 2) rfl) rfl rfl hthis ?_
        refine xg_aload_n (pc := 22) C dX4_duelFrom_22 0 rfl ?_
        refine xg_geti (pc := 23) (C1 := RX4) (T1 := TX4) (ci := 4) (ref := "SandGlasses$Game") C inm_X4_duelFrom_4 rfl (by decide) 5 (by decide) rfl dX4_duelFrom_23 (List.mem_of_getElem? (i := 3) rfl) rfl rfl hthis ?_
        refine xg_iload_n (pc := 26) C dX4_duelFrom_26 1 rfl ?_
        refine xg_iload (pc := 27) C dX4_duelFrom_27 6 rfl ?_
        refine xg_cnI (pc := 29) (host := "SandGlasses") C (fun zs => [.int (xg_i h this 5), .int x1, .int y6]) (by decide +kernel) (List.mem_of_getElem? (i := 9) rfl) (List.mem_of_getElem? (i := 8) rfl) (met_X11_turned Y (xg_i h this 5) x1 y6) gX4_duelFrom_X11_turned_n79 rfl ⟨rfl, rfl⟩ nd_X11_turned.2 ⟨Nat.le_of_ble_eq_true rfl, Nat.le_of_ble_eq_true rfl⟩ rfl rfl (by simp [xg_rf_cat, xg_cat_i, xg_cat_l, xg_cat_a]) ⟨Nat.zero_le _, Nat.zero_le _⟩ dX4_duelFrom_29 hF (fun r3 h2 hF => ?_)
        obtain ⟨a4, ha4, hka4, hF⟩ := hF
        refine xg_cvI (pc := 32) (C1 := RX7) (T1 := TX7) (ci := 7) C (fun zs => [.int r3]) ha4 hka4 (by decide) rfl (met_X7_from Y a4 r3) gX4_duelFrom_X7_from rfl ⟨rfl, rfl⟩ nd_X7_from ⟨by simp only [rm_X4_duelFrom, rm_X7_from]; omega, by simp only [rm_X4_duelFrom, rm_X7_from]; omega⟩ rfl rfl (Nat.le_of_ble_eq_true rfl) ⟨Nat.zero_le _, Nat.zero_le _⟩ dX4_duelFrom_32 hF (fun r6 h5 hF => ?_)
        refine xg_istore (pc := 35) (lv2 := [(7, .int r6), (0, va_rf (some this)), (1, .int x1), (2, .int x2), (3, .int x3), (4, .int y4), (5, .int y5), (6, .int y6)]) C dX4_duelFrom_35 9 hnL (by decide) rfl ?_
        refine xg_iload (pc := 37) C dX4_duelFrom_37 0 rfl ?_
        refine xg_bipush (pc := 39) (v := 12) C dX4_duelFrom_39 (by decide) ?_
        refine xg_ishr (pc := 41) C dX4_duelFrom_41 ?_
        refine xg_topi (pc := 42) (fun z7 ez7 => ?_)
        have hF := hF z7 ez7
        refine xg_istore (pc := 42) (lv2 := [(8, .int z7), (7, .int r6), (0, va_rf (some this)), (1, .int x1), (2, .int x2), (3, .int x3), (4, .int y4), (5, .int y5), (6, .int y6)]) C dX4_duelFrom_42 9 hnL (by decide) rfl ?_
        refine xg_iload (pc := 44) C dX4_duelFrom_44 1 rfl ?_
        refine xg_if_eq (pc := 46) 84 C dX4_duelFrom_46 (by decide) (fun hc => ?_) (fun hc => ?_)
        · have hF := hF.1 hc
          refine xg_sub (lv2 := [(0, va_rf (some this)), (1, .int x1), (2, .int x2), (3, .int x3), (4, .int y4), (5, .int y5), (6, .int y6), (8, .int z7)]) [2, 3, 4, 5, 6, 7, 8, 0] rfl ?_
          exact hF
        · have hF := hF.2 hc
          refine xg_iload_n (pc := 49) C dX4_duelFrom_49 4 rfl ?_
          refine xg_iconst (pc := 50) (v := 1) C dX4_duelFrom_50 (by decide) ?_
          refine xg_icmp_le (pc := 51) 84 C dX4_duelFrom_51 (by decide) (fun hc => ?_) (fun hc => ?_)
          · have hF := hF.1 hc
            refine xg_sub (lv2 := [(0, va_rf (some this)), (1, .int x1), (2, .int x2), (3, .int x3), (4, .int y4), (5, .int y5), (6, .int y6), (8, .int z7)]) [2, 3, 4, 5, 6, 7, 8, 0] rfl ?_
            exact hF
          · have hF := hF.2 hc
            refine xg_iload (pc := 54) C dX4_duelFrom_54 0 rfl ?_
            refine xg_aload_n (pc := 56) C dX4_duelFrom_56 2 rfl ?_
            refine xg_iload (pc := 57) C dX4_duelFrom_57 1 rfl ?_
            refine xg_sipush (pc := 59) (v := 4095) C dX4_duelFrom_59 (by decide) ?_
            refine xg_iand (pc := 62) C dX4_duelFrom_62 ?_
            refine xg_iload_n (pc := 63) C dX4_duelFrom_63 4 rfl ?_
            refine xg_iconst (pc := 64) (v := 1) C dX4_duelFrom_64 (by decide) ?_
            refine xg_isub (pc := 65) C dX4_duelFrom_65 ?_
            refine xg_iload_n (pc := 66) C dX4_duelFrom_66 5 rfl ?_
            refine xg_if_ne (pc := 67) 74 C dX4_duelFrom_67 (by decide) (fun hc => ?_) (fun hc => ?_)
            · have hF := hF.1 hc
              refine xg_iconst (pc := 74) (v := 0) C dX4_duelFrom_74 (by decide) ?_
              refine xg_sub (lv2 := [(0, va_rf (some this)), (1, .int x1), (2, .int x2), (3, .int x3), (4, .int y4), (5, .int y5), (6, .int y6)]) [2, 3, 4, 5, 6, 7, 8] rfl ?_
              exact hF
            · have hF := hF.2 hc
              refine xg_iconst (pc := 70) (v := 1) C dX4_duelFrom_70 (by decide) ?_
              refine xg_goto (pc := 71) 75 C dX4_duelFrom_71 (by decide) ?_
              refine xg_sub (lv2 := [(0, va_rf (some this)), (1, .int x1), (2, .int x2), (3, .int x3), (4, .int y4), (5, .int y5), (6, .int y6)]) [2, 3, 4, 5, 6, 7, 8] rfl ?_
              exact hF
    · intro y4 y5 y6 y8 h hF
      refine xg_iload (pc := 84) C dX4_duelFrom_84 5 rfl ?_
      refine xg_iconst (pc := 86) (v := (-1)) C dX4_duelFrom_86 (by decide) ?_
      refine xg_icmp_eq (pc := 87) 111 C dX4_duelFrom_87 (by decide) (fun hc => ?_) (fun hc => ?_)
      · have hF := hF.1 hc
        refine xg_sub (lv2 := [(0, va_rf (some this)), (1, .int x1), (2, .int x2), (3, .int x3), (6, .int y6), (8, .int y8)]) [0, 1, 2, 3, 6, 7] rfl ?_
        exact hF
      · have hF := hF.2 hc
        refine xg_iload_n (pc := 90) C dX4_duelFrom_90 3 rfl ?_
        refine xg_if_eq (pc := 91) 104 C dX4_duelFrom_91 (by decide) (fun hc => ?_) (fun hc => ?_)
        · have hF := hF.1 hc
          refine xg_iload (pc := 104) C dX4_duelFrom_104 7 rfl ?_
          refine xg_iload (pc := 106) C dX4_duelFrom_106 4 rfl ?_
          refine xg_icmp_ge (pc := 108) 119 C dX4_duelFrom_108 (by decide) (fun hc => ?_) (fun hc => ?_)
          · have hF := hF.1 hc
            refine xg_sub (lv2 := [(0, va_rf (some this)), (1, .int x1), (2, .int x2), (3, .int x3), (4, .int y4), (5, .int y5), (6, .int y6)]) [0, 1, 2, 3, 4, 5, 6] rfl ?_
            exact hF
          · have hF := hF.2 hc
            refine xg_sub (lv2 := [(0, va_rf (some this)), (1, .int x1), (2, .int x2), (3, .int x3), (6, .int y6), (8, .int y8)]) [0, 1, 2, 3, 6, 7] rfl ?_
            exact hF
        · have hF := hF.2 hc
          refine xg_iload (pc := 94) C dX4_duelFrom_94 7 rfl ?_
          refine xg_iload (pc := 96) C dX4_duelFrom_96 4 rfl ?_
          refine xg_icmp_le (pc := 98) 119 C dX4_duelFrom_98 (by decide) (fun hc => ?_) (fun hc => ?_)
          · have hF := hF.1 hc
            refine xg_sub (lv2 := [(0, va_rf (some this)), (1, .int x1), (2, .int x2), (3, .int x3), (4, .int y4), (5, .int y5), (6, .int y6)]) [0, 1, 2, 3, 4, 5, 6] rfl ?_
            exact hF
          · have hF := hF.2 hc
            refine xg_goto (pc := 101) 111 C dX4_duelFrom_101 (by decide) ?_
            refine xg_sub (lv2 := [(0, va_rf (some this)), (1, .int x1), (2, .int x2), (3, .int x3), (6, .int y6), (8, .int y8)]) [0, 1, 2, 3, 6, 7] rfl ?_
            exact hF
    · intro y4 y5 y6 s0 s1 s2 s4 h hF
      refine xg_cvI (pc := 75) (C1 := RX4) (T1 := TX4) (ci := 4) C (fun zs => [.int s2, .int s1, .int s0]) rfl hthis (by decide) rfl (ih Y this s2 s1 s0) gX4_duelFrom_X4_duelFrom rfl ⟨rfl, rfl⟩ nd_X4_duelFrom ⟨by simp only [rm_X4_duelFrom]; omega, by simp only [rm_X4_duelFrom]; omega⟩ rfl rfl (Nat.le_of_ble_eq_true rfl) ⟨Nat.zero_le _, Nat.zero_le _⟩ dX4_duelFrom_75 hF (fun r9 h8 hF => ?_)
      refine xg_bipush (pc := 78) (v := 16) C dX4_duelFrom_78 (by decide) ?_
      refine xg_idiv (pc := 80) C dX4_duelFrom_80 (by decide) ?_
      refine xg_iadd (pc := 81) C dX4_duelFrom_81 ?_
      refine xg_topi (pc := 82) (fun z10 ez10 => ?_)
      have hF := hF z10 ez10
      refine xg_istore (pc := 82) (lv2 := [(8, .int z10), (0, va_rf (some this)), (1, .int x1), (2, .int x2), (3, .int x3), (4, .int y4), (5, .int y5), (6, .int y6)]) C dX4_duelFrom_82 9 hnL (by decide) rfl ?_
      refine xg_sub (lv2 := [(0, va_rf (some this)), (1, .int x1), (2, .int x2), (3, .int x3), (4, .int y4), (5, .int y5), (6, .int y6), (8, .int z10)]) [1, 2, 3, 4, 5, 6, 7, 0] rfl ?_
      exact hF
    · intro y6 y8 h hF
      refine xg_iload (pc := 111) C dX4_duelFrom_111 5 rfl ?_
      refine xg_istore (pc := 113) (lv2 := [(4, .int y8), (0, va_rf (some this)), (1, .int x1), (2, .int x2), (3, .int x3), (6, .int y6), (8, .int y8)]) C dX4_duelFrom_113 9 hnL (by decide) rfl ?_
      refine xg_iload (pc := 115) C dX4_duelFrom_115 5 rfl ?_
      refine xg_istore (pc := 117) (lv2 := [(5, .int y6), (4, .int y8), (0, va_rf (some this)), (1, .int x1), (2, .int x2), (3, .int x3), (6, .int y6), (8, .int y8)]) C dX4_duelFrom_117 9 hnL (by decide) rfl ?_
      refine xg_sub (lv2 := [(0, va_rf (some this)), (1, .int x1), (2, .int x2), (3, .int x3), (4, .int y8), (5, .int y6), (6, .int y6)]) [2, 3, 4, 5, 1, 0, 6] rfl ?_
      exact hF
    · intro y4 y5 y6 h hF
      obtain ⟨z11, ez11⟩ : ∃ y : Int32, y = y6 + 1 := ⟨_, rfl⟩
      have hF := hF z11 ez11
      refine xg_iinc (pc := 119) (v := z11) (lv2 := [(6, .int z11), (0, va_rf (some this)), (1, .int x1), (2, .int x2), (3, .int x3), (4, .int y4), (5, .int y5)]) C dX4_duelFrom_119 6 rfl (by rw [ez11]; rfl) 9 hnL (by decide) rfl ?_
      refine xg_goto (pc := 122) 9 C dX4_duelFrom_122 (by decide) ?_
      refine xg_sub (lv2 := [(0, va_rf (some this)), (1, .int x1), (2, .int x2), (3, .int x3), (4, .int y4), (5, .int y5), (6, .int z11)]) [1, 2, 3, 4, 5, 6, 0] rfl ?_
      exact hF
    · skip
      refine xg_iconst (pc := 0) (v := 0) C dX4_duelFrom_0 (by decide) ?_
      refine xg_istore (pc := 1) (lv2 := [(4, .int 0), (0, va_rf (some this)), (1, .int x1), (2, .int x2), (3, .int x3)]) C dX4_duelFrom_1 9 hnL (by decide) rfl ?_
      refine xg_iconst (pc := 3) (v := (-1)) C dX4_duelFrom_3 (by decide) ?_
      refine xg_istore (pc := 4) (lv2 := [(5, .int (-1)), (4, .int 0), (0, va_rf (some this)), (1, .int x1), (2, .int x2), (3, .int x3)]) C dX4_duelFrom_4 9 hnL (by decide) rfl ?_
      refine xg_iconst (pc := 6) (v := 0) C dX4_duelFrom_6 (by decide) ?_
      refine xg_istore (pc := 7) (lv2 := [(6, .int 0), (5, .int (-1)), (4, .int 0), (0, va_rf (some this)), (1, .int x1), (2, .int x2), (3, .int x3)]) C dX4_duelFrom_7 9 hnL (by decide) rfl ?_
      refine xg_sub (lv2 := [(0, va_rf (some this)), (1, .int x1), (2, .int x2), (3, .int x3), (4, .int 0), (5, .int (-1)), (6, .int 0)]) [3, 4, 5, 6, 2, 1, 0] rfl ?_
      exact hF
def rm_X4_bestOfDuel : Room := { frames := 10, cells := 0, slots := 0, locals := 265 }
theorem nd_X4_bestOfDuel : yX4_bestOfDuel.cls = RX4 ∧ yX4_bestOfDuel.cls ≠ "java/lang/invoke/MethodHandle" ∧ yX4_bestOfDuel.cls ≠ "java/lang/invoke/VarHandle" ∧ (parseMethodDescriptor yX4_bestOfDuel.desc).map (fun d => d.parameters.length) = some 1 := by decide +kernel
theorem inm_X4_bestOfDuel_4 : ∀ w ∈ u_ws RX4 TX4 (xg_N 4), w ∈ wsX4_bestOfDuel := fun _ h9 => List.mem_cons_of_mem _ (List.mem_append_left _ (List.mem_append_right _ h9))
set_option maxHeartbeats 4000000 in
set_option maxRecDepth 100000 in
theorem met_X4_bestOfDuel (Y : xg_Y) (this : Nat) (x1 : Int32) : xg_MI yX4_bestOfDuel wsX4_bestOfDuel rm_X4_bestOfDuel Y (fun zs => [va_rf (some this), .int x1]) (fun Q h => wp_X4_bestOfDuel Y Q this x1 h) := by
  refine xg_startI (cc := cX4_bestOfDuel) (maxL := 2) (own := RX4) (by decide) rfl rfl (fun zs => Nat.le_of_ble_eq_true rfl) (fun X Q h C hnL E hw => ?_)
  unfold wp_X4_bestOfDuel at hw
  obtain ⟨hthis, hw⟩ := hw
  refine xg_sub (lv2 := [(0, va_rf (some this)), (1, .int x1)]) [0, 1] rfl ?_
  have hF := hw
  refine xg_aload_n (pc := 0) C dX4_bestOfDuel_0 0 rfl ?_
  refine xg_aload_n (pc := 1) C dX4_bestOfDuel_1 0 rfl ?_
  refine xg_geti (pc := 2) (C1 := RX4) (T1 := TX4) (ci := 4) (ref := "SandGlasses$Game") C inm_X4_bestOfDuel_4 rfl (by decide) 4 (by decide) rfl dX4_bestOfDuel_2 (List.mem_of_getElem? (i := 1) rfl) rfl rfl hthis ?_
  refine xg_iload_n (pc := 5) C dX4_bestOfDuel_5 1 rfl ?_
  refine xg_iconst (pc := 6) (v := 4) C dX4_bestOfDuel_6 (by decide) ?_
  refine xg_mmin (pc := 7) C (List.mem_of_getElem? (i := 2) rfl) (List.mem_of_getElem? (i := 3) rfl) (List.mem_of_getElem? (i := 4) rfl) (List.mem_of_getElem? (i := 5) rfl) (Nat.le_of_ble_eq_true rfl) (Nat.le_of_ble_eq_true rfl) (Nat.zero_le _) (Nat.zero_le _) dX4_bestOfDuel_7 ?_
  refine xg_topi (pc := 10) (fun z1 ez1 => ?_)
  have hF := hF z1 ez1
  refine xg_iconst (pc := 10) (v := 1) C dX4_bestOfDuel_10 (by decide) ?_
  refine xg_cvI (pc := 11) (C1 := RX4) (T1 := TX4) (ci := 4) C (fun zs => [.int (xg_i h this 4), .int z1, .int 1]) rfl hthis (by decide) rfl (met_X4_duelFrom 6 Y this (xg_i h this 4) z1 1) gX4_bestOfDuel_X4_duelFrom rfl ⟨rfl, rfl⟩ nd_X4_duelFrom ⟨Nat.le_of_ble_eq_true rfl, Nat.le_of_ble_eq_true rfl⟩ rfl rfl (Nat.le_of_ble_eq_true rfl) ⟨Nat.zero_le _, Nat.zero_le _⟩ dX4_bestOfDuel_11 hF (fun r3 h2 hF => ?_)
  exact xg_retI (pc := 14) C E dX4_bestOfDuel_14 hF
def rm_X11_duel : Room := { frames := 11, cells := 0, slots := 0, locals := 286 }
theorem nd_X11_duel : yX11_duel.cls = RX11 ∧ yX11_duel.cls ≠ "java/lang/invoke/MethodHandle" ∧ yX11_duel.cls ≠ "java/lang/invoke/VarHandle" ∧ (parseMethodDescriptor yX11_duel.desc).map (fun d => d.parameters.length) = some 3 := by decide +kernel
theorem inm_X11_duel_11 : ∀ w ∈ u_ws RX11 TX11 (xg_N 11), w ∈ wsX11_duel := fun _ h9 => List.mem_cons_of_mem _ (List.mem_append_left _ (List.mem_append_left _ (List.mem_append_left _ (List.mem_append_left _ (List.mem_append_right _ h9)))))
set_option maxHeartbeats 4000000 in
set_option maxRecDepth 100000 in
theorem met_X11_duel (Y : xg_Y) (this : Nat) (x1 : Int32) (x2 : Int32) (x3 : Int32) : xg_MI yX11_duel wsX11_duel rm_X11_duel Y (fun zs => [va_rf (some this), .int x1, .int x2, .int x3]) (fun Q h => wp_X11_duel Y Q this x1 x2 x3 h) := by
  refine xg_startI (cc := cX11_duel) (maxL := 6) (own := RX11) (by decide) rfl rfl (fun zs => Nat.le_of_ble_eq_true rfl) (fun X Q h C hnL E hw => ?_)
  unfold wp_X11_duel at hw
  obtain ⟨hthis, hw⟩ := hw
  refine xg_sub (lv2 := [(0, va_rf (some this)), (1, .int x1), (2, .int x2), (3, .int x3)]) [0, 1, 2, 3] rfl ?_
  have hF := hw
  refine xg_aload_n (pc := 0) C dX11_duel_0 0 rfl ?_
  refine xg_getr (pc := 1) (C1 := RX11) (T1 := TX11) (ci := 11) (ref := "SandGlasses") C inm_X11_duel_11 rfl (by decide) 0 (by decide) rfl dX11_duel_1 (List.mem_of_getElem? (i := 1) rfl) rfl rfl hthis ?_
  refine xg_iconst (pc := 4) (v := 0) C dX11_duel_4 (by decide) ?_
  refine xg_iload_n (pc := 5) C dX11_duel_5 1 rfl ?_
  obtain ⟨a1, ha1, hka1, hF⟩ := hF
  refine xg_cvR (pc := 6) (C1 := RX9) (T1 := TX9) (ci := 9) C (fun zs => [.int 0, .int x1]) ha1 hka1 (by decide) rfl (met_X9_find Y a1 0 x1) gX11_duel_X9_find rfl ⟨rfl, rfl⟩ nd_X9_find ⟨Nat.le_of_ble_eq_true rfl, Nat.le_of_ble_eq_true rfl⟩ rfl rfl (Nat.le_of_ble_eq_true rfl) ⟨Nat.zero_le _, Nat.zero_le _⟩ dX11_duel_6 hF (fun r3 h2 hF => ?_)
  refine xg_astore (pc := 9) (lv2 := [(4, va_rf r3), (0, va_rf (some this)), (1, .int x1), (2, .int x2), (3, .int x3)]) C dX11_duel_9 6 hnL (by decide) rfl ?_
  refine xg_aload (pc := 11) C dX11_duel_11 0 rfl ?_
  refine xg_ifnull (pc := 13) 25 C dX11_duel_13 (by decide) (fun hc => ?_) (fun a4 ha4 => ?_)
  · have hF := hF.1 hc
    refine xg_bipush (pc := 25) (v := (-9)) C dX11_duel_25 (by decide) ?_
    exact xg_retI (pc := 27) C E dX11_duel_27 hF
  · have hF := hF.2 a4 ha4
    refine xg_iload_n (pc := 16) C dX11_duel_16 3 rfl ?_
    refine xg_if_lt (pc := 17) 25 C dX11_duel_17 (by decide) (fun hc => ?_) (fun hc => ?_)
    · have hF := hF.1 hc
      refine xg_bipush (pc := 25) (v := (-9)) C dX11_duel_25 (by decide) ?_
      exact xg_retI (pc := 27) C E dX11_duel_27 hF
    · have hF := hF.2 hc
      refine xg_iload_n (pc := 20) C dX11_duel_20 3 rfl ?_
      refine xg_iconst (pc := 21) (v := 4) C dX11_duel_21 (by decide) ?_
      refine xg_icmp_le (pc := 22) 28 C dX11_duel_22 (by decide) (fun hc => ?_) (fun hc => ?_)
      · have hF := hF.1 hc
        refine xg_iload_n (pc := 28) C dX11_duel_28 3 rfl ?_
        refine xg_if_ne (pc := 29) 42 C dX11_duel_29 (by decide) (fun hc => ?_) (fun hc => ?_)
        · have hF := hF.1 hc
          refine xg_aload_n (pc := 42) C dX11_duel_42 1 rfl ?_
          refine xg_getr (pc := 43) (C1 := RX11) (T1 := TX11) (ci := 11) (ref := "SandGlasses") C inm_X11_duel_11 rfl (by decide) 6 (by decide) rfl dX11_duel_43 (List.mem_of_getElem? (i := 2) rfl) rfl rfl hthis ?_
          refine xg_aload (pc := 46) C dX11_duel_46 0 rfl ?_
          obtain ⟨a5, ha5, hka5, hF⟩ := hF
          refine xg_cvV (pc := 48) (C1 := RX4) (T1 := TX4) (ci := 4) C (fun zs => [va_rf r3]) ha5 hka5 (by decide) rfl (met_X4_begin Y a5 r3) gX11_duel_X4_begin rfl ⟨rfl, rfl⟩ nd_X4_begin ⟨Nat.le_of_ble_eq_true rfl, Nat.le_of_ble_eq_true rfl⟩ rfl rfl (Nat.le_of_ble_eq_true rfl) ⟨Nat.zero_le _, Nat.zero_le _⟩ dX11_duel_48 hF (fun h6 hF => ?_)
          refine xg_aload_n (pc := 51) C dX11_duel_51 1 rfl ?_
          refine xg_getr (pc := 52) (C1 := RX11) (T1 := TX11) (ci := 11) (ref := "SandGlasses") C inm_X11_duel_11 rfl (by decide) 6 (by decide) rfl dX11_duel_52 (List.mem_of_getElem? (i := 2) rfl) rfl rfl hthis ?_
          refine xg_iload_n (pc := 55) C dX11_duel_55 3 rfl ?_
          obtain ⟨a7, ha7, hka7, hF⟩ := hF
          refine xg_cvI (pc := 56) (C1 := RX4) (T1 := TX4) (ci := 4) C (fun zs => [.int x2]) ha7 hka7 (by decide) rfl (met_X4_bestOfDuel Y a7 x2) gX11_duel_X4_bestOfDuel rfl ⟨rfl, rfl⟩ nd_X4_bestOfDuel ⟨Nat.le_of_ble_eq_true rfl, Nat.le_of_ble_eq_true rfl⟩ rfl rfl (Nat.le_of_ble_eq_true rfl) ⟨Nat.zero_le _, Nat.zero_le _⟩ dX11_duel_56 hF (fun r9 h8 hF => ?_)
          refine xg_istore (pc := 59) (lv2 := [(5, .int r9), (4, va_rf r3), (0, va_rf (some this)), (1, .int x1), (2, .int x2), (3, .int x3)]) C dX11_duel_59 6 hnL (by decide) (by cases r3 <;> rfl) ?_
          refine xg_iload_n (pc := 61) C dX11_duel_61 5 rfl ?_
          refine xg_if_eq (pc := 62) 73 C dX11_duel_62 (by decide) (fun hc => ?_) (fun hc => ?_)
          · have hF := hF.1 hc
            refine xg_iload (pc := 73) C dX11_duel_73 0 rfl ?_
            refine xg_bipush (pc := 75) (v := 16) C dX11_duel_75 (by decide) ?_
            refine xg_idiv (pc := 77) C dX11_duel_77 (by decide) ?_
            exact xg_retI (pc := 78) C E dX11_duel_78 hF
          · have hF := hF.2 hc
            refine xg_iload (pc := 65) C dX11_duel_65 0 rfl ?_
            refine xg_bipush (pc := 67) (v := 16) C dX11_duel_67 (by decide) ?_
            refine xg_irem (pc := 69) C dX11_duel_69 (by decide) ?_
            refine xg_goto (pc := 70) 78 C dX11_duel_70 (by decide) ?_
            exact xg_retI (pc := 78) C E dX11_duel_78 hF
        · have hF := hF.2 hc
          refine xg_iload_n (pc := 32) C dX11_duel_32 4 rfl ?_
          refine xg_if_eq (pc := 33) 40 C dX11_duel_33 (by decide) (fun hc => ?_) (fun hc => ?_)
          · have hF := hF.1 hc
            refine xg_iconst (pc := 40) (v := 0) C dX11_duel_40 (by decide) ?_
            exact xg_retI (pc := 41) C E dX11_duel_41 hF
          · have hF := hF.2 hc
            refine xg_iconst (pc := 36) (v := (-1)) C dX11_duel_36 (by decide) ?_
            refine xg_goto (pc := 37) 41 C dX11_duel_37 (by decide) ?_
            exact xg_retI (pc := 41) C E dX11_duel_41 hF
      · have hF := hF.2 hc
        refine xg_bipush (pc := 25) (v := (-9)) C dX11_duel_25 (by decide) ?_
        exact xg_retI (pc := 27) C E dX11_duel_27 hF
def rm_X11_end : Room := { frames := 0, cells := 0, slots := 0, locals := 0 }
theorem nd_X11_end : yX11_end.cls = RX11 ∧ yX11_end.cls ≠ "java/lang/invoke/MethodHandle" ∧ yX11_end.cls ≠ "java/lang/invoke/VarHandle" ∧ (parseMethodDescriptor yX11_end.desc).map (fun d => d.parameters.length) = some 1 := by decide +kernel
theorem inm_X11_end_9 : ∀ w ∈ u_ws RX9 TX9 (xg_N 9), w ∈ wsX11_end := fun _ h9 => List.mem_cons_of_mem _ (List.mem_append_right _ h9)
theorem inm_X11_end_11 : ∀ w ∈ u_ws RX11 TX11 (xg_N 11), w ∈ wsX11_end := fun _ h9 => List.mem_cons_of_mem _ (List.mem_append_left _ (List.mem_append_right _ h9))
set_option maxHeartbeats 4000000 in
set_option maxRecDepth 100000 in
theorem met_X11_end (Y : xg_Y) (this : Nat) (x1 : Int32) : xg_MI yX11_end wsX11_end rm_X11_end Y (fun zs => [va_rf (some this), .int x1]) (fun Q h => wp_X11_end Y Q this x1 h) := by
  refine xg_startI (cc := cX11_end) (maxL := 2) (own := RX11) (by decide) rfl rfl (fun zs => Nat.le_of_ble_eq_true rfl) (fun X Q h C hnL E hw => ?_)
  unfold wp_X11_end at hw
  obtain ⟨hthis, hw⟩ := hw
  refine xg_sub (lv2 := [(0, va_rf (some this)), (1, .int x1)]) [0, 1] rfl ?_
  have hF := hw
  refine xg_iload_n (pc := 0) C dX11_end_0 1 rfl ?_
  refine xg_if_lt (pc := 1) 15 C dX11_end_1 (by decide) (fun hc => ?_) (fun hc => ?_)
  · have hF := hF.1 hc
    refine xg_iconst (pc := 15) (v := (-1)) C dX11_end_15 (by decide) ?_
    exact xg_retI (pc := 16) C E dX11_end_16 hF
  · have hF := hF.2 hc
    refine xg_iload_n (pc := 4) C dX11_end_4 1 rfl ?_
    refine xg_aload_n (pc := 5) C dX11_end_5 0 rfl ?_
    refine xg_getr (pc := 6) (C1 := RX11) (T1 := TX11) (ci := 11) (ref := "SandGlasses") C inm_X11_end_11 rfl (by decide) 0 (by decide) rfl dX11_end_6 (List.mem_of_getElem? (i := 1) rfl) rfl rfl hthis ?_
    obtain ⟨a1, ha1, hka1, hF⟩ := hF
    refine xg_geti (pc := 9) (C1 := RX9) (T1 := TX9) (ci := 9) (ref := "SandGlasses$Told") C inm_X11_end_9 rfl (by decide) 1 (by decide) rfl dX11_end_9 (List.mem_of_getElem? (i := 2) rfl) rfl ha1 hka1 ?_
    refine xg_icmp_le (pc := 12) 17 C dX11_end_12 (by decide) (fun hc => ?_) (fun hc => ?_)
    · have hF := hF.1 hc
      refine xg_aload_n (pc := 17) C dX11_end_17 0 rfl ?_
      refine xg_getr (pc := 18) (C1 := RX11) (T1 := TX11) (ci := 11) (ref := "SandGlasses") C inm_X11_end_11 rfl (by decide) 0 (by decide) rfl dX11_end_18 (List.mem_of_getElem? (i := 1) rfl) rfl rfl hthis ?_
      refine xg_iload_n (pc := 21) C dX11_end_21 1 rfl ?_
      refine xg_puti (pc := 22) (C1 := RX9) (T1 := TX9) (ci := 9) (ref := "SandGlasses$Told") C inm_X11_end_9 rfl (by decide) tyX9 tyX9_ok nmX9 1 (by decide) rfl dX11_end_22 (List.mem_of_getElem? (i := 2) rfl) rfl rfl (tyX9_ok 1 (by decide)) ha1 hka1 (fun h2 eh2 => ?_)
      have hF := hF h2 eh2
      refine xg_iload_n (pc := 25) C dX11_end_25 1 rfl ?_
      exact xg_retI (pc := 26) C E dX11_end_26 hF
    · have hF := hF.2 hc
      refine xg_iconst (pc := 15) (v := (-1)) C dX11_end_15 (by decide) ?_
      exact xg_retI (pc := 16) C E dX11_end_16 hF
def rm_X11_fact : Room := { frames := 1, cells := 0, slots := 0, locals := 22 }
theorem nd_X11_fact : yX11_fact.cls = RX11 ∧ yX11_fact.cls ≠ "java/lang/invoke/MethodHandle" ∧ yX11_fact.cls ≠ "java/lang/invoke/VarHandle" ∧ (parseMethodDescriptor yX11_fact.desc).map (fun d => d.parameters.length) = some 3 := by decide +kernel
theorem inm_X11_fact_11 : ∀ w ∈ u_ws RX11 TX11 (xg_N 11), w ∈ wsX11_fact := fun _ h9 => List.mem_cons_of_mem _ (List.mem_append_left _ (List.mem_append_left _ (List.mem_append_right _ h9)))
set_option maxHeartbeats 4000000 in
set_option maxRecDepth 100000 in
theorem met_X11_fact (Y : xg_Y) (this : Nat) (x1 : Int32) (x2 : Int32) (x3 : Int32) : xg_MI yX11_fact wsX11_fact rm_X11_fact Y (fun zs => [va_rf (some this), .int x1, .int x2, .int x3]) (fun Q h => wp_X11_fact Y Q this x1 x2 x3 h) := by
  refine xg_startI (cc := cX11_fact) (maxL := 4) (own := RX11) (by decide) rfl rfl (fun zs => Nat.le_of_ble_eq_true rfl) (fun X Q h C hnL E hw => ?_)
  unfold wp_X11_fact at hw
  obtain ⟨hthis, hw⟩ := hw
  refine xg_sub (lv2 := [(0, va_rf (some this)), (1, .int x1), (2, .int x2), (3, .int x3)]) [0, 1, 2, 3] rfl ?_
  have hF := hw
  refine xg_aload_n (pc := 0) C dX11_fact_0 0 rfl ?_
  refine xg_getr (pc := 1) (C1 := RX11) (T1 := TX11) (ci := 11) (ref := "SandGlasses") C inm_X11_fact_11 rfl (by decide) 0 (by decide) rfl dX11_fact_1 (List.mem_of_getElem? (i := 1) rfl) rfl rfl hthis ?_
  refine xg_iconst (pc := 4) (v := 2) C dX11_fact_4 (by decide) ?_
  refine xg_iload_n (pc := 5) C dX11_fact_5 1 rfl ?_
  obtain ⟨a1, ha1, hka1, hF⟩ := hF
  refine xg_cvR (pc := 6) (C1 := RX9) (T1 := TX9) (ci := 9) C (fun zs => [.int 2, .int x1]) ha1 hka1 (by decide) rfl (met_X9_find Y a1 2 x1) gX11_fact_X9_find rfl ⟨rfl, rfl⟩ nd_X9_find ⟨Nat.le_of_ble_eq_true rfl, Nat.le_of_ble_eq_true rfl⟩ rfl rfl (Nat.le_of_ble_eq_true rfl) ⟨Nat.zero_le _, Nat.zero_le _⟩ dX11_fact_6 hF (fun r3 h2 hF => ?_)
  refine xg_iload_n (pc := 9) C dX11_fact_9 2 rfl ?_
  refine xg_iload_n (pc := 10) C dX11_fact_10 3 rfl ?_
  refine xg_csI (pc := 11) C (fun zs => [va_rf r3, .int x2, .int x3]) (met_X11_lineOf Y r3 x2 x3) gX11_fact_X11_lineOf rfl ⟨rfl, rfl⟩ nd_X11_lineOf.2 ⟨Nat.le_of_ble_eq_true rfl, Nat.le_of_ble_eq_true rfl⟩ rfl rfl (Nat.le_of_ble_eq_true rfl) ⟨Nat.zero_le _, Nat.zero_le _⟩ dX11_fact_11 hF (fun r5 h4 hF => ?_)
  exact xg_retI (pc := 14) C E dX11_fact_14 hF
def rm_X11_fault : Room := { frames := 0, cells := 0, slots := 0, locals := 0 }
theorem nd_X11_fault : yX11_fault.cls = RX11 ∧ yX11_fault.cls ≠ "java/lang/invoke/MethodHandle" ∧ yX11_fault.cls ≠ "java/lang/invoke/VarHandle" ∧ (parseMethodDescriptor yX11_fault.desc).map (fun d => d.parameters.length) = some 1 := by decide +kernel
theorem inm_X11_fault_9 : ∀ w ∈ u_ws RX9 TX9 (xg_N 9), w ∈ wsX11_fault := fun _ h9 => List.mem_cons_of_mem _ (List.mem_append_right _ h9)
theorem inm_X11_fault_11 : ∀ w ∈ u_ws RX11 TX11 (xg_N 11), w ∈ wsX11_fault := fun _ h9 => List.mem_cons_of_mem _ (List.mem_append_left _ (List.mem_append_right _ h9))
set_option maxHeartbeats 4000000 in
set_option maxRecDepth 100000 in
theorem met_X11_fault (Y : xg_Y) (this : Nat) (x1 : Int32) : xg_MI yX11_fault wsX11_fault rm_X11_fault Y (fun zs => [va_rf (some this), .int x1]) (fun Q h => wp_X11_fault Y Q this x1 h) := by
  refine xg_startI (cc := cX11_fault) (maxL := 2) (own := RX11) (by decide) rfl rfl (fun zs => Nat.le_of_ble_eq_true rfl) (fun X Q h C hnL E hw => ?_)
  unfold wp_X11_fault at hw
  obtain ⟨hthis, hw⟩ := hw
  refine xg_sub (lv2 := [(0, va_rf (some this)), (1, .int x1)]) [0, 1] rfl ?_
  have hF := hw
  refine xg_iload_n (pc := 0) C dX11_fault_0 1 rfl ?_
  by_cases hs0 : x1 = 0
  · have hF := hF.1 hs0
    refine xg_look (pc := 1) 28 C dX11_fault_1 (by decide) (off := 27) (by rw [hs0]; rfl) (by decide) ?_
    refine xg_aload_n (pc := 28) C dX11_fault_28 0 rfl ?_
    refine xg_getr (pc := 29) (C1 := RX11) (T1 := TX11) (ci := 11) (ref := "SandGlasses") C inm_X11_fault_11 rfl (by decide) 0 (by decide) rfl dX11_fault_29 (List.mem_of_getElem? (i := 1) rfl) rfl rfl hthis ?_
    obtain ⟨a1, ha1, hka1, hF⟩ := hF
    refine xg_geti (pc := 32) (C1 := RX9) (T1 := TX9) (ci := 9) (ref := "SandGlasses$Told") C inm_X11_fault_9 rfl (by decide) 2 (by decide) rfl dX11_fault_32 (List.mem_of_getElem? (i := 2) rfl) rfl ha1 hka1 ?_
    exact xg_retI (pc := 35) C E dX11_fault_35 hF
  have hF := hF.2
  by_cases hs1 : x1 = 1
  · have hF := hF.1 hs1
    refine xg_look (pc := 1) 36 C dX11_fault_1 (by decide) (off := 35) (by rw [hs1]; rfl) (by decide) ?_
    refine xg_aload_n (pc := 36) C dX11_fault_36 0 rfl ?_
    refine xg_getr (pc := 37) (C1 := RX11) (T1 := TX11) (ci := 11) (ref := "SandGlasses") C inm_X11_fault_11 rfl (by decide) 0 (by decide) rfl dX11_fault_37 (List.mem_of_getElem? (i := 1) rfl) rfl rfl hthis ?_
    obtain ⟨a2, ha2, hka2, hF⟩ := hF
    refine xg_geti (pc := 40) (C1 := RX9) (T1 := TX9) (ci := 9) (ref := "SandGlasses$Told") C inm_X11_fault_9 rfl (by decide) 3 (by decide) rfl dX11_fault_40 (List.mem_of_getElem? (i := 3) rfl) rfl ha2 hka2 ?_
    exact xg_retI (pc := 43) C E dX11_fault_43 hF
  have hF := hF.2
  have hF := hF hs0 hs1
  refine xg_look (pc := 1) 44 C dX11_fault_1 (by decide) (off := 43) (xg_lkd hs0 hs1) (by decide) ?_
  refine xg_iconst (pc := 44) (v := (-1)) C dX11_fault_44 (by decide) ?_
  exact xg_retI (pc := 45) C E dX11_fault_45 hF
def rm_X9_push : Room := { frames := 0, cells := 0, slots := 0, locals := 0 }
theorem nd_X9_push : yX9_push.cls = RX9 ∧ yX9_push.cls ≠ "java/lang/invoke/MethodHandle" ∧ yX9_push.cls ≠ "java/lang/invoke/VarHandle" ∧ (parseMethodDescriptor yX9_push.desc).map (fun d => d.parameters.length) = some 1 := by decide +kernel
theorem inm_X9_push_9 : ∀ w ∈ u_ws RX9 TX9 (xg_N 9), w ∈ wsX9_push := fun _ h9 => List.mem_cons_of_mem _ (List.mem_append_right _ h9)
set_option maxHeartbeats 4000000 in
set_option maxRecDepth 100000 in
theorem met_X9_push (Y : xg_Y) (this : Nat) (x1 : Int32) : xg_MV yX9_push wsX9_push rm_X9_push Y (fun zs => [va_rf (some this), .int x1]) (fun Q h => wp_X9_push Y Q this x1 h) := by
  refine xg_startV (cc := cX9_push) (maxL := 3) (own := RX9) (by decide) rfl rfl (fun zs => Nat.le_of_ble_eq_true rfl) (fun X Q h C hnL E hw => ?_)
  unfold wp_X9_push at hw
  obtain ⟨hthis, hw⟩ := hw
  refine xg_sub (lv2 := [(0, va_rf (some this)), (1, .int x1)]) [0, 1] rfl ?_
  refine mg_use (hw (fun (y2 : Int32) (h : xg_H) => xg_W X 0 0 Y 3 [(0, va_rf (some this)), (1, .int x1), (2, .int y2)] [] h) (fun (y2 : Int32) (h : xg_H) => xg_W X 0 0 Y 43 [(0, va_rf (some this)), (1, .int x1), (2, .int y2)] [] h) ?_ ?_) (fun hF => ?_)
  · intro y2 h hF
    refine xg_iload_n (pc := 3) C dX9_push_3 2 rfl ?_
    refine xg_if_lt (pc := 4) 49 C dX9_push_4 (by decide) (fun hc => ?_) (fun hc => ?_)
    · have hF := hF.1 hc
      exact xg_retV (pc := 49) C E dX9_push_49 hF
    · have hF := hF.2 hc
      refine xg_aload_n (pc := 7) C dX9_push_7 0 rfl ?_
      refine xg_geti (pc := 8) (C1 := RX9) (T1 := TX9) (ci := 9) (ref := "SandGlasses$Told") C inm_X9_push_9 rfl (by decide) 1 (by decide) rfl dX9_push_8 (List.mem_of_getElem? (i := 1) rfl) rfl rfl hthis ?_
      refine xg_sipush (pc := 11) (v := 600) C dX9_push_11 (by decide) ?_
      refine xg_icmp_ge (pc := 14) 43 C dX9_push_14 (by decide) (fun hc => ?_) (fun hc => ?_)
      · have hF := hF.1 hc
        exact hF
      · have hF := hF.2 hc
        refine xg_aload_n (pc := 17) C dX9_push_17 0 rfl ?_
        refine xg_getr (pc := 18) (C1 := RX9) (T1 := TX9) (ci := 9) (ref := "SandGlasses$Told") C inm_X9_push_9 rfl (by decide) 0 (by decide) rfl dX9_push_18 (List.mem_of_getElem? (i := 2) rfl) rfl rfl hthis ?_
        refine xg_aload_n (pc := 21) C dX9_push_21 0 rfl ?_
        refine xg_geti (pc := 22) (C1 := RX9) (T1 := TX9) (ci := 9) (ref := "SandGlasses$Told") C inm_X9_push_9 rfl (by decide) 1 (by decide) rfl dX9_push_22 (List.mem_of_getElem? (i := 1) rfl) rfl rfl hthis ?_
        refine xg_iload_n (pc := 25) C dX9_push_25 1 rfl ?_
        refine xg_iload_n (pc := 26) C dX9_push_26 2 rfl ?_
        refine xg_iushr (pc := 27) C dX9_push_27 ?_
        refine xg_sipush (pc := 28) (v := 255) C dX9_push_28 (by decide) ?_
        refine xg_iand (pc := 31) C dX9_push_31 ?_
        obtain ⟨a1, ha1, hka1, hF⟩ := hF
        obtain ⟨hi, hF⟩ := hF
        refine xg_iast (pc := 32) C ha1 hka1 hi dX9_push_32 (fun h2 eh2 => ?_)
        have hF := hF h2 eh2
        refine xg_aload_n (pc := 33) C dX9_push_33 0 rfl ?_
        refine xg_dup (pc := 34) C dX9_push_34 (xg_rf_cat _) ?_
        refine xg_geti (pc := 35) (C1 := RX9) (T1 := TX9) (ci := 9) (ref := "SandGlasses$Told") C inm_X9_push_9 rfl (by decide) 1 (by decide) rfl dX9_push_35 (List.mem_of_getElem? (i := 1) rfl) rfl rfl hthis ?_
        refine xg_iconst (pc := 38) (v := 1) C dX9_push_38 (by decide) ?_
        refine xg_iadd (pc := 39) C dX9_push_39 ?_
        refine xg_puti (pc := 40) (C1 := RX9) (T1 := TX9) (ci := 9) (ref := "SandGlasses$Told") C inm_X9_push_9 rfl (by decide) tyX9 tyX9_ok nmX9 1 (by decide) rfl dX9_push_40 (List.mem_of_getElem? (i := 1) rfl) rfl rfl (tyX9_ok 1 (by decide)) rfl hthis (fun h3 eh3 => ?_)
        have hF := hF h3 eh3
        exact hF
  · intro y2 h hF
    obtain ⟨z4, ez4⟩ : ∃ y : Int32, y = y2 + (-8) := ⟨_, rfl⟩
    have hF := hF z4 ez4
    refine xg_iinc (pc := 43) (v := z4) (lv2 := [(2, .int z4), (0, va_rf (some this)), (1, .int x1)]) C dX9_push_43 2 rfl (by rw [ez4]; rfl) 3 hnL (by decide) rfl ?_
    refine xg_goto (pc := 46) 3 C dX9_push_46 (by decide) ?_
    refine xg_sub (lv2 := [(0, va_rf (some this)), (1, .int x1), (2, .int z4)]) [1, 2, 0] rfl ?_
    exact hF
  · skip
    refine xg_bipush (pc := 0) (v := 24) C dX9_push_0 (by decide) ?_
    refine xg_istore_n (pc := 2) (lv2 := [(2, .int 24), (0, va_rf (some this)), (1, .int x1)]) C dX9_push_2 3 hnL (by decide) rfl ?_
    refine xg_sub (lv2 := [(0, va_rf (some this)), (1, .int x1), (2, .int 24)]) [1, 2, 0] rfl ?_
    exact hF
def rm_X11_feed : Room := { frames := 1, cells := 0, slots := 0, locals := 22 }
theorem nd_X11_feed : yX11_feed.cls = RX11 ∧ yX11_feed.cls ≠ "java/lang/invoke/MethodHandle" ∧ yX11_feed.cls ≠ "java/lang/invoke/VarHandle" ∧ (parseMethodDescriptor yX11_feed.desc).map (fun d => d.parameters.length) = some 5 := by decide +kernel
theorem inm_X11_feed_9 : ∀ w ∈ u_ws RX9 TX9 (xg_N 9), w ∈ wsX11_feed := fun _ h9 => List.mem_cons_of_mem _ (List.mem_append_right _ h9)
theorem inm_X11_feed_11 : ∀ w ∈ u_ws RX11 TX11 (xg_N 11), w ∈ wsX11_feed := fun _ h9 => List.mem_cons_of_mem _ (List.mem_append_left _ (List.mem_append_right _ h9))
set_option maxHeartbeats 4000000 in
set_option maxRecDepth 100000 in
theorem met_X11_feed (Y : xg_Y) (this : Nat) (x1 : Int32) (x2 : Int32) (x3 : Int32) (x4 : Int32) (x5 : Int32) : xg_MI yX11_feed wsX11_feed rm_X11_feed Y (fun zs => [va_rf (some this), .int x1, .int x2, .int x3, .int x4, .int x5]) (fun Q h => wp_X11_feed Y Q this x1 x2 x3 x4 x5 h) := by
  refine xg_startI (cc := cX11_feed) (maxL := 6) (own := RX11) (by decide) rfl rfl (fun zs => Nat.le_of_ble_eq_true rfl) (fun X Q h C hnL E hw => ?_)
  unfold wp_X11_feed at hw
  obtain ⟨hthis, hw⟩ := hw
  refine xg_sub (lv2 := [(0, va_rf (some this)), (1, .int x1), (2, .int x2), (3, .int x3), (4, .int x4), (5, .int x5)]) [0, 1, 2, 3, 4, 5] rfl ?_
  have hF := hw
  refine xg_aload_n (pc := 0) C dX11_feed_0 0 rfl ?_
  refine xg_getr (pc := 1) (C1 := RX11) (T1 := TX11) (ci := 11) (ref := "SandGlasses") C inm_X11_feed_11 rfl (by decide) 0 (by decide) rfl dX11_feed_1 (List.mem_of_getElem? (i := 1) rfl) rfl rfl hthis ?_
  obtain ⟨a1, ha1, hka1, hF⟩ := hF
  refine xg_geti (pc := 4) (C1 := RX9) (T1 := TX9) (ci := 9) (ref := "SandGlasses$Told") C inm_X11_feed_9 rfl (by decide) 1 (by decide) rfl dX11_feed_4 (List.mem_of_getElem? (i := 2) rfl) rfl ha1 hka1 ?_
  refine xg_bipush (pc := 7) (v := 20) C dX11_feed_7 (by decide) ?_
  refine xg_iadd (pc := 9) C dX11_feed_9 ?_
  refine xg_sipush (pc := 10) (v := 600) C dX11_feed_10 (by decide) ?_
  refine xg_icmp_le (pc := 13) 18 C dX11_feed_13 (by decide) (fun hc => ?_) (fun hc => ?_)
  · have hF := hF.1 hc
    refine xg_aload_n (pc := 18) C dX11_feed_18 0 rfl ?_
    refine xg_getr (pc := 19) (C1 := RX11) (T1 := TX11) (ci := 11) (ref := "SandGlasses") C inm_X11_feed_11 rfl (by decide) 0 (by decide) rfl dX11_feed_19 (List.mem_of_getElem? (i := 1) rfl) rfl rfl hthis ?_
    refine xg_iload_n (pc := 22) C dX11_feed_22 1 rfl ?_
    refine xg_cvV (pc := 23) (C1 := RX9) (T1 := TX9) (ci := 9) C (fun zs => [.int x1]) ha1 hka1 (by decide) rfl (met_X9_push Y a1 x1) gX11_feed_X9_push rfl ⟨rfl, rfl⟩ nd_X9_push ⟨Nat.le_of_ble_eq_true rfl, Nat.le_of_ble_eq_true rfl⟩ rfl rfl (Nat.le_of_ble_eq_true rfl) ⟨Nat.zero_le _, Nat.zero_le _⟩ dX11_feed_23 hF (fun h2 hF => ?_)
    refine xg_aload_n (pc := 26) C dX11_feed_26 0 rfl ?_
    refine xg_getr (pc := 27) (C1 := RX11) (T1 := TX11) (ci := 11) (ref := "SandGlasses") C inm_X11_feed_11 rfl (by decide) 0 (by decide) rfl dX11_feed_27 (List.mem_of_getElem? (i := 1) rfl) rfl rfl hthis ?_
    refine xg_iload_n (pc := 30) C dX11_feed_30 2 rfl ?_
    obtain ⟨a3, ha3, hka3, hF⟩ := hF
    refine xg_cvV (pc := 31) (C1 := RX9) (T1 := TX9) (ci := 9) C (fun zs => [.int x2]) ha3 hka3 (by decide) rfl (met_X9_push Y a3 x2) gX11_feed_X9_push rfl ⟨rfl, rfl⟩ nd_X9_push ⟨Nat.le_of_ble_eq_true rfl, Nat.le_of_ble_eq_true rfl⟩ rfl rfl (Nat.le_of_ble_eq_true rfl) ⟨Nat.zero_le _, Nat.zero_le _⟩ dX11_feed_31 hF (fun h4 hF => ?_)
    refine xg_aload_n (pc := 34) C dX11_feed_34 0 rfl ?_
    refine xg_getr (pc := 35) (C1 := RX11) (T1 := TX11) (ci := 11) (ref := "SandGlasses") C inm_X11_feed_11 rfl (by decide) 0 (by decide) rfl dX11_feed_35 (List.mem_of_getElem? (i := 1) rfl) rfl rfl hthis ?_
    refine xg_iload_n (pc := 38) C dX11_feed_38 3 rfl ?_
    obtain ⟨a5, ha5, hka5, hF⟩ := hF
    refine xg_cvV (pc := 39) (C1 := RX9) (T1 := TX9) (ci := 9) C (fun zs => [.int x3]) ha5 hka5 (by decide) rfl (met_X9_push Y a5 x3) gX11_feed_X9_push rfl ⟨rfl, rfl⟩ nd_X9_push ⟨Nat.le_of_ble_eq_true rfl, Nat.le_of_ble_eq_true rfl⟩ rfl rfl (Nat.le_of_ble_eq_true rfl) ⟨Nat.zero_le _, Nat.zero_le _⟩ dX11_feed_39 hF (fun h6 hF => ?_)
    refine xg_aload_n (pc := 42) C dX11_feed_42 0 rfl ?_
    refine xg_getr (pc := 43) (C1 := RX11) (T1 := TX11) (ci := 11) (ref := "SandGlasses") C inm_X11_feed_11 rfl (by decide) 0 (by decide) rfl dX11_feed_43 (List.mem_of_getElem? (i := 1) rfl) rfl rfl hthis ?_
    refine xg_iload (pc := 46) C dX11_feed_46 4 rfl ?_
    obtain ⟨a7, ha7, hka7, hF⟩ := hF
    refine xg_cvV (pc := 48) (C1 := RX9) (T1 := TX9) (ci := 9) C (fun zs => [.int x4]) ha7 hka7 (by decide) rfl (met_X9_push Y a7 x4) gX11_feed_X9_push rfl ⟨rfl, rfl⟩ nd_X9_push ⟨Nat.le_of_ble_eq_true rfl, Nat.le_of_ble_eq_true rfl⟩ rfl rfl (Nat.le_of_ble_eq_true rfl) ⟨Nat.zero_le _, Nat.zero_le _⟩ dX11_feed_48 hF (fun h8 hF => ?_)
    refine xg_aload_n (pc := 51) C dX11_feed_51 0 rfl ?_
    refine xg_getr (pc := 52) (C1 := RX11) (T1 := TX11) (ci := 11) (ref := "SandGlasses") C inm_X11_feed_11 rfl (by decide) 0 (by decide) rfl dX11_feed_52 (List.mem_of_getElem? (i := 1) rfl) rfl rfl hthis ?_
    refine xg_iload (pc := 55) C dX11_feed_55 5 rfl ?_
    obtain ⟨a9, ha9, hka9, hF⟩ := hF
    refine xg_cvV (pc := 57) (C1 := RX9) (T1 := TX9) (ci := 9) C (fun zs => [.int x5]) ha9 hka9 (by decide) rfl (met_X9_push Y a9 x5) gX11_feed_X9_push rfl ⟨rfl, rfl⟩ nd_X9_push ⟨Nat.le_of_ble_eq_true rfl, Nat.le_of_ble_eq_true rfl⟩ rfl rfl (Nat.le_of_ble_eq_true rfl) ⟨Nat.zero_le _, Nat.zero_le _⟩ dX11_feed_57 hF (fun h10 hF => ?_)
    refine xg_aload_n (pc := 60) C dX11_feed_60 0 rfl ?_
    refine xg_getr (pc := 61) (C1 := RX11) (T1 := TX11) (ci := 11) (ref := "SandGlasses") C inm_X11_feed_11 rfl (by decide) 0 (by decide) rfl dX11_feed_61 (List.mem_of_getElem? (i := 1) rfl) rfl rfl hthis ?_
    obtain ⟨a11, ha11, hka11, hF⟩ := hF
    refine xg_geti (pc := 64) (C1 := RX9) (T1 := TX9) (ci := 9) (ref := "SandGlasses$Told") C inm_X11_feed_9 rfl (by decide) 1 (by decide) rfl dX11_feed_64 (List.mem_of_getElem? (i := 2) rfl) rfl ha11 hka11 ?_
    exact xg_retI (pc := 67) C E dX11_feed_67 hF
  · have hF := hF.2 hc
    refine xg_iconst (pc := 16) (v := (-1)) C dX11_feed_16 (by decide) ?_
    exact xg_retI (pc := 17) C E dX11_feed_17 hF
def rm_X2_readFacts : Room := { frames := 1, cells := 0, slots := 0, locals := 24 }
theorem nd_X2_readFacts : yX2_readFacts.cls = RX2 ∧ yX2_readFacts.cls ≠ "java/lang/invoke/MethodHandle" ∧ yX2_readFacts.cls ≠ "java/lang/invoke/VarHandle" ∧ (parseMethodDescriptor yX2_readFacts.desc).map (fun d => d.parameters.length) = some 1 := by decide +kernel
theorem inm_X2_readFacts_2 : ∀ w ∈ u_ws RX2 TX2 (xg_N 2), w ∈ wsX2_readFacts := fun _ h9 => List.mem_cons_of_mem _ (List.mem_append_left _ (List.mem_append_right _ h9))
theorem inm_X2_readFacts_8 : ∀ w ∈ u_ws RX8 TX8 (xg_N 8), w ∈ wsX2_readFacts := fun _ h9 => List.mem_cons_of_mem _ (List.mem_append_right _ h9)
set_option maxHeartbeats 4000000 in
set_option maxRecDepth 100000 in
theorem met_X2_readFacts (Y : xg_Y) (this : Nat) (x1 : Option Nat) : xg_MV yX2_readFacts wsX2_readFacts rm_X2_readFacts Y (fun zs => [va_rf (some this), va_rf x1]) (fun Q h => wp_X2_readFacts Y Q this x1 h) := by
  refine xg_startV (cc := cX2_readFacts) (maxL := 6) (own := RX2) (by decide) rfl rfl (fun zs => by cases x1 <;> exact Nat.le_of_ble_eq_true rfl) (fun X Q h C hnL E hw => ?_)
  unfold wp_X2_readFacts at hw
  obtain ⟨hthis, hw⟩ := hw
  refine xg_sub (lv2 := [(0, va_rf (some this)), (1, va_rf x1)]) [0, 1] (by cases x1 <;> rfl) ?_
  refine mg_use (hw (fun (y2 : Int32) (h : xg_H) => xg_W X 0 0 Y 20 [(0, va_rf (some this)), (1, va_rf x1), (2, .int y2)] [] h) (fun (y2 : Int32) (h : xg_H) => xg_W X 0 0 Y 93 [(0, va_rf (some this)), (1, va_rf x1), (2, .int y2)] [] h) (fun (y2 : Int32) (h : xg_H) => xg_W X 0 0 Y 98 [(0, va_rf (some this)), (1, va_rf x1), (2, .int y2)] [] h) ?_ ?_ ?_) (fun hF => ?_)
  · intro y2 h hF
    refine xg_iload_n (pc := 20) C dX2_readFacts_20 2 rfl ?_
    refine xg_aload_n (pc := 21) C dX2_readFacts_21 1 rfl ?_
    obtain ⟨a4, ha4, hka4, hF⟩ := hF
    refine xg_geti (pc := 22) (C1 := RX8) (T1 := TX8) (ci := 8) (ref := "SandGlasses$Text") C inm_X2_readFacts_8 rfl (by decide) 0 (by decide) rfl dX2_readFacts_22 (List.mem_of_getElem? (i := 4) rfl) rfl ha4 hka4 ?_
    refine xg_icmp_ge (pc := 25) 104 C dX2_readFacts_25 (by decide) (fun hc => ?_) (fun hc => ?_)
    · have hF := hF.1 hc
      exact xg_retV (pc := 104) C E dX2_readFacts_104 hF
    · have hF := hF.2 hc
      refine xg_aload_n (pc := 28) C dX2_readFacts_28 1 rfl ?_
      refine xg_getr (pc := 29) (C1 := RX8) (T1 := TX8) (ci := 8) (ref := "SandGlasses$Text") C inm_X2_readFacts_8 rfl (by decide) 2 (by decide) rfl dX2_readFacts_29 (List.mem_of_getElem? (i := 5) rfl) rfl ha4 hka4 ?_
      refine xg_iload_n (pc := 32) C dX2_readFacts_32 2 rfl ?_
      obtain ⟨a5, ha5, hka5, hF⟩ := hF
      obtain ⟨hi, hF⟩ := hF
      refine xg_iald (pc := 33) C ha5 hka5 hi dX2_readFacts_33 ?_
      refine xg_topi (pc := 34) (fun z6 ez6 => ?_)
      have hF := hF z6 ez6
      refine xg_istore_n (pc := 34) (lv2 := [(3, .int z6), (0, va_rf (some this)), (1, va_rf x1), (2, .int y2)]) C dX2_readFacts_34 6 hnL (by decide) rfl ?_
      refine xg_lconst (pc := 35) (v := 1) C dX2_readFacts_35 (by decide) ?_
      refine xg_aload_n (pc := 36) C dX2_readFacts_36 2 rfl ?_
      refine xg_getr (pc := 37) (C1 := RX8) (T1 := TX8) (ci := 8) (ref := "SandGlasses$Text") C inm_X2_readFacts_8 rfl (by decide) 1 (by decide) rfl dX2_readFacts_37 (List.mem_of_getElem? (i := 6) rfl) rfl ha4 hka4 ?_
      refine xg_iload_n (pc := 40) C dX2_readFacts_40 3 rfl ?_
      obtain ⟨a7, ha7, hka7, hF⟩ := hF
      obtain ⟨hi, hF⟩ := hF
      refine xg_iald (pc := 41) C ha7 hka7 hi dX2_readFacts_41 ?_
      refine xg_lshl (pc := 42) C dX2_readFacts_42 ?_
      refine xg_topl (pc := 43) (fun z8 ez8 => ?_)
      have hF := hF z8 ez8
      refine xg_lstore (pc := 43) (lv2 := [(4, .long z8), (3, .int z6), (0, va_rf (some this)), (1, va_rf x1), (2, .int y2)]) C dX2_readFacts_43 6 hnL (by decide) rfl ?_
      refine xg_iload_n (pc := 45) C dX2_readFacts_45 1 rfl ?_
      refine xg_iconst (pc := 46) (v := (-1)) C dX2_readFacts_46 (by decide) ?_
      refine xg_icmp_ne (pc := 47) 64 C dX2_readFacts_47 (by decide) (fun hc => ?_) (fun hc => ?_)
      · have hF := hF.1 hc
        refine xg_iload_n (pc := 64) C dX2_readFacts_64 1 rfl ?_
        refine xg_if_lt (pc := 65) 93 C dX2_readFacts_65 (by decide) (fun hc => ?_) (fun hc => ?_)
        · have hF := hF.1 hc
          refine xg_sub (lv2 := [(0, va_rf (some this)), (1, va_rf x1), (2, .int y2)]) [2, 3, 4] rfl ?_
          exact hF
        · have hF := hF.2 hc
          refine xg_iload_n (pc := 68) C dX2_readFacts_68 1 rfl ?_
          refine xg_aload_n (pc := 69) C dX2_readFacts_69 2 rfl ?_
          refine xg_getr (pc := 70) (C1 := RX2) (T1 := TX2) (ci := 2) (ref := "SandGlasses$Cloth") C inm_X2_readFacts_2 rfl (by decide) 12 (by decide) rfl dX2_readFacts_70 (List.mem_of_getElem? (i := 7) rfl) rfl rfl hthis ?_
          obtain ⟨a9, ha9, hka9, hF⟩ := hF
          refine xg_geti (pc := 73) (C1 := RX8) (T1 := TX8) (ci := 8) (ref := "SandGlasses$Text") C inm_X2_readFacts_8 rfl (by decide) 0 (by decide) rfl dX2_readFacts_73 (List.mem_of_getElem? (i := 4) rfl) rfl ha9 hka9 ?_
          refine xg_icmp_ge (pc := 76) 93 C dX2_readFacts_76 (by decide) (fun hc => ?_) (fun hc => ?_)
          · have hF := hF.1 hc
            refine xg_sub (lv2 := [(0, va_rf (some this)), (1, va_rf x1), (2, .int y2)]) [2, 3, 4] rfl ?_
            exact hF
          · have hF := hF.2 hc
            refine xg_aload_n (pc := 79) C dX2_readFacts_79 2 rfl ?_
            refine xg_getr (pc := 80) (C1 := RX2) (T1 := TX2) (ci := 2) (ref := "SandGlasses$Cloth") C inm_X2_readFacts_2 rfl (by decide) 8 (by decide) rfl dX2_readFacts_80 (List.mem_of_getElem? (i := 1) rfl) rfl rfl hthis ?_
            refine xg_iload_n (pc := 83) C dX2_readFacts_83 1 rfl ?_
            refine xg_dup2 (pc := 84) C dX2_readFacts_84 rfl (xg_rf_cat _) ?_
            obtain ⟨a10, ha10, hka10, hF⟩ := hF
            obtain ⟨hi, hF⟩ := hF
            refine xg_lald (pc := 85) C ha10 hka10 hi dX2_readFacts_85 ?_
            refine xg_lload (pc := 86) C dX2_readFacts_86 0 rfl ?_
            refine xg_lor (pc := 88) C dX2_readFacts_88 ?_
            obtain ⟨hi, hF⟩ := hF
            refine xg_last (pc := 89) C ha10 hka10 hi dX2_readFacts_89 (fun h11 eh11 => ?_)
            have hF := hF h11 eh11
            refine xg_goto (pc := 90) 98 C dX2_readFacts_90 (by decide) ?_
            refine xg_sub (lv2 := [(0, va_rf (some this)), (1, va_rf x1), (2, .int y2)]) [2, 3, 4] rfl ?_
            exact hF
      · have hF := hF.2 hc
        refine xg_aload_n (pc := 50) C dX2_readFacts_50 2 rfl ?_
        refine xg_dup (pc := 51) C dX2_readFacts_51 (xg_rf_cat _) ?_
        refine xg_getl (pc := 52) (C1 := RX2) (T1 := TX2) (ci := 2) (ref := "SandGlasses$Cloth") C inm_X2_readFacts_2 rfl (by decide) 9 (by decide) rfl dX2_readFacts_52 (List.mem_of_getElem? (i := 2) rfl) rfl rfl hthis ?_
        refine xg_lload (pc := 55) C dX2_readFacts_55 0 rfl ?_
        refine xg_lor (pc := 57) C dX2_readFacts_57 ?_
        refine xg_putl (pc := 58) (C1 := RX2) (T1 := TX2) (ci := 2) (ref := "SandGlasses$Cloth") C inm_X2_readFacts_2 rfl (by decide) tyX2 tyX2_ok nmX2 9 (by decide) rfl dX2_readFacts_58 (List.mem_of_getElem? (i := 2) rfl) rfl rfl (tyX2_ok 9 (by decide)) rfl hthis (fun h12 eh12 => ?_)
        have hF := hF h12 eh12
        refine xg_goto (pc := 61) 98 C dX2_readFacts_61 (by decide) ?_
        refine xg_sub (lv2 := [(0, va_rf (some this)), (1, va_rf x1), (2, .int y2)]) [2, 3, 4] rfl ?_
        exact hF
  · intro y2 h hF
    refine xg_aload_n (pc := 93) C dX2_readFacts_93 0 rfl ?_
    refine xg_iconst (pc := 94) (v := 1) C dX2_readFacts_94 (by decide) ?_
    refine xg_putz (pc := 95) (C1 := RX2) (T1 := TX2) (ci := 2) (ref := "SandGlasses$Cloth") C inm_X2_readFacts_2 rfl (by decide) tyX2 tyX2_ok nmX2 10 (by decide) rfl (Or.inr rfl) dX2_readFacts_95 (List.mem_of_getElem? (i := 3) rfl) rfl rfl (tyX2_ok 10 (by decide)) rfl hthis (fun h13 eh13 => ?_)
    have hF := hF h13 eh13
    exact hF
  · intro y2 h hF
    obtain ⟨z14, ez14⟩ : ∃ y : Int32, y = y2 + 1 := ⟨_, rfl⟩
    have hF := hF z14 ez14
    refine xg_iinc (pc := 98) (v := z14) (lv2 := [(2, .int z14), (0, va_rf (some this)), (1, va_rf x1)]) C dX2_readFacts_98 2 rfl (by rw [ez14]; rfl) 6 hnL (by decide) (by cases x1 <;> rfl) ?_
    refine xg_goto (pc := 101) 20 C dX2_readFacts_101 (by decide) ?_
    refine xg_sub (lv2 := [(0, va_rf (some this)), (1, va_rf x1), (2, .int z14)]) [1, 2, 0] rfl ?_
    exact hF
  · skip
    refine xg_aload_n (pc := 0) C dX2_readFacts_0 0 rfl ?_
    refine xg_getr (pc := 1) (C1 := RX2) (T1 := TX2) (ci := 2) (ref := "SandGlasses$Cloth") C inm_X2_readFacts_2 rfl (by decide) 8 (by decide) rfl dX2_readFacts_1 (List.mem_of_getElem? (i := 1) rfl) rfl rfl hthis ?_
    refine xg_lconst (pc := 4) (v := 0) C dX2_readFacts_4 (by decide) ?_
    refine xg_csV (pc := 5) C (fun zs => [va_rf (xg_o h this 8), .long 0]) (met_J7_fill_d0a16 Y (xg_o h this 8) 0) gX2_readFacts_J7_fill_d0a16 rfl ⟨rfl, rfl⟩ nd_J7_fill_d0a16.2 ⟨Nat.le_of_ble_eq_true rfl, Nat.le_of_ble_eq_true rfl⟩ rfl rfl (Nat.le_of_ble_eq_true rfl) ⟨Nat.zero_le _, Nat.zero_le _⟩ dX2_readFacts_5 hF (fun h1 hF => ?_)
    refine xg_aload_n (pc := 8) C dX2_readFacts_8 0 rfl ?_
    refine xg_lconst (pc := 9) (v := 0) C dX2_readFacts_9 (by decide) ?_
    refine xg_putl (pc := 10) (C1 := RX2) (T1 := TX2) (ci := 2) (ref := "SandGlasses$Cloth") C inm_X2_readFacts_2 rfl (by decide) tyX2 tyX2_ok nmX2 9 (by decide) rfl dX2_readFacts_10 (List.mem_of_getElem? (i := 2) rfl) rfl rfl (tyX2_ok 9 (by decide)) rfl hthis (fun h2 eh2 => ?_)
    have hF := hF h2 eh2
    refine xg_aload_n (pc := 13) C dX2_readFacts_13 0 rfl ?_
    refine xg_iconst (pc := 14) (v := 0) C dX2_readFacts_14 (by decide) ?_
    refine xg_putz (pc := 15) (C1 := RX2) (T1 := TX2) (ci := 2) (ref := "SandGlasses$Cloth") C inm_X2_readFacts_2 rfl (by decide) tyX2 tyX2_ok nmX2 10 (by decide) rfl (Or.inl rfl) dX2_readFacts_15 (List.mem_of_getElem? (i := 3) rfl) rfl rfl (tyX2_ok 10 (by decide)) rfl hthis (fun h3 eh3 => ?_)
    have hF := hF h3 eh3
    refine xg_iconst (pc := 18) (v := 0) C dX2_readFacts_18 (by decide) ?_
    refine xg_istore_n (pc := 19) (lv2 := [(2, .int 0), (0, va_rf (some this)), (1, va_rf x1)]) C dX2_readFacts_19 6 hnL (by decide) (by cases x1 <;> rfl) ?_
    refine xg_sub (lv2 := [(0, va_rf (some this)), (1, va_rf x1), (2, .int 0)]) [1, 2, 0] rfl ?_
    exact hF
def rm_X2_sharedStop : Room := { frames := 0, cells := 0, slots := 0, locals := 0 }
theorem nd_X2_sharedStop : yX2_sharedStop.cls = RX2 ∧ yX2_sharedStop.cls ≠ "java/lang/invoke/MethodHandle" ∧ yX2_sharedStop.cls ≠ "java/lang/invoke/VarHandle" ∧ (parseMethodDescriptor yX2_sharedStop.desc).map (fun d => d.parameters.length) = some 0 := by decide +kernel
theorem inm_X2_sharedStop_2 : ∀ w ∈ u_ws RX2 TX2 (xg_N 2), w ∈ wsX2_sharedStop := fun _ h9 => List.mem_cons_of_mem _ (List.mem_append_left _ (List.mem_append_right _ h9))
theorem inm_X2_sharedStop_8 : ∀ w ∈ u_ws RX8 TX8 (xg_N 8), w ∈ wsX2_sharedStop := fun _ h9 => List.mem_cons_of_mem _ (List.mem_append_right _ h9)
set_option maxHeartbeats 4000000 in
set_option maxRecDepth 100000 in
theorem met_X2_sharedStop (Y : xg_Y) (this : Nat) : xg_MI yX2_sharedStop wsX2_sharedStop rm_X2_sharedStop Y (fun zs => [va_rf (some this)]) (fun Q h => wp_X2_sharedStop Y Q this h) := by
  refine xg_startI (cc := cX2_sharedStop) (maxL := 3) (own := RX2) (by decide) rfl rfl (fun zs => Nat.le_of_ble_eq_true rfl) (fun X Q h C hnL E hw => ?_)
  unfold wp_X2_sharedStop at hw
  obtain ⟨hthis, hw⟩ := hw
  refine xg_sub (lv2 := [(0, va_rf (some this))]) [0] rfl ?_
  refine mg_use (hw (fun (y1 : Int32) (y2 : Int32) (h : xg_H) => xg_W X 0 0 Y 4 [(0, va_rf (some this)), (1, .int y1), (2, .int y2)] [] h) (fun (y1 : Int32) (y2 : Int32) (h : xg_H) => xg_W X 0 0 Y 68 [(0, va_rf (some this)), (1, .int y1), (2, .int y2)] [] h) ?_ ?_) (fun hF => ?_)
  · intro y1 y2 h hF
    refine xg_iload_n (pc := 4) C dX2_sharedStop_4 2 rfl ?_
    refine xg_aload_n (pc := 5) C dX2_sharedStop_5 0 rfl ?_
    refine xg_getr (pc := 6) (C1 := RX2) (T1 := TX2) (ci := 2) (ref := "SandGlasses$Cloth") C inm_X2_sharedStop_2 rfl (by decide) 13 (by decide) rfl dX2_sharedStop_6 (List.mem_of_getElem? (i := 1) rfl) rfl rfl hthis ?_
    obtain ⟨a1, ha1, hka1, hF⟩ := hF
    refine xg_geti (pc := 9) (C1 := RX8) (T1 := TX8) (ci := 8) (ref := "SandGlasses$Text") C inm_X2_sharedStop_8 rfl (by decide) 0 (by decide) rfl dX2_sharedStop_9 (List.mem_of_getElem? (i := 2) rfl) rfl ha1 hka1 ?_
    refine xg_icmp_ge (pc := 12) 74 C dX2_sharedStop_12 (by decide) (fun hc => ?_) (fun hc => ?_)
    · have hF := hF.1 hc
      refine xg_aload_n (pc := 74) C dX2_sharedStop_74 0 rfl ?_
      refine xg_getr (pc := 75) (C1 := RX2) (T1 := TX2) (ci := 2) (ref := "SandGlasses$Cloth") C inm_X2_sharedStop_2 rfl (by decide) 13 (by decide) rfl dX2_sharedStop_75 (List.mem_of_getElem? (i := 1) rfl) rfl rfl hthis ?_
      refine xg_geti (pc := 78) (C1 := RX8) (T1 := TX8) (ci := 8) (ref := "SandGlasses$Text") C inm_X2_sharedStop_8 rfl (by decide) 0 (by decide) rfl dX2_sharedStop_78 (List.mem_of_getElem? (i := 2) rfl) rfl ha1 hka1 ?_
      exact xg_retI (pc := 81) C E dX2_sharedStop_81 hF
    · have hF := hF.2 hc
      refine xg_aload_n (pc := 15) C dX2_sharedStop_15 0 rfl ?_
      refine xg_getr (pc := 16) (C1 := RX2) (T1 := TX2) (ci := 2) (ref := "SandGlasses$Cloth") C inm_X2_sharedStop_2 rfl (by decide) 13 (by decide) rfl dX2_sharedStop_16 (List.mem_of_getElem? (i := 1) rfl) rfl rfl hthis ?_
      refine xg_getr (pc := 19) (C1 := RX8) (T1 := TX8) (ci := 8) (ref := "SandGlasses$Text") C inm_X2_sharedStop_8 rfl (by decide) 1 (by decide) rfl dX2_sharedStop_19 (List.mem_of_getElem? (i := 3) rfl) rfl ha1 hka1 ?_
      refine xg_iload_n (pc := 22) C dX2_sharedStop_22 2 rfl ?_
      obtain ⟨a2, ha2, hka2, hF⟩ := hF
      obtain ⟨hi, hF⟩ := hF
      refine xg_iald (pc := 23) C ha2 hka2 hi dX2_sharedStop_23 ?_
      refine xg_if_ne (pc := 24) 47 C dX2_sharedStop_24 (by decide) (fun hc => ?_) (fun hc => ?_)
      · have hF := hF.1 hc
        refine xg_aload_n (pc := 47) C dX2_sharedStop_47 0 rfl ?_
        refine xg_getr (pc := 48) (C1 := RX2) (T1 := TX2) (ci := 2) (ref := "SandGlasses$Cloth") C inm_X2_sharedStop_2 rfl (by decide) 13 (by decide) rfl dX2_sharedStop_48 (List.mem_of_getElem? (i := 1) rfl) rfl rfl hthis ?_
        refine xg_getr (pc := 51) (C1 := RX8) (T1 := TX8) (ci := 8) (ref := "SandGlasses$Text") C inm_X2_sharedStop_8 rfl (by decide) 2 (by decide) rfl dX2_sharedStop_51 (List.mem_of_getElem? (i := 4) rfl) rfl ha1 hka1 ?_
        refine xg_iload_n (pc := 54) C dX2_sharedStop_54 2 rfl ?_
        obtain ⟨a3, ha3, hka3, hF⟩ := hF
        obtain ⟨hi, hF⟩ := hF
        refine xg_iald (pc := 55) C ha3 hka3 hi dX2_sharedStop_55 ?_
        refine xg_aload_n (pc := 56) C dX2_sharedStop_56 0 rfl ?_
        refine xg_getr (pc := 57) (C1 := RX2) (T1 := TX2) (ci := 2) (ref := "SandGlasses$Cloth") C inm_X2_sharedStop_2 rfl (by decide) 12 (by decide) rfl dX2_sharedStop_57 (List.mem_of_getElem? (i := 5) rfl) rfl rfl hthis ?_
        obtain ⟨a4, ha4, hka4, hF⟩ := hF
        refine xg_geti (pc := 60) (C1 := RX8) (T1 := TX8) (ci := 8) (ref := "SandGlasses$Text") C inm_X2_sharedStop_8 rfl (by decide) 0 (by decide) rfl dX2_sharedStop_60 (List.mem_of_getElem? (i := 2) rfl) rfl ha4 hka4 ?_
        refine xg_icmp_lt (pc := 63) 68 C dX2_sharedStop_63 (by decide) (fun hc => ?_) (fun hc => ?_)
        · have hF := hF.1 hc
          exact hF
        · have hF := hF.2 hc
          refine xg_iload_n (pc := 66) C dX2_sharedStop_66 2 rfl ?_
          exact xg_retI (pc := 67) C E dX2_sharedStop_67 hF
      · have hF := hF.2 hc
        refine xg_iload_n (pc := 27) C dX2_sharedStop_27 1 rfl ?_
        refine xg_aload_n (pc := 28) C dX2_sharedStop_28 0 rfl ?_
        refine xg_getr (pc := 29) (C1 := RX2) (T1 := TX2) (ci := 2) (ref := "SandGlasses$Cloth") C inm_X2_sharedStop_2 rfl (by decide) 13 (by decide) rfl dX2_sharedStop_29 (List.mem_of_getElem? (i := 1) rfl) rfl rfl hthis ?_
        refine xg_getr (pc := 32) (C1 := RX8) (T1 := TX8) (ci := 8) (ref := "SandGlasses$Text") C inm_X2_sharedStop_8 rfl (by decide) 2 (by decide) rfl dX2_sharedStop_32 (List.mem_of_getElem? (i := 4) rfl) rfl ha1 hka1 ?_
        refine xg_iload_n (pc := 35) C dX2_sharedStop_35 2 rfl ?_
        obtain ⟨a5, ha5, hka5, hF⟩ := hF
        obtain ⟨hi, hF⟩ := hF
        refine xg_iald (pc := 36) C ha5 hka5 hi dX2_sharedStop_36 ?_
        refine xg_iadd (pc := 37) C dX2_sharedStop_37 ?_
        refine xg_topi (pc := 38) (fun z6 ez6 => ?_)
        have hF := hF z6 ez6
        refine xg_istore_n (pc := 38) (lv2 := [(1, .int z6), (0, va_rf (some this)), (2, .int y2)]) C dX2_sharedStop_38 3 hnL (by decide) rfl ?_
        refine xg_iload_n (pc := 39) C dX2_sharedStop_39 0 rfl ?_
        refine xg_bipush (pc := 40) (v := 99) C dX2_sharedStop_40 (by decide) ?_
        refine xg_icmp_le (pc := 42) 68 C dX2_sharedStop_42 (by decide) (fun hc => ?_) (fun hc => ?_)
        · have hF := hF.1 hc
          refine xg_sub (lv2 := [(0, va_rf (some this)), (1, .int z6), (2, .int y2)]) [1, 0, 2] rfl ?_
          exact hF
        · have hF := hF.2 hc
          refine xg_iload_n (pc := 45) C dX2_sharedStop_45 2 rfl ?_
          exact xg_retI (pc := 46) C E dX2_sharedStop_46 hF
  · intro y1 y2 h hF
    obtain ⟨z7, ez7⟩ : ∃ y : Int32, y = y2 + 1 := ⟨_, rfl⟩
    have hF := hF z7 ez7
    refine xg_iinc (pc := 68) (v := z7) (lv2 := [(2, .int z7), (0, va_rf (some this)), (1, .int y1)]) C dX2_sharedStop_68 2 rfl (by rw [ez7]; rfl) 3 hnL (by decide) rfl ?_
    refine xg_goto (pc := 71) 4 C dX2_sharedStop_71 (by decide) ?_
    refine xg_sub (lv2 := [(0, va_rf (some this)), (1, .int y1), (2, .int z7)]) [1, 2, 0] rfl ?_
    exact hF
  · skip
    refine xg_iconst (pc := 0) (v := 0) C dX2_sharedStop_0 (by decide) ?_
    refine xg_istore_n (pc := 1) (lv2 := [(1, .int 0), (0, va_rf (some this))]) C dX2_sharedStop_1 3 hnL (by decide) rfl ?_
    refine xg_iconst (pc := 2) (v := 0) C dX2_sharedStop_2 (by decide) ?_
    refine xg_istore_n (pc := 3) (lv2 := [(2, .int 0), (1, .int 0), (0, va_rf (some this))]) C dX2_sharedStop_3 3 hnL (by decide) rfl ?_
    refine xg_sub (lv2 := [(0, va_rf (some this)), (1, .int 0), (2, .int 0)]) [2, 1, 0] rfl ?_
    exact hF
def rm_X2_ownStop : Room := { frames := 1, cells := 0, slots := 0, locals := 22 }
theorem nd_X2_ownStop : yX2_ownStop.cls = RX2 ∧ yX2_ownStop.cls ≠ "java/lang/invoke/MethodHandle" ∧ yX2_ownStop.cls ≠ "java/lang/invoke/VarHandle" ∧ (parseMethodDescriptor yX2_ownStop.desc).map (fun d => d.parameters.length) = some 2 := by decide +kernel
theorem inm_X2_ownStop_2 : ∀ w ∈ u_ws RX2 TX2 (xg_N 2), w ∈ wsX2_ownStop := fun _ h9 => List.mem_cons_of_mem _ (List.mem_append_left _ (List.mem_append_left _ (List.mem_append_right _ h9)))
theorem inm_X2_ownStop_8 : ∀ w ∈ u_ws RX8 TX8 (xg_N 8), w ∈ wsX2_ownStop := fun _ h9 => List.mem_cons_of_mem _ (List.mem_append_left _ (List.mem_append_right _ h9))
set_option maxHeartbeats 4000000 in
set_option maxRecDepth 100000 in
theorem met_X2_ownStop (Y : xg_Y) (this : Nat) (x1 : Int32) (x2 : Int32) : xg_MI yX2_ownStop wsX2_ownStop rm_X2_ownStop Y (fun zs => [va_rf (some this), .int x1, .int x2]) (fun Q h => wp_X2_ownStop Y Q this x1 x2 h) := by
  refine xg_startI (cc := cX2_ownStop) (maxL := 5) (own := RX2) (by decide) rfl rfl (fun zs => Nat.le_of_ble_eq_true rfl) (fun X Q h C hnL E hw => ?_)
  unfold wp_X2_ownStop at hw
  obtain ⟨hthis, hw⟩ := hw
  refine xg_sub (lv2 := [(0, va_rf (some this)), (1, .int x1), (2, .int x2)]) [0, 1, 2] rfl ?_
  refine mg_use (hw (fun (y3 : Int32) (h : xg_H) => xg_W X 0 0 Y 19 [(0, va_rf (some this)), (1, .int x1), (3, .int y3)] [] h) (fun (y3 : Int32) (h : xg_H) => xg_W X 0 0 Y 126 [(0, va_rf (some this)), (1, .int x1), (3, .int y3)] [] h) (fun (y3 : Int32) (y4 : Int32) (h : xg_H) => xg_W X 0 0 Y 45 [(0, va_rf (some this)), (1, .int x1), (3, .int y3), (4, .int y4)] [] h) ?_ ?_ ?_) (fun hF => ?_)
  · intro y3 h hF
    refine xg_iload_n (pc := 19) C dX2_ownStop_19 2 rfl ?_
    refine xg_aload_n (pc := 20) C dX2_ownStop_20 0 rfl ?_
    refine xg_getr (pc := 21) (C1 := RX2) (T1 := TX2) (ci := 2) (ref := "SandGlasses$Cloth") C inm_X2_ownStop_2 rfl (by decide) 13 (by decide) rfl dX2_ownStop_21 (List.mem_of_getElem? (i := 4) rfl) rfl rfl hthis ?_
    obtain ⟨a5, ha5, hka5, hF⟩ := hF
    refine xg_geti (pc := 24) (C1 := RX8) (T1 := TX8) (ci := 8) (ref := "SandGlasses$Text") C inm_X2_ownStop_8 rfl (by decide) 0 (by decide) rfl dX2_ownStop_24 (List.mem_of_getElem? (i := 5) rfl) rfl ha5 hka5 ?_
    refine xg_icmp_ge (pc := 27) 132 C dX2_ownStop_27 (by decide) (fun hc => ?_) (fun hc => ?_)
    · have hF := hF.1 hc
      refine xg_aload_n (pc := 132) C dX2_ownStop_132 0 rfl ?_
      refine xg_getr (pc := 133) (C1 := RX2) (T1 := TX2) (ci := 2) (ref := "SandGlasses$Cloth") C inm_X2_ownStop_2 rfl (by decide) 13 (by decide) rfl dX2_ownStop_133 (List.mem_of_getElem? (i := 4) rfl) rfl rfl hthis ?_
      refine xg_geti (pc := 136) (C1 := RX8) (T1 := TX8) (ci := 8) (ref := "SandGlasses$Text") C inm_X2_ownStop_8 rfl (by decide) 0 (by decide) rfl dX2_ownStop_136 (List.mem_of_getElem? (i := 5) rfl) rfl ha5 hka5 ?_
      exact xg_retI (pc := 139) C E dX2_ownStop_139 hF
    · have hF := hF.2 hc
      refine xg_aload_n (pc := 30) C dX2_ownStop_30 0 rfl ?_
      refine xg_getr (pc := 31) (C1 := RX2) (T1 := TX2) (ci := 2) (ref := "SandGlasses$Cloth") C inm_X2_ownStop_2 rfl (by decide) 13 (by decide) rfl dX2_ownStop_31 (List.mem_of_getElem? (i := 4) rfl) rfl rfl hthis ?_
      refine xg_getr (pc := 34) (C1 := RX8) (T1 := TX8) (ci := 8) (ref := "SandGlasses$Text") C inm_X2_ownStop_8 rfl (by decide) 1 (by decide) rfl dX2_ownStop_34 (List.mem_of_getElem? (i := 3) rfl) rfl ha5 hka5 ?_
      refine xg_iload_n (pc := 37) C dX2_ownStop_37 2 rfl ?_
      obtain ⟨a6, ha6, hka6, hF⟩ := hF
      obtain ⟨hi, hF⟩ := hF
      refine xg_iald (pc := 38) C ha6 hka6 hi dX2_ownStop_38 ?_
      refine xg_if_ne (pc := 39) 76 C dX2_ownStop_39 (by decide) (fun hc => ?_) (fun hc => ?_)
      · have hF := hF.1 hc
        refine xg_aload_n (pc := 76) C dX2_ownStop_76 0 rfl ?_
        refine xg_getr (pc := 77) (C1 := RX2) (T1 := TX2) (ci := 2) (ref := "SandGlasses$Cloth") C inm_X2_ownStop_2 rfl (by decide) 13 (by decide) rfl dX2_ownStop_77 (List.mem_of_getElem? (i := 4) rfl) rfl rfl hthis ?_
        refine xg_getr (pc := 80) (C1 := RX8) (T1 := TX8) (ci := 8) (ref := "SandGlasses$Text") C inm_X2_ownStop_8 rfl (by decide) 2 (by decide) rfl dX2_ownStop_80 (List.mem_of_getElem? (i := 6) rfl) rfl ha5 hka5 ?_
        refine xg_iload_n (pc := 83) C dX2_ownStop_83 2 rfl ?_
        obtain ⟨a7, ha7, hka7, hF⟩ := hF
        obtain ⟨hi, hF⟩ := hF
        refine xg_iald (pc := 84) C ha7 hka7 hi dX2_ownStop_84 ?_
        refine xg_iload_n (pc := 85) C dX2_ownStop_85 1 rfl ?_
        refine xg_icmp_ne (pc := 86) 126 C dX2_ownStop_86 (by decide) (fun hc => ?_) (fun hc => ?_)
        · have hF := hF.1 hc
          exact hF
        · have hF := hF.2 hc
          refine xg_aload_n (pc := 89) C dX2_ownStop_89 0 rfl ?_
          refine xg_getr (pc := 90) (C1 := RX2) (T1 := TX2) (ci := 2) (ref := "SandGlasses$Cloth") C inm_X2_ownStop_2 rfl (by decide) 2 (by decide) rfl dX2_ownStop_90 (List.mem_of_getElem? (i := 1) rfl) rfl rfl hthis ?_
          refine xg_aload_n (pc := 93) C dX2_ownStop_93 0 rfl ?_
          refine xg_getr (pc := 94) (C1 := RX2) (T1 := TX2) (ci := 2) (ref := "SandGlasses$Cloth") C inm_X2_ownStop_2 rfl (by decide) 13 (by decide) rfl dX2_ownStop_94 (List.mem_of_getElem? (i := 4) rfl) rfl rfl hthis ?_
          refine xg_getr (pc := 97) (C1 := RX8) (T1 := TX8) (ci := 8) (ref := "SandGlasses$Text") C inm_X2_ownStop_8 rfl (by decide) 1 (by decide) rfl dX2_ownStop_97 (List.mem_of_getElem? (i := 3) rfl) rfl ha5 hka5 ?_
          refine xg_iload_n (pc := 100) C dX2_ownStop_100 2 rfl ?_
          obtain ⟨hi, hF⟩ := hF
          refine xg_iald (pc := 101) C ha6 hka6 hi dX2_ownStop_101 ?_
          obtain ⟨a8, ha8, hka8, hF⟩ := hF
          refine xg_cvI (pc := 102) (C1 := RX5) (T1 := TX5) (ci := 5) C (fun zs => [.int (xg_i h a6 y3.toNatClampNeg)]) ha8 hka8 (by decide) rfl (met_X5_may Y a8 (xg_i h a6 y3.toNatClampNeg)) gX2_ownStop_X5_may rfl ⟨rfl, rfl⟩ nd_X5_may ⟨Nat.le_of_ble_eq_true rfl, Nat.le_of_ble_eq_true rfl⟩ rfl rfl (Nat.le_of_ble_eq_true rfl) ⟨Nat.zero_le _, Nat.zero_le _⟩ dX2_ownStop_102 hF (fun r10 h9 hF => ?_)
          refine xg_if_ne (pc := 105) 110 C dX2_ownStop_105 (by decide) (fun hc => ?_) (fun hc => ?_)
          · have hF := hF.1 hc
            refine xg_aload_n (pc := 110) C dX2_ownStop_110 0 rfl ?_
            refine xg_getr (pc := 111) (C1 := RX2) (T1 := TX2) (ci := 2) (ref := "SandGlasses$Cloth") C inm_X2_ownStop_2 rfl (by decide) 2 (by decide) rfl dX2_ownStop_111 (List.mem_of_getElem? (i := 1) rfl) rfl rfl hthis ?_
            refine xg_aload_n (pc := 114) C dX2_ownStop_114 0 rfl ?_
            refine xg_getr (pc := 115) (C1 := RX2) (T1 := TX2) (ci := 2) (ref := "SandGlasses$Cloth") C inm_X2_ownStop_2 rfl (by decide) 13 (by decide) rfl dX2_ownStop_115 (List.mem_of_getElem? (i := 4) rfl) rfl rfl hthis ?_
            obtain ⟨a11, ha11, hka11, hF⟩ := hF
            refine xg_getr (pc := 118) (C1 := RX8) (T1 := TX8) (ci := 8) (ref := "SandGlasses$Text") C inm_X2_ownStop_8 rfl (by decide) 1 (by decide) rfl dX2_ownStop_118 (List.mem_of_getElem? (i := 3) rfl) rfl ha11 hka11 ?_
            refine xg_iload_n (pc := 121) C dX2_ownStop_121 2 rfl ?_
            obtain ⟨a12, ha12, hka12, hF⟩ := hF
            obtain ⟨hi, hF⟩ := hF
            refine xg_iald (pc := 122) C ha12 hka12 hi dX2_ownStop_122 ?_
            obtain ⟨a13, ha13, hka13, hF⟩ := hF
            refine xg_cvV (pc := 123) (C1 := RX5) (T1 := TX5) (ci := 5) C (fun zs => [.int (xg_i h9 a12 y3.toNatClampNeg)]) ha13 hka13 (by decide) rfl (met_X5_act Y a13 (xg_i h9 a12 y3.toNatClampNeg)) gX2_ownStop_X5_act rfl ⟨rfl, rfl⟩ nd_X5_act ⟨Nat.le_of_ble_eq_true rfl, Nat.le_of_ble_eq_true rfl⟩ rfl rfl (Nat.le_of_ble_eq_true rfl) ⟨Nat.zero_le _, Nat.zero_le _⟩ dX2_ownStop_123 hF (fun h14 hF => ?_)
            exact hF
          · have hF := hF.2 hc
            refine xg_iload_n (pc := 108) C dX2_ownStop_108 2 rfl ?_
            exact xg_retI (pc := 109) C E dX2_ownStop_109 hF
      · have hF := hF.2 hc
        refine xg_iconst (pc := 42) (v := 0) C dX2_ownStop_42 (by decide) ?_
        refine xg_istore (pc := 43) (lv2 := [(4, .int 0), (0, va_rf (some this)), (1, .int x1), (3, .int y3)]) C dX2_ownStop_43 5 hnL (by decide) rfl ?_
        refine xg_sub (lv2 := [(0, va_rf (some this)), (1, .int x1), (3, .int y3), (4, .int 0)]) [1, 2, 3, 0] rfl ?_
        exact hF
  · intro y3 h hF
    obtain ⟨z15, ez15⟩ : ∃ y : Int32, y = y3 + 1 := ⟨_, rfl⟩
    have hF := hF z15 ez15
    refine xg_iinc (pc := 126) (v := z15) (lv2 := [(3, .int z15), (0, va_rf (some this)), (1, .int x1)]) C dX2_ownStop_126 2 rfl (by rw [ez15]; rfl) 5 hnL (by decide) rfl ?_
    refine xg_goto (pc := 129) 19 C dX2_ownStop_129 (by decide) ?_
    refine xg_sub (lv2 := [(0, va_rf (some this)), (1, .int x1), (3, .int z15)]) [1, 2, 0] rfl ?_
    exact hF
  · intro y3 y4 h hF
    refine xg_iload (pc := 45) C dX2_ownStop_45 3 rfl ?_
    refine xg_aload_n (pc := 47) C dX2_ownStop_47 0 rfl ?_
    refine xg_getr (pc := 48) (C1 := RX2) (T1 := TX2) (ci := 2) (ref := "SandGlasses$Cloth") C inm_X2_ownStop_2 rfl (by decide) 13 (by decide) rfl dX2_ownStop_48 (List.mem_of_getElem? (i := 4) rfl) rfl rfl hthis ?_
    obtain ⟨a16, ha16, hka16, hF⟩ := hF
    refine xg_getr (pc := 51) (C1 := RX8) (T1 := TX8) (ci := 8) (ref := "SandGlasses$Text") C inm_X2_ownStop_8 rfl (by decide) 2 (by decide) rfl dX2_ownStop_51 (List.mem_of_getElem? (i := 6) rfl) rfl ha16 hka16 ?_
    refine xg_iload_n (pc := 54) C dX2_ownStop_54 2 rfl ?_
    obtain ⟨a17, ha17, hka17, hF⟩ := hF
    obtain ⟨hi, hF⟩ := hF
    refine xg_iald (pc := 55) C ha17 hka17 hi dX2_ownStop_55 ?_
    refine xg_icmp_ge (pc := 56) 73 C dX2_ownStop_56 (by decide) (fun hc => ?_) (fun hc => ?_)
    · have hF := hF.1 hc
      refine xg_goto (pc := 73) 126 C dX2_ownStop_73 (by decide) ?_
      refine xg_sub (lv2 := [(0, va_rf (some this)), (1, .int x1), (3, .int y3)]) [0, 1, 2] rfl ?_
      exact hF
    · have hF := hF.2 hc
      refine xg_aload_n (pc := 59) C dX2_ownStop_59 0 rfl ?_
      refine xg_getr (pc := 60) (C1 := RX2) (T1 := TX2) (ci := 2) (ref := "SandGlasses$Cloth") C inm_X2_ownStop_2 rfl (by decide) 2 (by decide) rfl dX2_ownStop_60 (List.mem_of_getElem? (i := 1) rfl) rfl rfl hthis ?_
      obtain ⟨a18, ha18, hka18, hF⟩ := hF
      refine xg_cvI (pc := 63) (C1 := RX5) (T1 := TX5) (ci := 5) C (fun zs => []) ha18 hka18 (by decide) rfl (met_X5_passMinute Y a18) gX2_ownStop_X5_passMinute rfl ⟨rfl, rfl⟩ nd_X5_passMinute ⟨Nat.le_of_ble_eq_true rfl, Nat.le_of_ble_eq_true rfl⟩ rfl rfl (Nat.le_of_ble_eq_true rfl) ⟨Nat.zero_le _, Nat.zero_le _⟩ dX2_ownStop_63 hF (fun r20 h19 hF => ?_)
      refine xg_pop (pc := 66) C dX2_ownStop_66 rfl ?_
      obtain ⟨z21, ez21⟩ : ∃ y : Int32, y = y4 + 1 := ⟨_, rfl⟩
      have hF := hF z21 ez21
      refine xg_iinc (pc := 67) (v := z21) (lv2 := [(4, .int z21), (0, va_rf (some this)), (1, .int x1), (3, .int y3)]) C dX2_ownStop_67 3 rfl (by rw [ez21]; rfl) 5 hnL (by decide) rfl ?_
      refine xg_goto (pc := 70) 45 C dX2_ownStop_70 (by decide) ?_
      refine xg_sub (lv2 := [(0, va_rf (some this)), (1, .int x1), (3, .int y3), (4, .int z21)]) [1, 2, 3, 0] rfl ?_
      exact hF
  · skip
    refine xg_aload_n (pc := 0) C dX2_ownStop_0 0 rfl ?_
    refine xg_getr (pc := 1) (C1 := RX2) (T1 := TX2) (ci := 2) (ref := "SandGlasses$Cloth") C inm_X2_ownStop_2 rfl (by decide) 2 (by decide) rfl dX2_ownStop_1 (List.mem_of_getElem? (i := 1) rfl) rfl rfl hthis ?_
    refine xg_aload_n (pc := 4) C dX2_ownStop_4 0 rfl ?_
    refine xg_getr (pc := 5) (C1 := RX2) (T1 := TX2) (ci := 2) (ref := "SandGlasses$Cloth") C inm_X2_ownStop_2 rfl (by decide) 12 (by decide) rfl dX2_ownStop_5 (List.mem_of_getElem? (i := 2) rfl) rfl rfl hthis ?_
    obtain ⟨a1, ha1, hka1, hF⟩ := hF
    refine xg_getr (pc := 8) (C1 := RX8) (T1 := TX8) (ci := 8) (ref := "SandGlasses$Text") C inm_X2_ownStop_8 rfl (by decide) 1 (by decide) rfl dX2_ownStop_8 (List.mem_of_getElem? (i := 3) rfl) rfl ha1 hka1 ?_
    refine xg_iload_n (pc := 11) C dX2_ownStop_11 1 rfl ?_
    obtain ⟨a2, ha2, hka2, hF⟩ := hF
    obtain ⟨hi, hF⟩ := hF
    refine xg_iald (pc := 12) C ha2 hka2 hi dX2_ownStop_12 ?_
    refine xg_iload_n (pc := 13) C dX2_ownStop_13 2 rfl ?_
    obtain ⟨a3, ha3, hka3, hF⟩ := hF
    refine xg_cvV (pc := 14) (C1 := RX5) (T1 := TX5) (ci := 5) C (fun zs => [.int (xg_i h a2 x1.toNatClampNeg), .int x2]) ha3 hka3 (by decide) rfl (met_X5_put Y a3 (xg_i h a2 x1.toNatClampNeg) x2) gX2_ownStop_X5_put rfl ⟨rfl, rfl⟩ nd_X5_put ⟨Nat.le_of_ble_eq_true rfl, Nat.le_of_ble_eq_true rfl⟩ rfl rfl (Nat.le_of_ble_eq_true rfl) ⟨Nat.zero_le _, Nat.zero_le _⟩ dX2_ownStop_14 hF (fun h4 hF => ?_)
    refine xg_iconst (pc := 17) (v := 0) C dX2_ownStop_17 (by decide) ?_
    refine xg_istore_n (pc := 18) (lv2 := [(3, .int 0), (0, va_rf (some this)), (1, .int x1), (2, .int x2)]) C dX2_ownStop_18 5 hnL (by decide) rfl ?_
    refine xg_sub (lv2 := [(0, va_rf (some this)), (1, .int x1), (3, .int 0)]) [1, 2, 0] rfl ?_
    exact hF
def rm_X2_findStops : Room := { frames := 2, cells := 0, slots := 0, locals := 46 }
theorem nd_X2_findStops : yX2_findStops.cls = RX2 ∧ yX2_findStops.cls ≠ "java/lang/invoke/MethodHandle" ∧ yX2_findStops.cls ≠ "java/lang/invoke/VarHandle" ∧ (parseMethodDescriptor yX2_findStops.desc).map (fun d => d.parameters.length) = some 0 := by decide +kernel
theorem inm_X2_findStops_2 : ∀ w ∈ u_ws RX2 TX2 (xg_N 2), w ∈ wsX2_findStops := fun _ h9 => List.mem_cons_of_mem _ (List.mem_append_left _ (List.mem_append_left _ (List.mem_append_right _ h9)))
theorem inm_X2_findStops_8 : ∀ w ∈ u_ws RX8 TX8 (xg_N 8), w ∈ wsX2_findStops := fun _ h9 => List.mem_cons_of_mem _ (List.mem_append_left _ (List.mem_append_right _ h9))
set_option maxHeartbeats 4000000 in
set_option maxRecDepth 100000 in
theorem met_X2_findStops (Y : xg_Y) (this : Nat) : xg_MV yX2_findStops wsX2_findStops rm_X2_findStops Y (fun zs => [va_rf (some this)]) (fun Q h => wp_X2_findStops Y Q this h) := by
  refine xg_startV (cc := cX2_findStops) (maxL := 4) (own := RX2) (by decide) rfl rfl (fun zs => Nat.le_of_ble_eq_true rfl) (fun X Q h C hnL E hw => ?_)
  unfold wp_X2_findStops at hw
  obtain ⟨hthis, hw⟩ := hw
  refine xg_sub (lv2 := [(0, va_rf (some this))]) [0] rfl ?_
  refine mg_use (hw (fun (y1 : Int32) (y2 : Int32) (h : xg_H) => xg_W X 0 0 Y 7 [(0, va_rf (some this)), (1, .int y1), (2, .int y2)] [] h) (fun (y1 : Int32) (y2 : Int32) (y3 : Int32) (h : xg_H) => xg_W X 0 0 Y 20 [(0, va_rf (some this)), (1, .int y1), (2, .int y2), (3, .int y3)] [] h) (fun (y1 : Int32) (y2 : Int32) (h : xg_H) => xg_W X 0 0 Y 66 [(0, va_rf (some this)), (1, .int y1), (2, .int y2)] [] h) ?_ ?_ ?_) (fun hF => ?_)
  · intro y1 y2 h hF
    refine xg_iload_n (pc := 7) C dX2_findStops_7 2 rfl ?_
    refine xg_aload_n (pc := 8) C dX2_findStops_8 0 rfl ?_
    refine xg_getr (pc := 9) (C1 := RX2) (T1 := TX2) (ci := 2) (ref := "SandGlasses$Cloth") C inm_X2_findStops_2 rfl (by decide) 12 (by decide) rfl dX2_findStops_9 (List.mem_of_getElem? (i := 1) rfl) rfl rfl hthis ?_
    obtain ⟨a3, ha3, hka3, hF⟩ := hF
    refine xg_geti (pc := 12) (C1 := RX8) (T1 := TX8) (ci := 8) (ref := "SandGlasses$Text") C inm_X2_findStops_8 rfl (by decide) 0 (by decide) rfl dX2_findStops_12 (List.mem_of_getElem? (i := 2) rfl) rfl ha3 hka3 ?_
    refine xg_icmp_ge (pc := 15) 72 C dX2_findStops_15 (by decide) (fun hc => ?_) (fun hc => ?_)
    · have hF := hF.1 hc
      exact xg_retV (pc := 72) C E dX2_findStops_72 hF
    · have hF := hF.2 hc
      refine xg_iconst (pc := 18) (v := 0) C dX2_findStops_18 (by decide) ?_
      refine xg_istore_n (pc := 19) (lv2 := [(3, .int 0), (0, va_rf (some this)), (1, .int y1), (2, .int y2)]) C dX2_findStops_19 4 hnL (by decide) rfl ?_
      refine xg_sub (lv2 := [(0, va_rf (some this)), (1, .int y1), (2, .int y2), (3, .int 0)]) [1, 2, 3, 0] rfl ?_
      exact hF
  · intro y1 y2 y3 h hF
    refine xg_iload_n (pc := 20) C dX2_findStops_20 3 rfl ?_
    refine xg_aload_n (pc := 21) C dX2_findStops_21 0 rfl ?_
    refine xg_getr (pc := 22) (C1 := RX2) (T1 := TX2) (ci := 2) (ref := "SandGlasses$Cloth") C inm_X2_findStops_2 rfl (by decide) 12 (by decide) rfl dX2_findStops_22 (List.mem_of_getElem? (i := 1) rfl) rfl rfl hthis ?_
    obtain ⟨a4, ha4, hka4, hF⟩ := hF
    refine xg_getr (pc := 25) (C1 := RX8) (T1 := TX8) (ci := 8) (ref := "SandGlasses$Text") C inm_X2_findStops_8 rfl (by decide) 1 (by decide) rfl dX2_findStops_25 (List.mem_of_getElem? (i := 3) rfl) rfl ha4 hka4 ?_
    refine xg_iload_n (pc := 28) C dX2_findStops_28 2 rfl ?_
    obtain ⟨a5, ha5, hka5, hF⟩ := hF
    obtain ⟨hi, hF⟩ := hF
    refine xg_iald (pc := 29) C ha5 hka5 hi dX2_findStops_29 ?_
    refine xg_icmp_gt (pc := 30) 66 C dX2_findStops_30 (by decide) (fun hc => ?_) (fun hc => ?_)
    · have hF := hF.1 hc
      refine xg_sub (lv2 := [(0, va_rf (some this)), (1, .int y1), (2, .int y2)]) [0, 1, 2] rfl ?_
      exact hF
    · have hF := hF.2 hc
      refine xg_iload_n (pc := 33) C dX2_findStops_33 3 rfl ?_
      refine xg_bipush (pc := 34) (v := 8) C dX2_findStops_34 (by decide) ?_
      refine xg_icmp_ge (pc := 36) 66 C dX2_findStops_36 (by decide) (fun hc => ?_) (fun hc => ?_)
      · have hF := hF.1 hc
        refine xg_sub (lv2 := [(0, va_rf (some this)), (1, .int y1), (2, .int y2)]) [0, 1, 2] rfl ?_
        exact hF
      · have hF := hF.2 hc
        refine xg_aload_n (pc := 39) C dX2_findStops_39 0 rfl ?_
        refine xg_getr (pc := 40) (C1 := RX2) (T1 := TX2) (ci := 2) (ref := "SandGlasses$Cloth") C inm_X2_findStops_2 rfl (by decide) 4 (by decide) rfl dX2_findStops_40 (List.mem_of_getElem? (i := 4) rfl) rfl rfl hthis ?_
        refine xg_iload_n (pc := 43) C dX2_findStops_43 2 rfl ?_
        refine xg_bipush (pc := 44) (v := 8) C dX2_findStops_44 (by decide) ?_
        refine xg_imul (pc := 46) C dX2_findStops_46 ?_
        refine xg_iload_n (pc := 47) C dX2_findStops_47 3 rfl ?_
        refine xg_iadd (pc := 48) C dX2_findStops_48 ?_
        refine xg_iload_n (pc := 49) C dX2_findStops_49 1 rfl ?_
        refine xg_aload_n (pc := 50) C dX2_findStops_50 0 rfl ?_
        refine xg_iload_n (pc := 51) C dX2_findStops_51 2 rfl ?_
        refine xg_iload_n (pc := 52) C dX2_findStops_52 3 rfl ?_
        refine xg_cvI (pc := 53) (C1 := RX2) (T1 := TX2) (ci := 2) C (fun zs => [.int y2, .int y3]) rfl hthis (by decide) rfl (met_X2_ownStop Y this y2 y3) gX2_findStops_X2_ownStop rfl ⟨rfl, rfl⟩ nd_X2_ownStop ⟨Nat.le_of_ble_eq_true rfl, Nat.le_of_ble_eq_true rfl⟩ rfl rfl (by simp [xg_rf_cat, xg_cat_i, xg_cat_l, xg_cat_a]) ⟨Nat.zero_le _, Nat.zero_le _⟩ dX2_findStops_53 hF (fun r7 h6 hF => ?_)
        refine xg_mmin (pc := 56) C (List.mem_of_getElem? (i := 5) rfl) (List.mem_of_getElem? (i := 6) rfl) (List.mem_of_getElem? (i := 7) rfl) (List.mem_of_getElem? (i := 8) rfl) (Nat.le_of_ble_eq_true rfl) (by simp [xg_rf_cat, xg_cat_i, xg_cat_l, xg_cat_a, rm_X2_findStops]) (Nat.zero_le _) (Nat.zero_le _) dX2_findStops_56 ?_
        refine xg_topi (pc := 59) (fun z8 ez8 => ?_)
        have hF := hF z8 ez8
        obtain ⟨a9, ha9, hka9, hF⟩ := hF
        obtain ⟨hi, hF⟩ := hF
        refine xg_iast (pc := 59) C ha9 hka9 hi dX2_findStops_59 (fun h10 eh10 => ?_)
        have hF := hF h10 eh10
        obtain ⟨z11, ez11⟩ : ∃ y : Int32, y = y3 + 1 := ⟨_, rfl⟩
        have hF := hF z11 ez11
        refine xg_iinc (pc := 60) (v := z11) (lv2 := [(3, .int z11), (0, va_rf (some this)), (1, .int y1), (2, .int y2)]) C dX2_findStops_60 3 rfl (by rw [ez11]; rfl) 4 hnL (by decide) rfl ?_
        refine xg_goto (pc := 63) 20 C dX2_findStops_63 (by decide) ?_
        refine xg_sub (lv2 := [(0, va_rf (some this)), (1, .int y1), (2, .int y2), (3, .int z11)]) [1, 2, 3, 0] rfl ?_
        exact hF
  · intro y1 y2 h hF
    obtain ⟨z12, ez12⟩ : ∃ y : Int32, y = y2 + 1 := ⟨_, rfl⟩
    have hF := hF z12 ez12
    refine xg_iinc (pc := 66) (v := z12) (lv2 := [(2, .int z12), (0, va_rf (some this)), (1, .int y1)]) C dX2_findStops_66 2 rfl (by rw [ez12]; rfl) 4 hnL (by decide) rfl ?_
    refine xg_goto (pc := 69) 7 C dX2_findStops_69 (by decide) ?_
    refine xg_sub (lv2 := [(0, va_rf (some this)), (1, .int y1), (2, .int z12)]) [1, 2, 0] rfl ?_
    exact hF
  · skip
    refine xg_aload_n (pc := 0) C dX2_findStops_0 0 rfl ?_
    refine xg_cvI (pc := 1) (C1 := RX2) (T1 := TX2) (ci := 2) C (fun zs => []) rfl hthis (by decide) rfl (met_X2_sharedStop Y this) gX2_findStops_X2_sharedStop rfl ⟨rfl, rfl⟩ nd_X2_sharedStop ⟨Nat.le_of_ble_eq_true rfl, Nat.le_of_ble_eq_true rfl⟩ rfl rfl (Nat.le_of_ble_eq_true rfl) ⟨Nat.zero_le _, Nat.zero_le _⟩ dX2_findStops_1 hF (fun r2 h1 hF => ?_)
    refine xg_istore_n (pc := 4) (lv2 := [(1, .int r2), (0, va_rf (some this))]) C dX2_findStops_4 4 hnL (by decide) rfl ?_
    refine xg_iconst (pc := 5) (v := 0) C dX2_findStops_5 (by decide) ?_
    refine xg_istore_n (pc := 6) (lv2 := [(2, .int 0), (1, .int r2), (0, va_rf (some this))]) C dX2_findStops_6 4 hnL (by decide) rfl ?_
    refine xg_sub (lv2 := [(0, va_rf (some this)), (1, .int r2), (2, .int 0)]) [2, 1, 0] rfl ?_
    exact hF
def rm_X2_layOut : Room := { frames := 1, cells := 0, slots := 0, locals := 24 }
theorem nd_X2_layOut : yX2_layOut.cls = RX2 ∧ yX2_layOut.cls ≠ "java/lang/invoke/MethodHandle" ∧ yX2_layOut.cls ≠ "java/lang/invoke/VarHandle" ∧ (parseMethodDescriptor yX2_layOut.desc).map (fun d => d.parameters.length) = some 1 := by decide +kernel
theorem inm_X2_layOut_2 : ∀ w ∈ u_ws RX2 TX2 (xg_N 2), w ∈ wsX2_layOut := fun _ h9 => List.mem_cons_of_mem _ (List.mem_append_left _ (List.mem_append_right _ h9))
theorem inm_X2_layOut_8 : ∀ w ∈ u_ws RX8 TX8 (xg_N 8), w ∈ wsX2_layOut := fun _ h9 => List.mem_cons_of_mem _ (List.mem_append_right _ h9)
set_option maxHeartbeats 4000000 in
set_option maxRecDepth 100000 in
theorem met_X2_layOut (Y : xg_Y) (this : Nat) (x1 : Int32) : xg_MV yX2_layOut wsX2_layOut rm_X2_layOut Y (fun zs => [va_rf (some this), .int x1]) (fun Q h => wp_X2_layOut Y Q this x1 h) := by
  refine xg_startV (cc := cX2_layOut) (maxL := 5) (own := RX2) (by decide) rfl rfl (fun zs => Nat.le_of_ble_eq_true rfl) (fun X Q h C hnL E hw => ?_)
  unfold wp_X2_layOut at hw
  obtain ⟨hthis, hw⟩ := hw
  refine xg_sub (lv2 := [(0, va_rf (some this)), (1, .int x1)]) [0, 1] rfl ?_
  refine mg_use (hw (fun (y2 : Int32) (y3 : Int32) (h : xg_H) => xg_W X 0 0 Y 12 [(0, va_rf (some this)), (2, .int y2), (3, .int y3)] [] h) ?_) (fun hF => ?_)
  · intro y2 y3 h hF
    refine xg_iload_n (pc := 12) C dX2_layOut_12 2 rfl ?_
    refine xg_if_lt (pc := 13) 54 C dX2_layOut_13 (by decide) (fun hc => ?_) (fun hc => ?_)
    · have hF := hF.1 hc
      exact xg_retV (pc := 54) C E dX2_layOut_54 hF
    · have hF := hF.2 hc
      refine xg_iconst (pc := 16) (v := 1) C dX2_layOut_16 (by decide) ?_
      refine xg_aload_n (pc := 17) C dX2_layOut_17 0 rfl ?_
      refine xg_getr (pc := 18) (C1 := RX2) (T1 := TX2) (ci := 2) (ref := "SandGlasses$Cloth") C inm_X2_layOut_2 rfl (by decide) 12 (by decide) rfl dX2_layOut_18 (List.mem_of_getElem? (i := 1) rfl) rfl rfl hthis ?_
      obtain ⟨a3, ha3, hka3, hF⟩ := hF
      refine xg_getr (pc := 21) (C1 := RX8) (T1 := TX8) (ci := 8) (ref := "SandGlasses$Text") C inm_X2_layOut_8 rfl (by decide) 1 (by decide) rfl dX2_layOut_21 (List.mem_of_getElem? (i := 3) rfl) rfl ha3 hka3 ?_
      refine xg_iload_n (pc := 24) C dX2_layOut_24 2 rfl ?_
      obtain ⟨a4, ha4, hka4, hF⟩ := hF
      obtain ⟨hi, hF⟩ := hF
      refine xg_iald (pc := 25) C ha4 hka4 hi dX2_layOut_25 ?_
      refine xg_iconst (pc := 26) (v := 1) C dX2_layOut_26 (by decide) ?_
      refine xg_iadd (pc := 27) C dX2_layOut_27 ?_
      refine xg_mmax (pc := 28) C (List.mem_of_getElem? (i := 4) rfl) (List.mem_of_getElem? (i := 5) rfl) (List.mem_of_getElem? (i := 6) rfl) (List.mem_of_getElem? (i := 7) rfl) (Nat.le_of_ble_eq_true rfl) (Nat.le_of_ble_eq_true rfl) (Nat.zero_le _) (Nat.zero_le _) dX2_layOut_28 ?_
      refine xg_topi (pc := 31) (fun z5 ez5 => ?_)
      have hF := hF z5 ez5
      refine xg_istore (pc := 31) (lv2 := [(4, .int z5), (0, va_rf (some this)), (2, .int y2), (3, .int y3)]) C dX2_layOut_31 5 hnL (by decide) rfl ?_
      refine xg_aload_n (pc := 33) C dX2_layOut_33 1 rfl ?_
      refine xg_getr (pc := 34) (C1 := RX2) (T1 := TX2) (ci := 2) (ref := "SandGlasses$Cloth") C inm_X2_layOut_2 rfl (by decide) 3 (by decide) rfl dX2_layOut_34 (List.mem_of_getElem? (i := 8) rfl) rfl rfl hthis ?_
      refine xg_iload_n (pc := 37) C dX2_layOut_37 3 rfl ?_
      refine xg_iload_n (pc := 38) C dX2_layOut_38 2 rfl ?_
      refine xg_iload (pc := 39) C dX2_layOut_39 0 rfl ?_
      obtain ⟨hne, hF⟩ := hF
      refine xg_irem (pc := 41) C dX2_layOut_41 hne ?_
      obtain ⟨a6, ha6, hka6, hF⟩ := hF
      obtain ⟨hi, hF⟩ := hF
      refine xg_iast (pc := 42) C ha6 hka6 hi dX2_layOut_42 (fun h7 eh7 => ?_)
      have hF := hF h7 eh7
      refine xg_iload_n (pc := 43) C dX2_layOut_43 2 rfl ?_
      refine xg_iload (pc := 44) C dX2_layOut_44 0 rfl ?_
      obtain ⟨hne, hF⟩ := hF
      refine xg_idiv (pc := 46) C dX2_layOut_46 hne ?_
      refine xg_topi (pc := 47) (fun z8 ez8 => ?_)
      have hF := hF z8 ez8
      refine xg_istore_n (pc := 47) (lv2 := [(2, .int z8), (4, .int z5), (0, va_rf (some this)), (3, .int y3)]) C dX2_layOut_47 5 hnL (by decide) rfl ?_
      obtain ⟨z9, ez9⟩ : ∃ y : Int32, y = y3 + (-1) := ⟨_, rfl⟩
      have hF := hF z9 ez9
      refine xg_iinc (pc := 48) (v := z9) (lv2 := [(3, .int z9), (2, .int z8), (4, .int z5), (0, va_rf (some this))]) C dX2_layOut_48 3 rfl (by rw [ez9]; rfl) 5 hnL (by decide) rfl ?_
      refine xg_goto (pc := 51) 12 C dX2_layOut_51 (by decide) ?_
      refine xg_sub (lv2 := [(0, va_rf (some this)), (2, .int z8), (3, .int z9)]) [3, 1, 0] rfl ?_
      exact hF
  · skip
    refine xg_iload_n (pc := 0) C dX2_layOut_0 1 rfl ?_
    refine xg_istore_n (pc := 1) (lv2 := [(2, .int x1), (0, va_rf (some this)), (1, .int x1)]) C dX2_layOut_1 5 hnL (by decide) rfl ?_
    refine xg_aload_n (pc := 2) C dX2_layOut_2 1 rfl ?_
    refine xg_getr (pc := 3) (C1 := RX2) (T1 := TX2) (ci := 2) (ref := "SandGlasses$Cloth") C inm_X2_layOut_2 rfl (by decide) 12 (by decide) rfl dX2_layOut_3 (List.mem_of_getElem? (i := 1) rfl) rfl rfl hthis ?_
    obtain ⟨a1, ha1, hka1, hF⟩ := hF
    refine xg_geti (pc := 6) (C1 := RX8) (T1 := TX8) (ci := 8) (ref := "SandGlasses$Text") C inm_X2_layOut_8 rfl (by decide) 0 (by decide) rfl dX2_layOut_6 (List.mem_of_getElem? (i := 2) rfl) rfl ha1 hka1 ?_
    refine xg_iconst (pc := 9) (v := 1) C dX2_layOut_9 (by decide) ?_
    refine xg_isub (pc := 10) C dX2_layOut_10 ?_
    refine xg_topi (pc := 11) (fun z2 ez2 => ?_)
    have hF := hF z2 ez2
    refine xg_istore_n (pc := 11) (lv2 := [(3, .int z2), (2, .int x1), (0, va_rf (some this)), (1, .int x1)]) C dX2_layOut_11 5 hnL (by decide) rfl ?_
    refine xg_sub (lv2 := [(0, va_rf (some this)), (2, .int x1), (3, .int z2)]) [2, 1, 0] rfl ?_
    exact hF
def rm_X2_ranOutAt : Room := { frames := 1, cells := 0, slots := 0, locals := 20 }
theorem nd_X2_ranOutAt : yX2_ranOutAt.cls = RX2 ∧ yX2_ranOutAt.cls ≠ "java/lang/invoke/MethodHandle" ∧ yX2_ranOutAt.cls ≠ "java/lang/invoke/VarHandle" ∧ (parseMethodDescriptor yX2_ranOutAt.desc).map (fun d => d.parameters.length) = some 1 := by decide +kernel
theorem inm_X2_ranOutAt_2 : ∀ w ∈ u_ws RX2 TX2 (xg_N 2), w ∈ wsX2_ranOutAt := fun _ h9 => List.mem_cons_of_mem _ (List.mem_append_left _ (List.mem_append_right _ h9))
set_option maxHeartbeats 4000000 in
set_option maxRecDepth 100000 in
theorem met_X2_ranOutAt (Y : xg_Y) (this : Nat) (x1 : Int32) : xg_ML yX2_ranOutAt wsX2_ranOutAt rm_X2_ranOutAt Y (fun zs => [va_rf (some this), .int x1]) (fun Q h => wp_X2_ranOutAt Y Q this x1 h) := by
  refine xg_startL (cc := cX2_ranOutAt) (maxL := 2) (own := RX2) (by decide) rfl rfl (fun zs => Nat.le_of_ble_eq_true rfl) (fun X Q h C hnL E hw => ?_)
  unfold wp_X2_ranOutAt at hw
  obtain ⟨hthis, hw⟩ := hw
  refine xg_sub (lv2 := [(0, va_rf (some this)), (1, .int x1)]) [0, 1] rfl ?_
  have hF := hw
  refine xg_aload_n (pc := 0) C dX2_ranOutAt_0 0 rfl ?_
  refine xg_getr (pc := 1) (C1 := RX2) (T1 := TX2) (ci := 2) (ref := "SandGlasses$Cloth") C inm_X2_ranOutAt_2 rfl (by decide) 2 (by decide) rfl dX2_ranOutAt_1 (List.mem_of_getElem? (i := 1) rfl) rfl rfl hthis ?_
  obtain ⟨a1, ha1, hka1, hF⟩ := hF
  refine xg_cvI (pc := 4) (C1 := RX5) (T1 := TX5) (ci := 5) C (fun zs => []) ha1 hka1 (by decide) rfl (met_X5_passMinute Y a1) gX2_ranOutAt_X5_passMinute rfl ⟨rfl, rfl⟩ nd_X5_passMinute ⟨Nat.le_of_ble_eq_true rfl, Nat.le_of_ble_eq_true rfl⟩ rfl rfl (Nat.le_of_ble_eq_true rfl) ⟨Nat.zero_le _, Nat.zero_le _⟩ dX2_ranOutAt_4 hF (fun r3 h2 hF => ?_)
  refine xg_if_eq (pc := 7) 22 C dX2_ranOutAt_7 (by decide) (fun hc => ?_) (fun hc => ?_)
  · have hF := hF.1 hc
    refine xg_lconst (pc := 22) (v := 0) C dX2_ranOutAt_22 (by decide) ?_
    exact xg_retL (pc := 23) C E dX2_ranOutAt_23 hF
  · have hF := hF.2 hc
    refine xg_iload_n (pc := 10) C dX2_ranOutAt_10 1 rfl ?_
    refine xg_bipush (pc := 11) (v := 40) C dX2_ranOutAt_11 (by decide) ?_
    refine xg_icmp_gt (pc := 13) 22 C dX2_ranOutAt_13 (by decide) (fun hc => ?_) (fun hc => ?_)
    · have hF := hF.1 hc
      refine xg_lconst (pc := 22) (v := 0) C dX2_ranOutAt_22 (by decide) ?_
      exact xg_retL (pc := 23) C E dX2_ranOutAt_23 hF
    · have hF := hF.2 hc
      refine xg_lconst (pc := 16) (v := 1) C dX2_ranOutAt_16 (by decide) ?_
      refine xg_iload_n (pc := 17) C dX2_ranOutAt_17 1 rfl ?_
      refine xg_lshl (pc := 18) C dX2_ranOutAt_18 ?_
      refine xg_goto (pc := 19) 23 C dX2_ranOutAt_19 (by decide) ?_
      exact xg_retL (pc := 23) C E dX2_ranOutAt_23 hF
def rm_X2_follow : Room := { frames := 2, cells := 0, slots := 0, locals := 41 }
theorem nd_X2_follow : yX2_follow.cls = RX2 ∧ yX2_follow.cls ≠ "java/lang/invoke/MethodHandle" ∧ yX2_follow.cls ≠ "java/lang/invoke/VarHandle" ∧ (parseMethodDescriptor yX2_follow.desc).map (fun d => d.parameters.length) = some 3 := by decide +kernel
theorem inm_X2_follow_2 : ∀ w ∈ u_ws RX2 TX2 (xg_N 2), w ∈ wsX2_follow := fun _ h9 => List.mem_cons_of_mem _ (List.mem_append_left _ (List.mem_append_left _ (List.mem_append_right _ h9)))
theorem inm_X2_follow_8 : ∀ w ∈ u_ws RX8 TX8 (xg_N 8), w ∈ wsX2_follow := fun _ h9 => List.mem_cons_of_mem _ (List.mem_append_left _ (List.mem_append_right _ h9))
set_option maxHeartbeats 4000000 in
set_option maxRecDepth 100000 in
theorem met_X2_follow (Y : xg_Y) (this : Nat) (x1 : Int32) (x2 : Int32) (x3 : Int32) : xg_ML yX2_follow wsX2_follow rm_X2_follow Y (fun zs => [va_rf (some this), .int x1, .int x2, .int x3]) (fun Q h => wp_X2_follow Y Q this x1 x2 x3 h) := by
  refine xg_startL (cc := cX2_follow) (maxL := 9) (own := RX2) (by decide) rfl rfl (fun zs => Nat.le_of_ble_eq_true rfl) (fun X Q h C hnL E hw => ?_)
  unfold wp_X2_follow at hw
  obtain ⟨hthis, hw⟩ := hw
  refine xg_sub (lv2 := [(0, va_rf (some this)), (1, .int x1), (2, .int x2), (3, .int x3)]) [0, 1, 2, 3] rfl ?_
  refine mg_use (hw (fun (y4 : Int64) (y6 : Int32) (y7 : Int32) (h : xg_H) => xg_W X 0 0 Y 26 [(0, va_rf (some this)), (1, .int x1), (3, .int x3), (4, .long y4), (6, .int y6), (7, .int y7)] [] h) (fun (y4 : Int64) (y6 : Int32) (h : xg_H) => xg_W X 0 0 Y 135 [(0, va_rf (some this)), (4, .long y4), (6, .int y6)] [] h) (fun (y4 : Int64) (y6 : Int32) (y7 : Int32) (h : xg_H) => xg_W X 0 0 Y 129 [(0, va_rf (some this)), (1, .int x1), (3, .int x3), (4, .long y4), (6, .int y6), (7, .int y7)] [] h) (fun (y4 : Int64) (y6 : Int32) (y7 : Int32) (y8 : Int32) (h : xg_H) => xg_W X 0 0 Y 60 [(0, va_rf (some this)), (1, .int x1), (3, .int x3), (4, .long y4), (6, .int y6), (7, .int y7), (8, .int y8)] [] h) (fun (y4 : Int64) (y7 : Int32) (h : xg_H) => xg_W X 0 0 Y 141 [(0, va_rf (some this)), (4, .long y4), (7, .int y7)] [] h) ?_ ?_ ?_ ?_ ?_) (fun hF => ?_)
  · intro y4 y6 y7 h hF
    refine xg_iload (pc := 26) C dX2_follow_26 5 rfl ?_
    refine xg_iload_n (pc := 28) C dX2_follow_28 2 rfl ?_
    refine xg_icmp_ge (pc := 29) 135 C dX2_follow_29 (by decide) (fun hc => ?_) (fun hc => ?_)
    · have hF := hF.1 hc
      refine xg_sub (lv2 := [(0, va_rf (some this)), (4, .long y4), (6, .int y6)]) [0, 3, 4] rfl ?_
      exact hF
    · have hF := hF.2 hc
      refine xg_iload (pc := 32) C dX2_follow_32 5 rfl ?_
      refine xg_aload_n (pc := 34) C dX2_follow_34 0 rfl ?_
      refine xg_getr (pc := 35) (C1 := RX2) (T1 := TX2) (ci := 2) (ref := "SandGlasses$Cloth") C inm_X2_follow_2 rfl (by decide) 13 (by decide) rfl dX2_follow_35 (List.mem_of_getElem? (i := 4) rfl) rfl rfl hthis ?_
      obtain ⟨a5, ha5, hka5, hF⟩ := hF
      refine xg_geti (pc := 38) (C1 := RX8) (T1 := TX8) (ci := 8) (ref := "SandGlasses$Text") C inm_X2_follow_8 rfl (by decide) 0 (by decide) rfl dX2_follow_38 (List.mem_of_getElem? (i := 5) rfl) rfl ha5 hka5 ?_
      refine xg_icmp_ge (pc := 41) 135 C dX2_follow_41 (by decide) (fun hc => ?_) (fun hc => ?_)
      · have hF := hF.1 hc
        refine xg_sub (lv2 := [(0, va_rf (some this)), (4, .long y4), (6, .int y6)]) [0, 3, 4] rfl ?_
        exact hF
      · have hF := hF.2 hc
        refine xg_aload_n (pc := 44) C dX2_follow_44 0 rfl ?_
        refine xg_getr (pc := 45) (C1 := RX2) (T1 := TX2) (ci := 2) (ref := "SandGlasses$Cloth") C inm_X2_follow_2 rfl (by decide) 13 (by decide) rfl dX2_follow_45 (List.mem_of_getElem? (i := 4) rfl) rfl rfl hthis ?_
        refine xg_getr (pc := 48) (C1 := RX8) (T1 := TX8) (ci := 8) (ref := "SandGlasses$Text") C inm_X2_follow_8 rfl (by decide) 1 (by decide) rfl dX2_follow_48 (List.mem_of_getElem? (i := 3) rfl) rfl ha5 hka5 ?_
        refine xg_iload (pc := 51) C dX2_follow_51 5 rfl ?_
        obtain ⟨a6, ha6, hka6, hF⟩ := hF
        obtain ⟨hi, hF⟩ := hF
        refine xg_iald (pc := 53) C ha6 hka6 hi dX2_follow_53 ?_
        refine xg_if_ne (pc := 54) 98 C dX2_follow_54 (by decide) (fun hc => ?_) (fun hc => ?_)
        · have hF := hF.1 hc
          refine xg_aload_n (pc := 98) C dX2_follow_98 0 rfl ?_
          refine xg_getr (pc := 99) (C1 := RX2) (T1 := TX2) (ci := 2) (ref := "SandGlasses$Cloth") C inm_X2_follow_2 rfl (by decide) 13 (by decide) rfl dX2_follow_99 (List.mem_of_getElem? (i := 4) rfl) rfl rfl hthis ?_
          refine xg_getr (pc := 102) (C1 := RX8) (T1 := TX8) (ci := 8) (ref := "SandGlasses$Text") C inm_X2_follow_8 rfl (by decide) 2 (by decide) rfl dX2_follow_102 (List.mem_of_getElem? (i := 6) rfl) rfl ha5 hka5 ?_
          refine xg_iload (pc := 105) C dX2_follow_105 5 rfl ?_
          obtain ⟨a7, ha7, hka7, hF⟩ := hF
          obtain ⟨hi, hF⟩ := hF
          refine xg_iald (pc := 107) C ha7 hka7 hi dX2_follow_107 ?_
          refine xg_iload_n (pc := 108) C dX2_follow_108 1 rfl ?_
          refine xg_icmp_ne (pc := 109) 129 C dX2_follow_109 (by decide) (fun hc => ?_) (fun hc => ?_)
          · have hF := hF.1 hc
            exact hF
          · have hF := hF.2 hc
            refine xg_aload_n (pc := 112) C dX2_follow_112 0 rfl ?_
            refine xg_getr (pc := 113) (C1 := RX2) (T1 := TX2) (ci := 2) (ref := "SandGlasses$Cloth") C inm_X2_follow_2 rfl (by decide) 2 (by decide) rfl dX2_follow_113 (List.mem_of_getElem? (i := 1) rfl) rfl rfl hthis ?_
            refine xg_aload_n (pc := 116) C dX2_follow_116 0 rfl ?_
            refine xg_getr (pc := 117) (C1 := RX2) (T1 := TX2) (ci := 2) (ref := "SandGlasses$Cloth") C inm_X2_follow_2 rfl (by decide) 13 (by decide) rfl dX2_follow_117 (List.mem_of_getElem? (i := 4) rfl) rfl rfl hthis ?_
            refine xg_getr (pc := 120) (C1 := RX8) (T1 := TX8) (ci := 8) (ref := "SandGlasses$Text") C inm_X2_follow_8 rfl (by decide) 1 (by decide) rfl dX2_follow_120 (List.mem_of_getElem? (i := 3) rfl) rfl ha5 hka5 ?_
            refine xg_iload (pc := 123) C dX2_follow_123 5 rfl ?_
            obtain ⟨hi, hF⟩ := hF
            refine xg_iald (pc := 125) C ha6 hka6 hi dX2_follow_125 ?_
            obtain ⟨a8, ha8, hka8, hF⟩ := hF
            refine xg_cvV (pc := 126) (C1 := RX5) (T1 := TX5) (ci := 5) C (fun zs => [.int (xg_i h a6 y7.toNatClampNeg)]) ha8 hka8 (by decide) rfl (met_X5_act Y a8 (xg_i h a6 y7.toNatClampNeg)) gX2_follow_X5_act rfl ⟨rfl, rfl⟩ nd_X5_act ⟨Nat.le_of_ble_eq_true rfl, Nat.le_of_ble_eq_true rfl⟩ rfl rfl (Nat.le_of_ble_eq_true rfl) ⟨Nat.zero_le _, Nat.zero_le _⟩ dX2_follow_126 hF (fun h9 hF => ?_)
            exact hF
        · have hF := hF.2 hc
          refine xg_iconst (pc := 57) (v := 0) C dX2_follow_57 (by decide) ?_
          refine xg_istore (pc := 58) (lv2 := [(8, .int 0), (0, va_rf (some this)), (1, .int x1), (3, .int x3), (4, .long y4), (6, .int y6), (7, .int y7)]) C dX2_follow_58 9 hnL (by decide) rfl ?_
          refine xg_sub (lv2 := [(0, va_rf (some this)), (1, .int x1), (3, .int x3), (4, .long y4), (6, .int y6), (7, .int y7), (8, .int 0)]) [1, 2, 3, 4, 5, 6, 0] rfl ?_
          exact hF
  · intro y4 y6 h hF
    refine xg_iload (pc := 135) C dX2_follow_135 2 rfl ?_
    refine xg_iconst (pc := 137) (v := 1) C dX2_follow_137 (by decide) ?_
    refine xg_iadd (pc := 138) C dX2_follow_138 ?_
    refine xg_topi (pc := 139) (fun z10 ez10 => ?_)
    have hF := hF z10 ez10
    refine xg_istore (pc := 139) (lv2 := [(7, .int z10), (0, va_rf (some this)), (4, .long y4), (6, .int y6)]) C dX2_follow_139 9 hnL (by decide) rfl ?_
    refine xg_sub (lv2 := [(0, va_rf (some this)), (4, .long y4), (7, .int z10)]) [1, 2, 0] rfl ?_
    exact hF
  · intro y4 y6 y7 h hF
    obtain ⟨z11, ez11⟩ : ∃ y : Int32, y = y7 + 1 := ⟨_, rfl⟩
    have hF := hF z11 ez11
    refine xg_iinc (pc := 129) (v := z11) (lv2 := [(7, .int z11), (0, va_rf (some this)), (1, .int x1), (3, .int x3), (4, .long y4), (6, .int y6)]) C dX2_follow_129 5 rfl (by rw [ez11]; rfl) 9 hnL (by decide) rfl ?_
    refine xg_goto (pc := 132) 26 C dX2_follow_132 (by decide) ?_
    refine xg_sub (lv2 := [(0, va_rf (some this)), (1, .int x1), (3, .int x3), (4, .long y4), (6, .int y6), (7, .int z11)]) [1, 2, 3, 4, 5, 0] rfl ?_
    exact hF
  · intro y4 y6 y7 y8 h hF
    refine xg_iload (pc := 60) C dX2_follow_60 6 rfl ?_
    refine xg_aload_n (pc := 62) C dX2_follow_62 0 rfl ?_
    refine xg_getr (pc := 63) (C1 := RX2) (T1 := TX2) (ci := 2) (ref := "SandGlasses$Cloth") C inm_X2_follow_2 rfl (by decide) 13 (by decide) rfl dX2_follow_63 (List.mem_of_getElem? (i := 4) rfl) rfl rfl hthis ?_
    obtain ⟨a12, ha12, hka12, hF⟩ := hF
    refine xg_getr (pc := 66) (C1 := RX8) (T1 := TX8) (ci := 8) (ref := "SandGlasses$Text") C inm_X2_follow_8 rfl (by decide) 2 (by decide) rfl dX2_follow_66 (List.mem_of_getElem? (i := 6) rfl) rfl ha12 hka12 ?_
    refine xg_iload (pc := 69) C dX2_follow_69 5 rfl ?_
    obtain ⟨a13, ha13, hka13, hF⟩ := hF
    obtain ⟨hi, hF⟩ := hF
    refine xg_iald (pc := 71) C ha13 hka13 hi dX2_follow_71 ?_
    refine xg_icmp_ge (pc := 72) 95 C dX2_follow_72 (by decide) (fun hc => ?_) (fun hc => ?_)
    · have hF := hF.1 hc
      refine xg_goto (pc := 95) 129 C dX2_follow_95 (by decide) ?_
      refine xg_sub (lv2 := [(0, va_rf (some this)), (1, .int x1), (3, .int x3), (4, .long y4), (6, .int y6), (7, .int y7)]) [0, 1, 2, 3, 4, 5] rfl ?_
      exact hF
    · have hF := hF.2 hc
      obtain ⟨z14, ez14⟩ : ∃ y : Int32, y = y6 + 1 := ⟨_, rfl⟩
      have hF := hF z14 ez14
      refine xg_iinc (pc := 75) (v := z14) (lv2 := [(6, .int z14), (0, va_rf (some this)), (1, .int x1), (3, .int x3), (4, .long y4), (7, .int y7), (8, .int y8)]) C dX2_follow_75 4 rfl (by rw [ez14]; rfl) 9 hnL (by decide) rfl ?_
      refine xg_lload (pc := 78) C dX2_follow_78 4 rfl ?_
      refine xg_aload_n (pc := 80) C dX2_follow_80 1 rfl ?_
      refine xg_iload (pc := 81) C dX2_follow_81 0 rfl ?_
      refine xg_cvL (pc := 83) (C1 := RX2) (T1 := TX2) (ci := 2) C (fun zs => [.int z14]) rfl hthis (by decide) rfl (met_X2_ranOutAt Y this z14) gX2_follow_X2_ranOutAt rfl ⟨rfl, rfl⟩ nd_X2_ranOutAt ⟨Nat.le_of_ble_eq_true rfl, Nat.le_of_ble_eq_true rfl⟩ rfl rfl (Nat.le_of_ble_eq_true rfl) ⟨Nat.zero_le _, Nat.zero_le _⟩ dX2_follow_83 hF (fun r16 h15 hF => ?_)
      refine xg_lor (pc := 86) C dX2_follow_86 ?_
      refine xg_topl (pc := 87) (fun z17 ez17 => ?_)
      have hF := hF z17 ez17
      refine xg_lstore (pc := 87) (lv2 := [(4, .long z17), (6, .int z14), (0, va_rf (some this)), (1, .int x1), (3, .int x3), (7, .int y7), (8, .int y8)]) C dX2_follow_87 9 hnL (by decide) rfl ?_
      obtain ⟨z18, ez18⟩ : ∃ y : Int32, y = y8 + 1 := ⟨_, rfl⟩
      have hF := hF z18 ez18
      refine xg_iinc (pc := 89) (v := z18) (lv2 := [(8, .int z18), (4, .long z17), (6, .int z14), (0, va_rf (some this)), (1, .int x1), (3, .int x3), (7, .int y7)]) C dX2_follow_89 6 rfl (by rw [ez18]; rfl) 9 hnL (by decide) rfl ?_
      refine xg_goto (pc := 92) 60 C dX2_follow_92 (by decide) ?_
      refine xg_sub (lv2 := [(0, va_rf (some this)), (1, .int x1), (3, .int x3), (4, .long z17), (6, .int z14), (7, .int y7), (8, .int z18)]) [3, 4, 5, 1, 2, 6, 0] rfl ?_
      exact hF
  · intro y4 y7 h hF
    refine xg_iload (pc := 141) C dX2_follow_141 2 rfl ?_
    refine xg_bipush (pc := 143) (v := 40) C dX2_follow_143 (by decide) ?_
    refine xg_icmp_gt (pc := 145) 165 C dX2_follow_145 (by decide) (fun hc => ?_) (fun hc => ?_)
    · have hF := hF.1 hc
      refine xg_lload (pc := 165) C dX2_follow_165 1 rfl ?_
      exact xg_retL (pc := 167) C E dX2_follow_167 hF
    · have hF := hF.2 hc
      refine xg_lload (pc := 148) C dX2_follow_148 1 rfl ?_
      refine xg_aload_n (pc := 150) C dX2_follow_150 0 rfl ?_
      refine xg_iload (pc := 151) C dX2_follow_151 2 rfl ?_
      refine xg_cvL (pc := 153) (C1 := RX2) (T1 := TX2) (ci := 2) C (fun zs => [.int y7]) rfl hthis (by decide) rfl (met_X2_ranOutAt Y this y7) gX2_follow_X2_ranOutAt rfl ⟨rfl, rfl⟩ nd_X2_ranOutAt ⟨Nat.le_of_ble_eq_true rfl, Nat.le_of_ble_eq_true rfl⟩ rfl rfl (Nat.le_of_ble_eq_true rfl) ⟨Nat.zero_le _, Nat.zero_le _⟩ dX2_follow_153 hF (fun r20 h19 hF => ?_)
      refine xg_lor (pc := 156) C dX2_follow_156 ?_
      refine xg_topl (pc := 157) (fun z21 ez21 => ?_)
      have hF := hF z21 ez21
      refine xg_lstore (pc := 157) (lv2 := [(4, .long z21), (0, va_rf (some this)), (7, .int y7)]) C dX2_follow_157 9 hnL (by decide) rfl ?_
      obtain ⟨z22, ez22⟩ : ∃ y : Int32, y = y7 + 1 := ⟨_, rfl⟩
      have hF := hF z22 ez22
      refine xg_iinc (pc := 159) (v := z22) (lv2 := [(7, .int z22), (4, .long z21), (0, va_rf (some this))]) C dX2_follow_159 2 rfl (by rw [ez22]; rfl) 9 hnL (by decide) rfl ?_
      refine xg_goto (pc := 162) 141 C dX2_follow_162 (by decide) ?_
      refine xg_sub (lv2 := [(0, va_rf (some this)), (4, .long z21), (7, .int z22)]) [2, 1, 0] rfl ?_
      exact hF
  · skip
    refine xg_aload_n (pc := 0) C dX2_follow_0 0 rfl ?_
    refine xg_getr (pc := 1) (C1 := RX2) (T1 := TX2) (ci := 2) (ref := "SandGlasses$Cloth") C inm_X2_follow_2 rfl (by decide) 2 (by decide) rfl dX2_follow_1 (List.mem_of_getElem? (i := 1) rfl) rfl rfl hthis ?_
    refine xg_aload_n (pc := 4) C dX2_follow_4 0 rfl ?_
    refine xg_getr (pc := 5) (C1 := RX2) (T1 := TX2) (ci := 2) (ref := "SandGlasses$Cloth") C inm_X2_follow_2 rfl (by decide) 12 (by decide) rfl dX2_follow_5 (List.mem_of_getElem? (i := 2) rfl) rfl rfl hthis ?_
    obtain ⟨a1, ha1, hka1, hF⟩ := hF
    refine xg_getr (pc := 8) (C1 := RX8) (T1 := TX8) (ci := 8) (ref := "SandGlasses$Text") C inm_X2_follow_8 rfl (by decide) 1 (by decide) rfl dX2_follow_8 (List.mem_of_getElem? (i := 3) rfl) rfl ha1 hka1 ?_
    refine xg_iload_n (pc := 11) C dX2_follow_11 1 rfl ?_
    obtain ⟨a2, ha2, hka2, hF⟩ := hF
    obtain ⟨hi, hF⟩ := hF
    refine xg_iald (pc := 12) C ha2 hka2 hi dX2_follow_12 ?_
    refine xg_iload_n (pc := 13) C dX2_follow_13 2 rfl ?_
    obtain ⟨a3, ha3, hka3, hF⟩ := hF
    refine xg_cvV (pc := 14) (C1 := RX5) (T1 := TX5) (ci := 5) C (fun zs => [.int (xg_i h a2 x1.toNatClampNeg), .int x2]) ha3 hka3 (by decide) rfl (met_X5_put Y a3 (xg_i h a2 x1.toNatClampNeg) x2) gX2_follow_X5_put rfl ⟨rfl, rfl⟩ nd_X5_put ⟨Nat.le_of_ble_eq_true rfl, Nat.le_of_ble_eq_true rfl⟩ rfl rfl (Nat.le_of_ble_eq_true rfl) ⟨Nat.zero_le _, Nat.zero_le _⟩ dX2_follow_14 hF (fun h4 hF => ?_)
    refine xg_lconst (pc := 17) (v := 0) C dX2_follow_17 (by decide) ?_
    refine xg_lstore (pc := 18) (lv2 := [(4, .long 0), (0, va_rf (some this)), (1, .int x1), (2, .int x2), (3, .int x3)]) C dX2_follow_18 9 hnL (by decide) rfl ?_
    refine xg_iconst (pc := 20) (v := 0) C dX2_follow_20 (by decide) ?_
    refine xg_istore (pc := 21) (lv2 := [(6, .int 0), (4, .long 0), (0, va_rf (some this)), (1, .int x1), (2, .int x2), (3, .int x3)]) C dX2_follow_21 9 hnL (by decide) rfl ?_
    refine xg_iconst (pc := 23) (v := 0) C dX2_follow_23 (by decide) ?_
    refine xg_istore (pc := 24) (lv2 := [(7, .int 0), (6, .int 0), (4, .long 0), (0, va_rf (some this)), (1, .int x1), (2, .int x2), (3, .int x3)]) C dX2_follow_24 9 hnL (by decide) rfl ?_
    refine xg_sub (lv2 := [(0, va_rf (some this)), (1, .int x1), (3, .int x3), (4, .long 0), (6, .int 0), (7, .int 0)]) [3, 4, 6, 2, 1, 0] rfl ?_
    exact hF
