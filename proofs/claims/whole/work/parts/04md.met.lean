def rm_layRow : Room := { frames := 3, cells := 0, slots := 0, locals := 73 }
theorem nd_layRow : yX12_layRow.cls = RX12 ∧ yX12_layRow.cls ≠ "java/lang/invoke/MethodHandle" ∧ yX12_layRow.cls ≠ "java/lang/invoke/VarHandle" ∧ (parseMethodDescriptor yX12_layRow.desc).map (fun d => d.parameters.length) = some 1 := by decide +kernel
theorem inm_layRow : ∀ w ∈ wsX120, w ∈ wsX12_layRow := fun _ h9 => List.mem_cons_of_mem _ (List.mem_append_right _ h9)
set_option maxHeartbeats 4000000 in
set_option maxRecDepth 100000 in
theorem met_layRow (x1 : Int32) : mg_MV yX12_layRow wsX12_layRow rm_layRow (fun ad => [.ref (ad 0), .int x1]) (fun Q h => wp_layRow Q x1 h) := by
  refine mg_startV (cc := cX12_layRow) (maxL := 5) (by decide) rfl rfl (fun ad => Nat.le_of_ble_eq_true rfl) (fun X Q h C hnL E hw => ?_)
  unfold wp_layRow at hw
  refine mg_sub (lv2 := [(0, .ref (mg_ad X 0)), (1, .int x1)]) [0, 1] rfl ?_
  refine mg_use (hw (fun (y2 : Int32) (y3 : Int32) (h : mg_H) => mg_W X 12 [(0, .ref (mg_ad X 0)), (1, .int x1), (2, .int y2), (3, .int y3)] [] h) (fun (y2 : Int32) (y3 : Int32) (y4 : Int32) (h : mg_H) => mg_W X 20 [(0, .ref (mg_ad X 0)), (1, .int x1), (2, .int y2), (3, .int y3), (4, .int y4)] [] h) ?_ ?_) (fun hF => ?_)
  · intro y2 y3 h hF
    refine mg_iload_n (pc := 12) C dX12_layRow_12 2 rfl ?_
    refine mg_iload_n (pc := 13) C dX12_layRow_13 1 rfl ?_
    refine mg_icmp_ge (pc := 14) 99 C dX12_layRow_14 (by decide) (fun hc => ?_) (fun hc => ?_)
    · have hF := hF.1 hc
      exact mg_retV (pc := 99) C E dX12_layRow_99 hF
    · have hF := hF.2 hc
      refine mg_iconst (pc := 17) (v := 0) C dX12_layRow_17 (by decide) ?_
      refine mg_istore (pc := 18) (lv2 := [(4, .int 0), (0, .ref (mg_ad X 0)), (1, .int x1), (2, .int y2), (3, .int y3)]) C dX12_layRow_18 5 hnL (by decide) rfl ?_
      refine mg_sub (lv2 := [(0, .ref (mg_ad X 0)), (1, .int x1), (2, .int y2), (3, .int y3), (4, .int 0)]) [1, 2, 3, 4, 0] rfl ?_
      exact hF
  · intro y2 y3 y4 h hF
    refine mg_aload_n (pc := 20) C dX12_layRow_20 0 rfl ?_
    refine mg_iload_n (pc := 21) C dX12_layRow_21 1 rfl ?_
    refine mg_iload_n (pc := 22) C dX12_layRow_22 2 rfl ?_
    refine mg_iload_n (pc := 23) C dX12_layRow_23 3 rfl ?_
    refine mg_iload (pc := 24) C dX12_layRow_24 4 rfl ?_
    refine mg_cvI (pc := 26) C (fun ad => [.int x1, .int y2, .int y3, .int y4]) (met_leftBy x1 y2 y3 y4) gX12_layRow_X12_leftBy rfl ⟨rfl, rfl⟩ nd_leftBy ⟨Nat.le_of_ble_eq_true rfl, Nat.le_of_ble_eq_true rfl⟩ rfl rfl (Nat.le_of_ble_eq_true rfl) dX12_layRow_26 hF (fun r4 h3 hF => ?_)
    refine mg_aload_n (pc := 29) C dX12_layRow_29 0 rfl ?_
    refine mg_getr (pc := 30) C inm_layRow 40 (by decide) (by decide) dX12_layRow_30 (List.mem_of_getElem? (i := 3) rfl) ?_
    refine mg_sipush (pc := 33) (v := 4096) C dX12_layRow_33 (by decide) ?_
    refine mg_iload_n (pc := 36) C dX12_layRow_36 2 rfl ?_
    refine mg_imul (pc := 37) C dX12_layRow_37 ?_
    refine mg_iload_n (pc := 38) C dX12_layRow_38 3 rfl ?_
    refine mg_iadd (pc := 39) C dX12_layRow_39 ?_
    obtain ⟨hi, hF⟩ := hF
    refine mg_iald (pc := 40) C (by decide) rfl hi dX12_layRow_40 ?_
    refine mg_icmp_eq (pc := 41) 50 C dX12_layRow_41 (by decide) (fun hc => ?_) (fun hc => ?_)
    · have hF := hF.1 hc
      refine mg_aload_n (pc := 50) C dX12_layRow_50 0 rfl ?_
      refine mg_getr (pc := 51) C inm_layRow 41 (by decide) (by decide) dX12_layRow_51 (List.mem_of_getElem? (i := 4) rfl) ?_
      refine mg_aload_n (pc := 54) C dX12_layRow_54 0 rfl ?_
      refine mg_geti (pc := 55) C inm_layRow 43 (by decide) rfl (by decide) dX12_layRow_55 (List.mem_of_getElem? (i := 1) rfl) ?_
      refine mg_iload (pc := 58) C dX12_layRow_58 4 rfl ?_
      obtain ⟨hi, hF⟩ := hF
      refine mg_iast (pc := 60) C (by decide) rfl hi dX12_layRow_60 (fun h5 eh5 => ?_)
      have hF := hF h5 eh5
      refine mg_aload_n (pc := 61) C dX12_layRow_61 0 rfl ?_
      refine mg_getr (pc := 62) C inm_layRow 42 (by decide) (by decide) dX12_layRow_62 (List.mem_of_getElem? (i := 5) rfl) ?_
      refine mg_aload_n (pc := 65) C dX12_layRow_65 0 rfl ?_
      refine mg_geti (pc := 66) C inm_layRow 43 (by decide) rfl (by decide) dX12_layRow_66 (List.mem_of_getElem? (i := 1) rfl) ?_
      refine mg_iload_n (pc := 69) C dX12_layRow_69 2 rfl ?_
      obtain ⟨hi, hF⟩ := hF
      refine mg_iast (pc := 70) C (by decide) rfl hi dX12_layRow_70 (fun h6 eh6 => ?_)
      have hF := hF h6 eh6
      refine mg_aload_n (pc := 71) C dX12_layRow_71 0 rfl ?_
      refine mg_dup (pc := 72) C dX12_layRow_72 rfl ?_
      refine mg_geti (pc := 73) C inm_layRow 43 (by decide) rfl (by decide) dX12_layRow_73 (List.mem_of_getElem? (i := 1) rfl) ?_
      refine mg_iconst (pc := 76) (v := 1) C dX12_layRow_76 (by decide) ?_
      refine mg_iadd (pc := 77) C dX12_layRow_77 ?_
      refine mg_puti (pc := 78) C inm_layRow 43 (by decide) rfl (by decide) dX12_layRow_78 (List.mem_of_getElem? (i := 1) rfl) rfl (tyX12_ok 43 (by decide)) (fun h7 eh7 => ?_)
      have hF := hF h7 eh7
      refine mg_iload_n (pc := 81) C dX12_layRow_81 2 rfl ?_
      refine mg_aload_n (pc := 82) C dX12_layRow_82 0 rfl ?_
      refine mg_iload_n (pc := 83) C dX12_layRow_83 3 rfl ?_
      refine mg_iload (pc := 84) C dX12_layRow_84 4 rfl ?_
      refine mg_cvI (pc := 86) C (fun ad => [.int y3, .int y4]) (met_next y3 y4) gX12_layRow_X12_next rfl ⟨rfl, rfl⟩ nd_next ⟨Nat.le_of_ble_eq_true rfl, Nat.le_of_ble_eq_true rfl⟩ rfl rfl (Nat.le_of_ble_eq_true rfl) dX12_layRow_86 hF (fun r9 h8 hF => ?_)
      refine mg_iadd (pc := 89) C dX12_layRow_89 ?_
      refine mg_topi (pc := 90) (fun z10 ez10 => ?_)
      have hF := hF z10 ez10
      refine mg_istore_n (pc := 90) (lv2 := [(2, .int z10), (0, .ref (mg_ad X 0)), (1, .int x1), (3, .int y3), (4, .int y4)]) C dX12_layRow_90 5 hnL (by decide) rfl ?_
      refine mg_aload_n (pc := 91) C dX12_layRow_91 1 rfl ?_
      refine mg_geti (pc := 92) C inm_layRow 39 (by decide) rfl (by decide) dX12_layRow_92 (List.mem_of_getElem? (i := 6) rfl) ?_
      refine mg_topi (pc := 95) (fun z11 ez11 => ?_)
      have hF := hF z11 ez11
      refine mg_istore_n (pc := 95) (lv2 := [(3, .int z11), (2, .int z10), (0, .ref (mg_ad X 0)), (1, .int x1), (4, .int y4)]) C dX12_layRow_95 5 hnL (by decide) rfl ?_
      refine mg_goto (pc := 96) 12 C dX12_layRow_96 (by decide) ?_
      refine mg_sub (lv2 := [(0, .ref (mg_ad X 0)), (1, .int x1), (2, .int z10), (3, .int z11)]) [2, 3, 1, 0] rfl ?_
      exact hF
    · have hF := hF.2 hc
      obtain ⟨z12, ez12⟩ : ∃ y : Int32, y = y4 + 1 := ⟨_, rfl⟩
      have hF := hF z12 ez12
      refine mg_iinc (pc := 44) (v := z12) (lv2 := [(4, .int z12), (0, .ref (mg_ad X 0)), (1, .int x1), (2, .int y2), (3, .int y3)]) C dX12_layRow_44 4 rfl (by rw [ez12]; rfl) 5 hnL (by decide) rfl ?_
      refine mg_goto (pc := 47) 20 C dX12_layRow_47 (by decide) ?_
      refine mg_sub (lv2 := [(0, .ref (mg_ad X 0)), (1, .int x1), (2, .int y2), (3, .int y3), (4, .int z12)]) [1, 2, 3, 4, 0] rfl ?_
      exact hF
  · skip
    refine mg_aload_n (pc := 0) C dX12_layRow_0 0 rfl ?_
    refine mg_iconst (pc := 1) (v := 0) C dX12_layRow_1 (by decide) ?_
    refine mg_puti (pc := 2) C inm_layRow 43 (by decide) rfl (by decide) dX12_layRow_2 (List.mem_of_getElem? (i := 1) rfl) rfl (tyX12_ok 43 (by decide)) (fun h1 eh1 => ?_)
    have hF := hF h1 eh1
    refine mg_iconst (pc := 5) (v := 0) C dX12_layRow_5 (by decide) ?_
    refine mg_istore_n (pc := 6) (lv2 := [(2, .int 0), (0, .ref (mg_ad X 0)), (1, .int x1)]) C dX12_layRow_6 5 hnL (by decide) rfl ?_
    refine mg_aload_n (pc := 7) C dX12_layRow_7 1 rfl ?_
    refine mg_geti (pc := 8) C inm_layRow 26 (by decide) rfl (by decide) dX12_layRow_8 (List.mem_of_getElem? (i := 2) rfl) ?_
    refine mg_topi (pc := 11) (fun z2 ez2 => ?_)
    have hF := hF z2 ez2
    refine mg_istore_n (pc := 11) (lv2 := [(3, .int z2), (2, .int 0), (0, .ref (mg_ad X 0)), (1, .int x1)]) C dX12_layRow_11 5 hnL (by decide) rfl ?_
    refine mg_sub (lv2 := [(0, .ref (mg_ad X 0)), (1, .int x1), (2, .int 0), (3, .int z2)]) [2, 3, 1, 0] rfl ?_
    exact hF
def rm_ofRow : Room := { frames := 5, cells := 0, slots := 0, locals := 120 }
theorem nd_ofRow : yX12_ofRow.cls = RX12 ∧ yX12_ofRow.cls ≠ "java/lang/invoke/MethodHandle" ∧ yX12_ofRow.cls ≠ "java/lang/invoke/VarHandle" ∧ (parseMethodDescriptor yX12_ofRow.desc).map (fun d => d.parameters.length) = some 2 := by decide +kernel
theorem inm_ofRow : ∀ w ∈ wsX120, w ∈ wsX12_ofRow := fun _ h9 => List.mem_cons_of_mem _ (List.mem_append_right _ h9)
set_option maxHeartbeats 4000000 in
set_option maxRecDepth 100000 in
theorem met_ofRow (x1 : Int32) (x2 : Int32) : mg_MI yX12_ofRow wsX12_ofRow rm_ofRow (fun ad => [.ref (ad 0), .int x1, .int x2]) (fun Q h => wp_ofRow Q x1 x2 h) := by
  refine mg_startI (cc := cX12_ofRow) (maxL := 5) (by decide) rfl rfl (fun ad => Nat.le_of_ble_eq_true rfl) (fun X Q h C hnL E hw => ?_)
  unfold wp_ofRow at hw
  refine mg_sub (lv2 := [(0, .ref (mg_ad X 0)), (1, .int x1), (2, .int x2)]) [0, 1, 2] rfl ?_
  refine mg_use (hw (fun (y3 : Int32) (y4 : Int32) (h : mg_H) => mg_W X 94 [(0, .ref (mg_ad X 0)), (2, .int x2), (3, .int y3), (4, .int y4)] [] h) (fun (s0 : Int32) (h : mg_H) => mg_W X 48 [(0, .ref (mg_ad X 0)), (2, .int x2)] [.int s0] h) (fun (y4 : Int32) (s0 : Int32) (s1 : Int32) (h : mg_H) => mg_W X 125 [(0, .ref (mg_ad X 0)), (2, .int x2), (4, .int y4)] [.int s0, .int s1] h) ?_ ?_ ?_) (fun hF => ?_)
  · intro y3 y4 h hF
    refine mg_iload (pc := 94) C dX12_ofRow_94 3 rfl ?_
    refine mg_aload_n (pc := 96) C dX12_ofRow_96 0 rfl ?_
    refine mg_geti (pc := 97) C inm_ofRow 43 (by decide) rfl (by decide) dX12_ofRow_97 (List.mem_of_getElem? (i := 3) rfl) ?_
    refine mg_icmp_ge (pc := 100) 133 C dX12_ofRow_100 (by decide) (fun hc => ?_) (fun hc => ?_)
    · have hF := hF.1 hc
      refine mg_iload_n (pc := 133) C dX12_ofRow_133 2 rfl ?_
      exact mg_retI (pc := 134) C E dX12_ofRow_134 hF
    · have hF := hF.2 hc
      refine mg_iload_n (pc := 103) C dX12_ofRow_103 2 rfl ?_
      refine mg_aload_n (pc := 104) C dX12_ofRow_104 0 rfl ?_
      refine mg_getr (pc := 105) C inm_ofRow 41 (by decide) (by decide) dX12_ofRow_105 (List.mem_of_getElem? (i := 4) rfl) ?_
      refine mg_iload (pc := 108) C dX12_ofRow_108 3 rfl ?_
      obtain ⟨hi, hF⟩ := hF
      refine mg_iald (pc := 110) C (by decide) rfl hi dX12_ofRow_110 ?_
      refine mg_iload_n (pc := 111) C dX12_ofRow_111 1 rfl ?_
      refine mg_iconst (pc := 112) (v := 3) C dX12_ofRow_112 (by decide) ?_
      refine mg_isub (pc := 113) C dX12_ofRow_113 ?_
      refine mg_csI (pc := 114) C (fun ad => [.int (mg_i h 41 y4.toNatClampNeg), .int (x2 - 3)]) (met_has (mg_i h 41 y4.toNatClampNeg) (x2 - 3)) gX12_ofRow_X12_has rfl ⟨rfl, rfl⟩ nd_has.2 ⟨Nat.le_of_ble_eq_true rfl, Nat.le_of_ble_eq_true rfl⟩ rfl rfl (Nat.le_of_ble_eq_true rfl) dX12_ofRow_114 hF (fun r4 h3 hF => ?_)
      refine mg_if_eq (pc := 117) 124 C dX12_ofRow_117 (by decide) (fun hc => ?_) (fun hc => ?_)
      · have hF := hF.1 hc
        refine mg_iconst (pc := 124) (v := 0) C dX12_ofRow_124 (by decide) ?_
        refine mg_sub (lv2 := [(0, .ref (mg_ad X 0)), (2, .int x2), (4, .int y4)]) [0, 1, 3] rfl ?_
        exact hF
      · have hF := hF.2 hc
        refine mg_iconst (pc := 120) (v := 1) C dX12_ofRow_120 (by decide) ?_
        refine mg_goto (pc := 121) 125 C dX12_ofRow_121 (by decide) ?_
        refine mg_sub (lv2 := [(0, .ref (mg_ad X 0)), (2, .int x2), (4, .int y4)]) [0, 1, 3] rfl ?_
        exact hF
  · intro s0 h hF
    refine mg_istore_n (pc := 48) (lv2 := [(3, .int s0), (0, .ref (mg_ad X 0)), (2, .int x2)]) C dX12_ofRow_48 5 hnL (by decide) rfl ?_
    refine mg_iload_n (pc := 49) C dX12_ofRow_49 0 rfl ?_
    refine mg_iconst (pc := 50) (v := 0) C dX12_ofRow_50 (by decide) ?_
    refine mg_aload_n (pc := 51) C dX12_ofRow_51 1 rfl ?_
    refine mg_geti (pc := 52) C inm_ofRow 43 (by decide) rfl (by decide) dX12_ofRow_52 (List.mem_of_getElem? (i := 3) rfl) ?_
    refine mg_iconst (pc := 55) (v := 1) C dX12_ofRow_55 (by decide) ?_
    refine mg_isub (pc := 56) C dX12_ofRow_56 ?_
    refine mg_csI (pc := 57) C (fun ad => [.int s0, .int 0, .int ((mg_i h 0 43) - 1)]) (met_in s0 0 ((mg_i h 0 43) - 1)) gX12_ofRow_X12_in rfl ⟨rfl, rfl⟩ nd_in.2 ⟨Nat.le_of_ble_eq_true rfl, Nat.le_of_ble_eq_true rfl⟩ rfl rfl (Nat.le_of_ble_eq_true rfl) dX12_ofRow_57 hF (fun r6 h5 hF => ?_)
    refine mg_if_ne (pc := 60) 67 C dX12_ofRow_60 (by decide) (fun hc => ?_) (fun hc => ?_)
    · have hF := hF.1 hc
      refine mg_iload_n (pc := 67) C dX12_ofRow_67 2 rfl ?_
      refine mg_bipush (pc := 68) (v := 50) C dX12_ofRow_68 (by decide) ?_
      refine mg_icmp_ge (pc := 70) 82 C dX12_ofRow_70 (by decide) (fun hc => ?_) (fun hc => ?_)
      · have hF := hF.1 hc
        refine mg_aload_n (pc := 82) C dX12_ofRow_82 1 rfl ?_
        refine mg_getr (pc := 83) C inm_ofRow 42 (by decide) (by decide) dX12_ofRow_83 (List.mem_of_getElem? (i := 5) rfl) ?_
        refine mg_iload_n (pc := 86) C dX12_ofRow_86 0 rfl ?_
        obtain ⟨hi, hF⟩ := hF
        refine mg_iald (pc := 87) C (by decide) rfl hi dX12_ofRow_87 ?_
        exact mg_retI (pc := 88) C E dX12_ofRow_88 hF
      · have hF := hF.2 hc
        refine mg_aload_n (pc := 73) C dX12_ofRow_73 1 rfl ?_
        refine mg_getr (pc := 74) C inm_ofRow 41 (by decide) (by decide) dX12_ofRow_74 (List.mem_of_getElem? (i := 4) rfl) ?_
        refine mg_iload_n (pc := 77) C dX12_ofRow_77 0 rfl ?_
        obtain ⟨hi, hF⟩ := hF
        refine mg_iald (pc := 78) C (by decide) rfl hi dX12_ofRow_78 ?_
        refine mg_goto (pc := 79) 88 C dX12_ofRow_79 (by decide) ?_
        exact mg_retI (pc := 88) C E dX12_ofRow_88 hF
    · have hF := hF.2 hc
      refine mg_iconst (pc := 63) (v := (-1)) C dX12_ofRow_63 (by decide) ?_
      refine mg_goto (pc := 64) 88 C dX12_ofRow_64 (by decide) ?_
      exact mg_retI (pc := 88) C E dX12_ofRow_88 hF
  · intro y4 s0 s1 h hF
    refine mg_iadd (pc := 125) C dX12_ofRow_125 ?_
    refine mg_topi (pc := 126) (fun z7 ez7 => ?_)
    have hF := hF z7 ez7
    refine mg_istore_n (pc := 126) (lv2 := [(3, .int z7), (0, .ref (mg_ad X 0)), (2, .int x2), (4, .int y4)]) C dX12_ofRow_126 5 hnL (by decide) rfl ?_
    obtain ⟨z8, ez8⟩ : ∃ y : Int32, y = y4 + 1 := ⟨_, rfl⟩
    have hF := hF z8 ez8
    refine mg_iinc (pc := 127) (v := z8) (lv2 := [(4, .int z8), (3, .int z7), (0, .ref (mg_ad X 0)), (2, .int x2)]) C dX12_ofRow_127 3 rfl (by rw [ez8]; rfl) 5 hnL (by decide) rfl ?_
    refine mg_goto (pc := 130) 94 C dX12_ofRow_130 (by decide) ?_
    refine mg_sub (lv2 := [(0, .ref (mg_ad X 0)), (2, .int x2), (3, .int z7), (4, .int z8)]) [2, 3, 1, 0] rfl ?_
    exact hF
  · skip
    refine mg_aload_n (pc := 0) C dX12_ofRow_0 0 rfl ?_
    refine mg_iload_n (pc := 1) C dX12_ofRow_1 1 rfl ?_
    refine mg_cvV (pc := 2) C (fun ad => [.int x1]) (met_layBack x1) gX12_ofRow_X12_layBack rfl ⟨rfl, rfl⟩ nd_layBack ⟨Nat.le_of_ble_eq_true rfl, Nat.le_of_ble_eq_true rfl⟩ rfl rfl (Nat.le_of_ble_eq_true rfl) dX12_ofRow_2 hF (fun h1 hF => ?_)
    refine mg_aload_n (pc := 5) C dX12_ofRow_5 0 rfl ?_
    refine mg_getr (pc := 6) C inm_ofRow 40 (by decide) (by decide) dX12_ofRow_6 (List.mem_of_getElem? (i := 1) rfl) ?_
    refine mg_aload_n (pc := 9) C dX12_ofRow_9 0 rfl ?_
    refine mg_geti (pc := 10) C inm_ofRow 26 (by decide) rfl (by decide) dX12_ofRow_10 (List.mem_of_getElem? (i := 2) rfl) ?_
    obtain ⟨hi, hF⟩ := hF
    refine mg_iald (pc := 13) C (by decide) rfl hi dX12_ofRow_13 ?_
    refine mg_iconst (pc := 14) (v := (-1)) C dX12_ofRow_14 (by decide) ?_
    refine mg_icmp_ne (pc := 15) 20 C dX12_ofRow_15 (by decide) (fun hc => ?_) (fun hc => ?_)
    · have hF := hF.1 hc
      refine mg_aload_n (pc := 20) C dX12_ofRow_20 0 rfl ?_
      refine mg_iload_n (pc := 21) C dX12_ofRow_21 1 rfl ?_
      refine mg_cvV (pc := 22) C (fun ad => [.int x1]) (met_layRow x1) gX12_ofRow_X12_layRow rfl ⟨rfl, rfl⟩ nd_layRow ⟨Nat.le_of_ble_eq_true rfl, Nat.le_of_ble_eq_true rfl⟩ rfl rfl (Nat.le_of_ble_eq_true rfl) dX12_ofRow_22 hF (fun h2 hF => ?_)
      refine mg_iload_n (pc := 25) C dX12_ofRow_25 2 rfl ?_
      refine mg_bipush (pc := 26) (v := 10) C dX12_ofRow_26 (by decide) ?_
      refine mg_icmp_lt (pc := 28) 89 C dX12_ofRow_28 (by decide) (fun hc => ?_) (fun hc => ?_)
      · have hF := hF.1 hc
        refine mg_iconst (pc := 89) (v := 0) C dX12_ofRow_89 (by decide) ?_
        refine mg_istore_n (pc := 90) (lv2 := [(3, .int 0), (0, .ref (mg_ad X 0)), (1, .int x1), (2, .int x2)]) C dX12_ofRow_90 5 hnL (by decide) rfl ?_
        refine mg_iconst (pc := 91) (v := 0) C dX12_ofRow_91 (by decide) ?_
        refine mg_istore (pc := 92) (lv2 := [(4, .int 0), (3, .int 0), (0, .ref (mg_ad X 0)), (1, .int x1), (2, .int x2)]) C dX12_ofRow_92 5 hnL (by decide) rfl ?_
        refine mg_sub (lv2 := [(0, .ref (mg_ad X 0)), (2, .int x2), (3, .int 0), (4, .int 0)]) [2, 4, 1, 0] rfl ?_
        exact hF
      · have hF := hF.2 hc
        refine mg_iload_n (pc := 31) C dX12_ofRow_31 2 rfl ?_
        refine mg_bipush (pc := 32) (v := 50) C dX12_ofRow_32 (by decide) ?_
        refine mg_icmp_ge (pc := 34) 44 C dX12_ofRow_34 (by decide) (fun hc => ?_) (fun hc => ?_)
        · have hF := hF.1 hc
          refine mg_iload_n (pc := 44) C dX12_ofRow_44 2 rfl ?_
          refine mg_bipush (pc := 45) (v := 50) C dX12_ofRow_45 (by decide) ?_
          refine mg_isub (pc := 47) C dX12_ofRow_47 ?_
          refine mg_sub (lv2 := [(0, .ref (mg_ad X 0)), (2, .int x2)]) [0, 2] rfl ?_
          exact hF
        · have hF := hF.2 hc
          refine mg_iload_n (pc := 37) C dX12_ofRow_37 2 rfl ?_
          refine mg_bipush (pc := 38) (v := 10) C dX12_ofRow_38 (by decide) ?_
          refine mg_isub (pc := 40) C dX12_ofRow_40 ?_
          refine mg_goto (pc := 41) 48 C dX12_ofRow_41 (by decide) ?_
          refine mg_sub (lv2 := [(0, .ref (mg_ad X 0)), (2, .int x2)]) [0, 2] rfl ?_
          exact hF
    · have hF := hF.2 hc
      refine mg_iconst (pc := 18) (v := (-1)) C dX12_ofRow_18 (by decide) ?_
      exact mg_retI (pc := 19) C E dX12_ofRow_19 hF
def rm_tell : Room := { frames := 6, cells := 0, slots := 0, locals := 144 }
theorem nd_tell : yX12_tell.cls = RX12 ∧ yX12_tell.cls ≠ "java/lang/invoke/MethodHandle" ∧ yX12_tell.cls ≠ "java/lang/invoke/VarHandle" ∧ (parseMethodDescriptor yX12_tell.desc).map (fun d => d.parameters.length) = some 3 := by decide +kernel
theorem inm_tell : ∀ w ∈ wsX120, w ∈ wsX12_tell := fun _ h9 => List.mem_cons_of_mem _ (List.mem_append_right _ h9)
set_option maxHeartbeats 4000000 in
set_option maxRecDepth 100000 in
theorem met_tell (x1 : Int32) (x2 : Int32) (x3 : Int32) : mg_MI yX12_tell wsX12_tell rm_tell (fun ad => [.ref (ad 0), .int x1, .int x2, .int x3]) (fun Q h => wp_tell Q x1 x2 x3 h) := by
  refine mg_startI (cc := cX12_tell) (maxL := 5) (by decide) rfl rfl (fun ad => Nat.le_of_ble_eq_true rfl) (fun X Q h C hnL E hw => ?_)
  unfold wp_tell at hw
  refine mg_sub (lv2 := [(0, .ref (mg_ad X 0)), (1, .int x1), (2, .int x2), (3, .int x3)]) [0, 1, 2, 3] rfl ?_
  refine mg_use (hw (fun (h : mg_H) => mg_W X 67 [(0, .ref (mg_ad X 0)), (2, .int x2), (3, .int x3)] [] h) (fun (s0 : Int32) (h : mg_H) => mg_W X 72 [(0, .ref (mg_ad X 0)), (2, .int x2), (3, .int x3)] [.int s0] h) (fun (h : mg_H) => mg_W X 99 [(0, .ref (mg_ad X 0)), (2, .int x2), (3, .int x3)] [] h) ?_ ?_ ?_) (fun hF => ?_)
  · intro h hF
    refine mg_iconst (pc := 67) (v := 1) C dX12_tell_67 (by decide) ?_
    refine mg_goto (pc := 68) 72 C dX12_tell_68 (by decide) ?_
    exact hF
  · intro s0 h hF
    refine mg_istore (pc := 72) (lv2 := [(4, .int s0), (0, .ref (mg_ad X 0)), (2, .int x2), (3, .int x3)]) C dX12_tell_72 5 hnL (by decide) rfl ?_
    refine mg_iload (pc := 74) C dX12_tell_74 0 rfl ?_
    refine mg_if_ne (pc := 76) 99 C dX12_tell_76 (by decide) (fun hc => ?_) (fun hc => ?_)
    · have hF := hF.1 hc
      refine mg_sub (lv2 := [(0, .ref (mg_ad X 0)), (2, .int x2), (3, .int x3)]) [1, 2, 3] rfl ?_
      exact hF
    · have hF := hF.2 hc
      refine mg_iload_n (pc := 79) C dX12_tell_79 3 rfl ?_
      refine mg_iconst (pc := 80) (v := 3) C dX12_tell_80 (by decide) ?_
      refine mg_bipush (pc := 81) (v := 6) C dX12_tell_81 (by decide) ?_
      refine mg_csI (pc := 83) C (fun ad => [.int x3, .int 3, .int 6]) (met_in x3 3 6) gX12_tell_X12_in rfl ⟨rfl, rfl⟩ nd_in.2 ⟨Nat.le_of_ble_eq_true rfl, Nat.le_of_ble_eq_true rfl⟩ rfl rfl (Nat.le_of_ble_eq_true rfl) dX12_tell_83 hF (fun r16 h15 hF => ?_)
      refine mg_if_eq (pc := 86) 108 C dX12_tell_86 (by decide) (fun hc => ?_) (fun hc => ?_)
      · have hF := hF.1 hc
        refine mg_iconst (pc := 108) (v := (-1)) C dX12_tell_108 (by decide) ?_
        exact mg_retI (pc := 109) C E dX12_tell_109 hF
      · have hF := hF.2 hc
        refine mg_aload_n (pc := 89) C dX12_tell_89 1 rfl ?_
        refine mg_iload_n (pc := 90) C dX12_tell_90 3 rfl ?_
        refine mg_iconst (pc := 91) (v := 3) C dX12_tell_91 (by decide) ?_
        refine mg_isub (pc := 92) C dX12_tell_92 ?_
        refine mg_cvI (pc := 93) C (fun ad => [.int (x3 - 3)]) (met_isGlass (x3 - 3)) gX12_tell_X12_isGlass rfl ⟨rfl, rfl⟩ nd_isGlass ⟨Nat.le_of_ble_eq_true rfl, Nat.le_of_ble_eq_true rfl⟩ rfl rfl (Nat.le_of_ble_eq_true rfl) dX12_tell_93 hF (fun r18 h17 hF => ?_)
        refine mg_if_eq (pc := 96) 108 C dX12_tell_96 (by decide) (fun hc => ?_) (fun hc => ?_)
        · have hF := hF.1 hc
          refine mg_iconst (pc := 108) (v := (-1)) C dX12_tell_108 (by decide) ?_
          exact mg_retI (pc := 109) C E dX12_tell_109 hF
        · have hF := hF.2 hc
          refine mg_sub (lv2 := [(0, .ref (mg_ad X 0)), (2, .int x2), (3, .int x3)]) [1, 2, 3] rfl ?_
          exact hF
  · intro h hF
    refine mg_aload_n (pc := 99) C dX12_tell_99 0 rfl ?_
    refine mg_iload_n (pc := 100) C dX12_tell_100 1 rfl ?_
    refine mg_iload_n (pc := 101) C dX12_tell_101 2 rfl ?_
    refine mg_cvI (pc := 102) C (fun ad => [.int x2, .int x3]) (met_ofRow x2 x3) gX12_tell_X12_ofRow rfl ⟨rfl, rfl⟩ nd_ofRow ⟨Nat.le_of_ble_eq_true rfl, Nat.le_of_ble_eq_true rfl⟩ rfl rfl (Nat.le_of_ble_eq_true rfl) dX12_tell_102 hF (fun r20 h19 hF => ?_)
    refine mg_goto (pc := 105) 109 C dX12_tell_105 (by decide) ?_
    exact mg_retI (pc := 109) C E dX12_tell_109 hF
  · skip
    refine mg_aload_n (pc := 0) C dX12_tell_0 0 rfl ?_
    refine mg_iconst (pc := 1) (v := 0) C dX12_tell_1 (by decide) ?_
    refine mg_puti (pc := 2) C inm_tell 0 (by decide) rfl (by decide) dX12_tell_2 (List.mem_of_getElem? (i := 1) rfl) rfl (tyX12_ok 0 (by decide)) (fun h1 eh1 => ?_)
    have hF := hF h1 eh1
    refine mg_iload_n (pc := 5) C dX12_tell_5 2 rfl ?_
    refine mg_iconst (pc := 6) (v := 1) C dX12_tell_6 (by decide) ?_
    refine mg_bipush (pc := 7) (v := 30) C dX12_tell_7 (by decide) ?_
    refine mg_csI (pc := 9) C (fun ad => [.int x2, .int 1, .int 30]) (met_in x2 1 30) gX12_tell_X12_in rfl ⟨rfl, rfl⟩ nd_in.2 ⟨Nat.le_of_ble_eq_true rfl, Nat.le_of_ble_eq_true rfl⟩ rfl rfl (Nat.le_of_ble_eq_true rfl) dX12_tell_9 hF (fun r3 h2 hF => ?_)
    refine mg_if_eq (pc := 12) 23 C dX12_tell_12 (by decide) (fun hc => ?_) (fun hc => ?_)
    · have hF := hF.1 hc
      refine mg_iconst (pc := 23) (v := (-1)) C dX12_tell_23 (by decide) ?_
      exact mg_retI (pc := 24) C E dX12_tell_24 hF
    · have hF := hF.2 hc
      refine mg_aload_n (pc := 15) C dX12_tell_15 0 rfl ?_
      refine mg_iload_n (pc := 16) C dX12_tell_16 1 rfl ?_
      refine mg_cvI (pc := 17) C (fun ad => [.int x1]) (met_hand x1) gX12_tell_X12_hand rfl ⟨rfl, rfl⟩ nd_hand ⟨Nat.le_of_ble_eq_true rfl, Nat.le_of_ble_eq_true rfl⟩ rfl rfl (Nat.le_of_ble_eq_true rfl) dX12_tell_17 hF (fun r5 h4 hF => ?_)
      refine mg_if_ne (pc := 20) 25 C dX12_tell_20 (by decide) (fun hc => ?_) (fun hc => ?_)
      · have hF := hF.1 hc
        refine mg_iload_n (pc := 25) C dX12_tell_25 3 rfl ?_
        refine mg_iconst (pc := 26) (v := 0) C dX12_tell_26 (by decide) ?_
        refine mg_iconst (pc := 27) (v := 2) C dX12_tell_27 (by decide) ?_
        refine mg_csI (pc := 28) C (fun ad => [.int x3, .int 0, .int 2]) (met_in x3 0 2) gX12_tell_X12_in rfl ⟨rfl, rfl⟩ nd_in.2 ⟨Nat.le_of_ble_eq_true rfl, Nat.le_of_ble_eq_true rfl⟩ rfl rfl (Nat.le_of_ble_eq_true rfl) dX12_tell_28 hF (fun r7 h6 hF => ?_)
        refine mg_if_eq (pc := 31) 45 C dX12_tell_31 (by decide) (fun hc => ?_) (fun hc => ?_)
        · have hF := hF.1 hc
          refine mg_iload_n (pc := 45) C dX12_tell_45 3 rfl ?_
          refine mg_bipush (pc := 46) (v := 10) C dX12_tell_46 (by decide) ?_
          refine mg_bipush (pc := 48) (v := 39) C dX12_tell_48 (by decide) ?_
          refine mg_csI (pc := 50) C (fun ad => [.int x3, .int 10, .int 39]) (met_in x3 10 39) gX12_tell_X12_in rfl ⟨rfl, rfl⟩ nd_in.2 ⟨Nat.le_of_ble_eq_true rfl, Nat.le_of_ble_eq_true rfl⟩ rfl rfl (Nat.le_of_ble_eq_true rfl) dX12_tell_50 hF (fun r9 h8 hF => ?_)
          refine mg_if_ne (pc := 53) 67 C dX12_tell_53 (by decide) (fun hc => ?_) (fun hc => ?_)
          · have hF := hF.1 hc
            refine mg_sub (lv2 := [(0, .ref (mg_ad X 0)), (2, .int x2), (3, .int x3)]) [0, 2, 3] rfl ?_
            exact hF
          · have hF := hF.2 hc
            refine mg_iload_n (pc := 56) C dX12_tell_56 3 rfl ?_
            refine mg_bipush (pc := 57) (v := 50) C dX12_tell_57 (by decide) ?_
            refine mg_bipush (pc := 59) (v := 79) C dX12_tell_59 (by decide) ?_
            refine mg_csI (pc := 61) C (fun ad => [.int x3, .int 50, .int 79]) (met_in x3 50 79) gX12_tell_X12_in rfl ⟨rfl, rfl⟩ nd_in.2 ⟨Nat.le_of_ble_eq_true rfl, Nat.le_of_ble_eq_true rfl⟩ rfl rfl (Nat.le_of_ble_eq_true rfl) dX12_tell_61 hF (fun r11 h10 hF => ?_)
            refine mg_if_eq (pc := 64) 71 C dX12_tell_64 (by decide) (fun hc => ?_) (fun hc => ?_)
            · have hF := hF.1 hc
              refine mg_iconst (pc := 71) (v := 0) C dX12_tell_71 (by decide) ?_
              refine mg_sub (lv2 := [(0, .ref (mg_ad X 0)), (2, .int x2), (3, .int x3)]) [0, 2, 3] rfl ?_
              exact hF
            · have hF := hF.2 hc
              refine mg_sub (lv2 := [(0, .ref (mg_ad X 0)), (2, .int x2), (3, .int x3)]) [0, 2, 3] rfl ?_
              exact hF
        · have hF := hF.2 hc
          refine mg_aload_n (pc := 34) C dX12_tell_34 0 rfl ?_
          refine mg_iload_n (pc := 35) C dX12_tell_35 3 rfl ?_
          refine mg_cvV (pc := 36) C (fun ad => [.int x3]) (met_layOut x3) gX12_tell_X12_layOut rfl ⟨rfl, rfl⟩ nd_layOut ⟨Nat.le_of_ble_eq_true rfl, Nat.le_of_ble_eq_true rfl⟩ rfl rfl (Nat.le_of_ble_eq_true rfl) dX12_tell_36 hF (fun h12 hF => ?_)
          refine mg_aload_n (pc := 39) C dX12_tell_39 0 rfl ?_
          refine mg_iload_n (pc := 40) C dX12_tell_40 2 rfl ?_
          refine mg_cvI (pc := 41) C (fun ad => [.int x2]) (met_leastAt x2) gX12_tell_X12_leastAt rfl ⟨rfl, rfl⟩ nd_leastAt ⟨Nat.le_of_ble_eq_true rfl, Nat.le_of_ble_eq_true rfl⟩ rfl rfl (Nat.le_of_ble_eq_true rfl) dX12_tell_41 hF (fun r14 h13 hF => ?_)
          exact mg_retI (pc := 44) C E dX12_tell_44 hF
      · have hF := hF.2 hc
        refine mg_iconst (pc := 23) (v := (-1)) C dX12_tell_23 (by decide) ?_
        exact mg_retI (pc := 24) C E dX12_tell_24 hF
def rm_purse : Room := { frames := 4, cells := 0, slots := 0, locals := 96 }
theorem nd_purse : yX12_purse.cls = RX12 ∧ yX12_purse.cls ≠ "java/lang/invoke/MethodHandle" ∧ yX12_purse.cls ≠ "java/lang/invoke/VarHandle" ∧ (parseMethodDescriptor yX12_purse.desc).map (fun d => d.parameters.length) = some 2 := by decide +kernel
theorem inm_purse : ∀ w ∈ wsX120, w ∈ wsX12_purse := fun _ h9 => List.mem_cons_of_mem _ (List.mem_append_right _ h9)
set_option maxHeartbeats 4000000 in
set_option maxRecDepth 100000 in
theorem met_purse (x1 : Int32) (x2 : Int32) : mg_MI yX12_purse wsX12_purse rm_purse (fun ad => [.ref (ad 0), .int x1, .int x2]) (fun Q h => wp_purse Q x1 x2 h) := by
  refine mg_startI (cc := cX12_purse) (maxL := 3) (by decide) rfl rfl (fun ad => Nat.le_of_ble_eq_true rfl) (fun X Q h C hnL E hw => ?_)
  unfold wp_purse at hw
  refine mg_sub (lv2 := [(0, .ref (mg_ad X 0)), (1, .int x1), (2, .int x2)]) [0, 1, 2] rfl ?_
  have hF := hw
  refine mg_aload_n (pc := 0) C dX12_purse_0 0 rfl ?_
  refine mg_iconst (pc := 1) (v := 0) C dX12_purse_1 (by decide) ?_
  refine mg_puti (pc := 2) C inm_purse 0 (by decide) rfl (by decide) dX12_purse_2 (List.mem_of_getElem? (i := 1) rfl) rfl (tyX12_ok 0 (by decide)) (fun h1 eh1 => ?_)
  have hF := hF h1 eh1
  refine mg_iload_n (pc := 5) C dX12_purse_5 2 rfl ?_
  refine mg_iconst (pc := 6) (v := 0) C dX12_purse_6 (by decide) ?_
  refine mg_bipush (pc := 7) (v := 99) C dX12_purse_7 (by decide) ?_
  refine mg_csI (pc := 9) C (fun ad => [.int x2, .int 0, .int 99]) (met_in x2 0 99) gX12_purse_X12_in rfl ⟨rfl, rfl⟩ nd_in.2 ⟨Nat.le_of_ble_eq_true rfl, Nat.le_of_ble_eq_true rfl⟩ rfl rfl (Nat.le_of_ble_eq_true rfl) dX12_purse_9 hF (fun r3 h2 hF => ?_)
  refine mg_if_eq (pc := 12) 23 C dX12_purse_12 (by decide) (fun hc => ?_) (fun hc => ?_)
  · have hF := hF.1 hc
    refine mg_iconst (pc := 23) (v := (-1)) C dX12_purse_23 (by decide) ?_
    exact mg_retI (pc := 24) C E dX12_purse_24 hF
  · have hF := hF.2 hc
    refine mg_aload_n (pc := 15) C dX12_purse_15 0 rfl ?_
    refine mg_iload_n (pc := 16) C dX12_purse_16 1 rfl ?_
    refine mg_cvI (pc := 17) C (fun ad => [.int x1]) (met_hand x1) gX12_purse_X12_hand rfl ⟨rfl, rfl⟩ nd_hand ⟨Nat.le_of_ble_eq_true rfl, Nat.le_of_ble_eq_true rfl⟩ rfl rfl (Nat.le_of_ble_eq_true rfl) dX12_purse_17 hF (fun r5 h4 hF => ?_)
    refine mg_if_ne (pc := 20) 25 C dX12_purse_20 (by decide) (fun hc => ?_) (fun hc => ?_)
    · have hF := hF.1 hc
      refine mg_aload_n (pc := 25) C dX12_purse_25 0 rfl ?_
      refine mg_iconst (pc := 26) (v := 2) C dX12_purse_26 (by decide) ?_
      refine mg_cvV (pc := 27) C (fun ad => [.int 2]) (met_layOut 2) gX12_purse_X12_layOut rfl ⟨rfl, rfl⟩ nd_layOut ⟨Nat.le_of_ble_eq_true rfl, Nat.le_of_ble_eq_true rfl⟩ rfl rfl (Nat.le_of_ble_eq_true rfl) dX12_purse_27 hF (fun h6 hF => ?_)
      refine mg_aload_n (pc := 30) C dX12_purse_30 0 rfl ?_
      refine mg_iload_n (pc := 31) C dX12_purse_31 2 rfl ?_
      refine mg_cvI (pc := 32) C (fun ad => [.int x2]) (met_bitsOf x2) gX12_purse_X12_bitsOf rfl ⟨rfl, rfl⟩ nd_bitsOf ⟨Nat.le_of_ble_eq_true rfl, Nat.le_of_ble_eq_true rfl⟩ rfl rfl (Nat.le_of_ble_eq_true rfl) dX12_purse_32 hF (fun r8 h7 hF => ?_)
      exact mg_retI (pc := 35) C E dX12_purse_35 hF
    · have hF := hF.2 hc
      refine mg_iconst (pc := 23) (v := (-1)) C dX12_purse_23 (by decide) ?_
      exact mg_retI (pc := 24) C E dX12_purse_24 hF
def rm_apart : Room := { frames := 5, cells := 0, slots := 0, locals := 117 }
theorem nd_apart : yX12_apart.cls = RX12 ∧ yX12_apart.cls ≠ "java/lang/invoke/MethodHandle" ∧ yX12_apart.cls ≠ "java/lang/invoke/VarHandle" ∧ (parseMethodDescriptor yX12_apart.desc).map (fun d => d.parameters.length) = some 2 := by decide +kernel
theorem inm_apart : ∀ w ∈ wsX120, w ∈ wsX12_apart := fun _ h9 => List.mem_cons_of_mem _ (List.mem_append_right _ h9)
set_option maxHeartbeats 4000000 in
set_option maxRecDepth 100000 in
theorem met_apart (x1 : Int32) (x2 : Int32) : mg_MI yX12_apart wsX12_apart rm_apart (fun ad => [.ref (ad 0), .int x1, .int x2]) (fun Q h => wp_apart Q x1 x2 h) := by
  refine mg_startI (cc := cX12_apart) (maxL := 4) (by decide) rfl rfl (fun ad => Nat.le_of_ble_eq_true rfl) (fun X Q h C hnL E hw => ?_)
  unfold wp_apart at hw
  refine mg_sub (lv2 := [(0, .ref (mg_ad X 0)), (1, .int x1), (2, .int x2)]) [0, 1, 2] rfl ?_
  have hF := hw
  refine mg_aload_n (pc := 0) C dX12_apart_0 0 rfl ?_
  refine mg_iconst (pc := 1) (v := 0) C dX12_apart_1 (by decide) ?_
  refine mg_puti (pc := 2) C inm_apart 0 (by decide) rfl (by decide) dX12_apart_2 (List.mem_of_getElem? (i := 1) rfl) rfl (tyX12_ok 0 (by decide)) (fun h1 eh1 => ?_)
  have hF := hF h1 eh1
  refine mg_aload_n (pc := 5) C dX12_apart_5 0 rfl ?_
  refine mg_iconst (pc := 6) (v := 0) C dX12_apart_6 (by decide) ?_
  refine mg_iload_n (pc := 7) C dX12_apart_7 2 rfl ?_
  refine mg_cvI (pc := 8) C (fun ad => [.int 0, .int x2]) (met_is 0 x2) gX12_apart_X12_is rfl ⟨rfl, rfl⟩ nd_is ⟨Nat.le_of_ble_eq_true rfl, Nat.le_of_ble_eq_true rfl⟩ rfl rfl (Nat.le_of_ble_eq_true rfl) dX12_apart_8 hF (fun r3 h2 hF => ?_)
  refine mg_if_eq (pc := 11) 22 C dX12_apart_11 (by decide) (fun hc => ?_) (fun hc => ?_)
  · have hF := hF.1 hc
    refine mg_iconst (pc := 22) (v := (-1)) C dX12_apart_22 (by decide) ?_
    exact mg_retI (pc := 23) C E dX12_apart_23 hF
  · have hF := hF.2 hc
    refine mg_aload_n (pc := 14) C dX12_apart_14 0 rfl ?_
    refine mg_iload_n (pc := 15) C dX12_apart_15 1 rfl ?_
    refine mg_cvI (pc := 16) C (fun ad => [.int x1]) (met_hand x1) gX12_apart_X12_hand rfl ⟨rfl, rfl⟩ nd_hand ⟨Nat.le_of_ble_eq_true rfl, Nat.le_of_ble_eq_true rfl⟩ rfl rfl (Nat.le_of_ble_eq_true rfl) dX12_apart_16 hF (fun r5 h4 hF => ?_)
    refine mg_if_ne (pc := 19) 24 C dX12_apart_19 (by decide) (fun hc => ?_) (fun hc => ?_)
    · have hF := hF.1 hc
      refine mg_aload_n (pc := 24) C dX12_apart_24 0 rfl ?_
      refine mg_aload_n (pc := 25) C dX12_apart_25 0 rfl ?_
      refine mg_geti (pc := 26) C inm_apart 25 (by decide) rfl (by decide) dX12_apart_26 (List.mem_of_getElem? (i := 2) rfl) ?_
      refine mg_cvI (pc := 29) C (fun ad => [.int (mg_i h4 0 25)]) (met_timesOf (mg_i h4 0 25)) gX12_apart_X12_timesOf rfl ⟨rfl, rfl⟩ nd_timesOf ⟨Nat.le_of_ble_eq_true rfl, Nat.le_of_ble_eq_true rfl⟩ rfl rfl (Nat.le_of_ble_eq_true rfl) dX12_apart_29 hF (fun r7 h6 hF => ?_)
      refine mg_istore_n (pc := 32) (lv2 := [(3, .int r7), (0, .ref (mg_ad X 0)), (1, .int x1), (2, .int x2)]) C dX12_apart_32 4 hnL (by decide) rfl ?_
      refine mg_aload_n (pc := 33) C dX12_apart_33 1 rfl ?_
      refine mg_iload_n (pc := 34) C dX12_apart_34 3 rfl ?_
      refine mg_cvI (pc := 35) C (fun ad => [.int x2]) (met_hand x2) gX12_apart_X12_hand rfl ⟨rfl, rfl⟩ nd_hand ⟨Nat.le_of_ble_eq_true rfl, Nat.le_of_ble_eq_true rfl⟩ rfl rfl (Nat.le_of_ble_eq_true rfl) dX12_apart_35 hF (fun r9 h8 hF => ?_)
      refine mg_pop (pc := 38) C dX12_apart_38 rfl ?_
      refine mg_iload_n (pc := 39) C dX12_apart_39 0 rfl ?_
      refine mg_aload_n (pc := 40) C dX12_apart_40 1 rfl ?_
      refine mg_aload_n (pc := 41) C dX12_apart_41 1 rfl ?_
      refine mg_geti (pc := 42) C inm_apart 25 (by decide) rfl (by decide) dX12_apart_42 (List.mem_of_getElem? (i := 2) rfl) ?_
      refine mg_cvI (pc := 45) C (fun ad => [.int (mg_i h8 0 25)]) (met_timesOf (mg_i h8 0 25)) gX12_apart_X12_timesOf rfl ⟨rfl, rfl⟩ nd_timesOf ⟨Nat.le_of_ble_eq_true rfl, Nat.le_of_ble_eq_true rfl⟩ rfl rfl (Nat.le_of_ble_eq_true rfl) dX12_apart_45 hF (fun r11 h10 hF => ?_)
      refine mg_iconst (pc := 48) (v := (-1)) C dX12_apart_48 (by decide) ?_
      refine mg_ixor (pc := 49) C dX12_apart_49 ?_
      refine mg_iand (pc := 50) C dX12_apart_50 ?_
      exact mg_retI (pc := 51) C E dX12_apart_51 hF
    · have hF := hF.2 hc
      refine mg_iconst (pc := 22) (v := (-1)) C dX12_apart_22 (by decide) ?_
      exact mg_retI (pc := 23) C E dX12_apart_23 hF
def rm_span : Room := { frames := 4, cells := 0, slots := 0, locals := 96 }
theorem nd_span : yX12_span.cls = RX12 ∧ yX12_span.cls ≠ "java/lang/invoke/MethodHandle" ∧ yX12_span.cls ≠ "java/lang/invoke/VarHandle" ∧ (parseMethodDescriptor yX12_span.desc).map (fun d => d.parameters.length) = some 2 := by decide +kernel
theorem inm_span : ∀ w ∈ wsX120, w ∈ wsX12_span := fun _ h9 => List.mem_cons_of_mem _ (List.mem_append_right _ h9)
set_option maxHeartbeats 4000000 in
set_option maxRecDepth 100000 in
theorem met_span (x1 : Int32) (x2 : Int32) : mg_MI yX12_span wsX12_span rm_span (fun ad => [.ref (ad 0), .int x1, .int x2]) (fun Q h => wp_span Q x1 x2 h) := by
  refine mg_startI (cc := cX12_span) (maxL := 5) (by decide) rfl rfl (fun ad => Nat.le_of_ble_eq_true rfl) (fun X Q h C hnL E hw => ?_)
  unfold wp_span at hw
  refine mg_sub (lv2 := [(0, .ref (mg_ad X 0)), (1, .int x1), (2, .int x2)]) [0, 1, 2] rfl ?_
  refine mg_use (hw (fun (y3 : Int32) (h : mg_H) => mg_W X 36 [(0, .ref (mg_ad X 0)), (2, .int x2), (3, .int y3)] [] h) (fun (y3 : Int32) (y4 : Int32) (h : mg_H) => mg_W X 55 [(0, .ref (mg_ad X 0)), (2, .int x2), (3, .int y3), (4, .int y4)] [] h) (fun (y3 : Int32) (y4 : Int32) (s0 : Int32) (s1 : Int32) (h : mg_H) => mg_W X 97 [(0, .ref (mg_ad X 0)), (2, .int x2), (3, .int y3), (4, .int y4)] [.int s0, .int s1, .ref (mg_ad X 40)] h) ?_ ?_ ?_) (fun hF => ?_)
  · intro y3 h hF
    refine mg_iload_n (pc := 36) C dX12_span_36 2 rfl ?_
    refine mg_iload_n (pc := 37) C dX12_span_37 1 rfl ?_
    refine mg_iadd (pc := 38) C dX12_span_38 ?_
    refine mg_bipush (pc := 39) (v := 30) C dX12_span_39 (by decide) ?_
    refine mg_icmp_gt (pc := 41) 134 C dX12_span_41 (by decide) (fun hc => ?_) (fun hc => ?_)
    · have hF := hF.1 hc
      refine mg_iconst (pc := 134) (v := (-1)) C dX12_span_134 (by decide) ?_
      exact mg_retI (pc := 135) C E dX12_span_135 hF
    · have hF := hF.2 hc
      refine mg_aload_n (pc := 44) C dX12_span_44 0 rfl ?_
      refine mg_iload_n (pc := 45) C dX12_span_45 2 rfl ?_
      refine mg_iload_n (pc := 46) C dX12_span_46 2 rfl ?_
      refine mg_iload_n (pc := 47) C dX12_span_47 1 rfl ?_
      refine mg_iadd (pc := 48) C dX12_span_48 ?_
      refine mg_cvV (pc := 49) C (fun ad => [.int y3, .int (y3 + x2)]) (met_clear y3 (y3 + x2)) gX12_span_X12_clear rfl ⟨rfl, rfl⟩ nd_clear ⟨Nat.le_of_ble_eq_true rfl, Nat.le_of_ble_eq_true rfl⟩ rfl rfl (Nat.le_of_ble_eq_true rfl) dX12_span_49 hF (fun h8 hF => ?_)
      refine mg_iconst (pc := 52) (v := 0) C dX12_span_52 (by decide) ?_
      refine mg_istore (pc := 53) (lv2 := [(4, .int 0), (0, .ref (mg_ad X 0)), (2, .int x2), (3, .int y3)]) C dX12_span_53 5 hnL (by decide) rfl ?_
      refine mg_sub (lv2 := [(0, .ref (mg_ad X 0)), (2, .int x2), (3, .int y3), (4, .int 0)]) [1, 2, 3, 0] rfl ?_
      exact hF
  · intro y3 y4 h hF
    refine mg_iload (pc := 55) C dX12_span_55 3 rfl ?_
    refine mg_sipush (pc := 57) (v := 4096) C dX12_span_57 (by decide) ?_
    refine mg_icmp_ge (pc := 60) 104 C dX12_span_60 (by decide) (fun hc => ?_) (fun hc => ?_)
    · have hF := hF.1 hc
      refine mg_aload_n (pc := 104) C dX12_span_104 0 rfl ?_
      refine mg_iload_n (pc := 105) C dX12_span_105 2 rfl ?_
      refine mg_iload_n (pc := 106) C dX12_span_106 2 rfl ?_
      refine mg_iload_n (pc := 107) C dX12_span_107 1 rfl ?_
      refine mg_iadd (pc := 108) C dX12_span_108 ?_
      refine mg_iconst (pc := 109) (v := 0) C dX12_span_109 (by decide) ?_
      refine mg_cvV (pc := 110) C (fun ad => [.int y3, .int (y3 + x2), .int 0]) (met_goOn y3 (y3 + x2) 0) gX12_span_X12_goOn rfl ⟨rfl, rfl⟩ nd_goOn ⟨Nat.le_of_ble_eq_true rfl, Nat.le_of_ble_eq_true rfl⟩ rfl rfl (Nat.le_of_ble_eq_true rfl) dX12_span_110 hF (fun h9 hF => ?_)
      refine mg_aload_n (pc := 113) C dX12_span_113 0 rfl ?_
      refine mg_iload_n (pc := 114) C dX12_span_114 2 rfl ?_
      refine mg_iload_n (pc := 115) C dX12_span_115 1 rfl ?_
      refine mg_iadd (pc := 116) C dX12_span_116 ?_
      refine mg_cvI (pc := 117) C (fun ad => [.int (y3 + x2)]) (met_leastAt (y3 + x2)) gX12_span_X12_leastAt rfl ⟨rfl, rfl⟩ nd_leastAt ⟨Nat.le_of_ble_eq_true rfl, Nat.le_of_ble_eq_true rfl⟩ rfl rfl (Nat.le_of_ble_eq_true rfl) dX12_span_117 hF (fun r11 h10 hF => ?_)
      refine mg_iconst (pc := 120) (v := (-1)) C dX12_span_120 (by decide) ?_
      refine mg_icmp_eq (pc := 121) 128 C dX12_span_121 (by decide) (fun hc => ?_) (fun hc => ?_)
      · have hF := hF.1 hc
        obtain ⟨z12, ez12⟩ : ∃ y : Int32, y = y3 + 1 := ⟨_, rfl⟩
        have hF := hF z12 ez12
        refine mg_iinc (pc := 128) (v := z12) (lv2 := [(3, .int z12), (0, .ref (mg_ad X 0)), (2, .int x2), (4, .int y4)]) C dX12_span_128 2 rfl (by rw [ez12]; rfl) 5 hnL (by decide) rfl ?_
        refine mg_goto (pc := 131) 36 C dX12_span_131 (by decide) ?_
        refine mg_sub (lv2 := [(0, .ref (mg_ad X 0)), (2, .int x2), (3, .int z12)]) [1, 2, 0] rfl ?_
        exact hF
      · have hF := hF.2 hc
        refine mg_iload_n (pc := 124) C dX12_span_124 2 rfl ?_
        refine mg_iload_n (pc := 125) C dX12_span_125 1 rfl ?_
        refine mg_iadd (pc := 126) C dX12_span_126 ?_
        exact mg_retI (pc := 127) C E dX12_span_127 hF
    · have hF := hF.2 hc
      refine mg_aload_n (pc := 63) C dX12_span_63 0 rfl ?_
      refine mg_getr (pc := 64) C inm_span 40 (by decide) (by decide) dX12_span_64 (List.mem_of_getElem? (i := 2) rfl) ?_
      refine mg_sipush (pc := 67) (v := 4096) C dX12_span_67 (by decide) ?_
      refine mg_iload_n (pc := 70) C dX12_span_70 2 rfl ?_
      refine mg_imul (pc := 71) C dX12_span_71 ?_
      refine mg_iload (pc := 72) C dX12_span_72 3 rfl ?_
      refine mg_iadd (pc := 74) C dX12_span_74 ?_
      refine mg_aload_n (pc := 75) C dX12_span_75 0 rfl ?_
      refine mg_getr (pc := 76) C inm_span 44 (by decide) (by decide) dX12_span_76 (List.mem_of_getElem? (i := 3) rfl) ?_
      refine mg_sipush (pc := 79) (v := 4096) C dX12_span_79 (by decide) ?_
      refine mg_iload_n (pc := 82) C dX12_span_82 2 rfl ?_
      refine mg_imul (pc := 83) C dX12_span_83 ?_
      refine mg_iload (pc := 84) C dX12_span_84 3 rfl ?_
      refine mg_iadd (pc := 86) C dX12_span_86 ?_
      obtain ⟨hi, hF⟩ := hF
      refine mg_iald (pc := 87) C (by decide) rfl hi dX12_span_87 ?_
      refine mg_iconst (pc := 88) (v := (-1)) C dX12_span_88 (by decide) ?_
      refine mg_icmp_ne (pc := 89) 96 C dX12_span_89 (by decide) (fun hc => ?_) (fun hc => ?_)
      · have hF := hF.1 hc
        refine mg_iconst (pc := 96) (v := 0) C dX12_span_96 (by decide) ?_
        exact hF
      · have hF := hF.2 hc
        refine mg_iconst (pc := 92) (v := (-1)) C dX12_span_92 (by decide) ?_
        refine mg_goto (pc := 93) 97 C dX12_span_93 (by decide) ?_
        exact hF
  · intro y3 y4 s0 s1 h hF
    obtain ⟨hi, hF⟩ := hF
    refine mg_iast (pc := 97) C (by decide) rfl hi dX12_span_97 (fun h13 eh13 => ?_)
    have hF := hF h13 eh13
    obtain ⟨z14, ez14⟩ : ∃ y : Int32, y = y4 + 1 := ⟨_, rfl⟩
    have hF := hF z14 ez14
    refine mg_iinc (pc := 98) (v := z14) (lv2 := [(4, .int z14), (0, .ref (mg_ad X 0)), (2, .int x2), (3, .int y3)]) C dX12_span_98 3 rfl (by rw [ez14]; rfl) 5 hnL (by decide) rfl ?_
    refine mg_goto (pc := 101) 55 C dX12_span_101 (by decide) ?_
    refine mg_sub (lv2 := [(0, .ref (mg_ad X 0)), (2, .int x2), (3, .int y3), (4, .int z14)]) [1, 2, 3, 0] rfl ?_
    exact hF
  · skip
    refine mg_aload_n (pc := 0) C dX12_span_0 0 rfl ?_
    refine mg_iconst (pc := 1) (v := 0) C dX12_span_1 (by decide) ?_
    refine mg_puti (pc := 2) C inm_span 0 (by decide) rfl (by decide) dX12_span_2 (List.mem_of_getElem? (i := 1) rfl) rfl (tyX12_ok 0 (by decide)) (fun h1 eh1 => ?_)
    have hF := hF h1 eh1
    refine mg_iload_n (pc := 5) C dX12_span_5 2 rfl ?_
    refine mg_iconst (pc := 6) (v := 1) C dX12_span_6 (by decide) ?_
    refine mg_bipush (pc := 7) (v := 30) C dX12_span_7 (by decide) ?_
    refine mg_csI (pc := 9) C (fun ad => [.int x2, .int 1, .int 30]) (met_in x2 1 30) gX12_span_X12_in rfl ⟨rfl, rfl⟩ nd_in.2 ⟨Nat.le_of_ble_eq_true rfl, Nat.le_of_ble_eq_true rfl⟩ rfl rfl (Nat.le_of_ble_eq_true rfl) dX12_span_9 hF (fun r3 h2 hF => ?_)
    refine mg_if_eq (pc := 12) 23 C dX12_span_12 (by decide) (fun hc => ?_) (fun hc => ?_)
    · have hF := hF.1 hc
      refine mg_iconst (pc := 23) (v := (-1)) C dX12_span_23 (by decide) ?_
      exact mg_retI (pc := 24) C E dX12_span_24 hF
    · have hF := hF.2 hc
      refine mg_aload_n (pc := 15) C dX12_span_15 0 rfl ?_
      refine mg_iload_n (pc := 16) C dX12_span_16 1 rfl ?_
      refine mg_cvI (pc := 17) C (fun ad => [.int x1]) (met_hand x1) gX12_span_X12_hand rfl ⟨rfl, rfl⟩ nd_hand ⟨Nat.le_of_ble_eq_true rfl, Nat.le_of_ble_eq_true rfl⟩ rfl rfl (Nat.le_of_ble_eq_true rfl) dX12_span_17 hF (fun r5 h4 hF => ?_)
      refine mg_if_ne (pc := 20) 25 C dX12_span_20 (by decide) (fun hc => ?_) (fun hc => ?_)
      · have hF := hF.1 hc
        refine mg_aload_n (pc := 25) C dX12_span_25 0 rfl ?_
        refine mg_iconst (pc := 26) (v := 0) C dX12_span_26 (by decide) ?_
        refine mg_cvV (pc := 27) C (fun ad => [.int 0]) (met_layOut 0) gX12_span_X12_layOut rfl ⟨rfl, rfl⟩ nd_layOut ⟨Nat.le_of_ble_eq_true rfl, Nat.le_of_ble_eq_true rfl⟩ rfl rfl (Nat.le_of_ble_eq_true rfl) dX12_span_27 hF (fun h6 hF => ?_)
        refine mg_aload_n (pc := 30) C dX12_span_30 0 rfl ?_
        refine mg_cvV (pc := 31) C (fun ad => []) (met_keepAll) gX12_span_X12_keepAll rfl ⟨rfl, rfl⟩ nd_keepAll ⟨Nat.le_of_ble_eq_true rfl, Nat.le_of_ble_eq_true rfl⟩ rfl rfl (Nat.le_of_ble_eq_true rfl) dX12_span_31 hF (fun h7 hF => ?_)
        refine mg_iconst (pc := 34) (v := 0) C dX12_span_34 (by decide) ?_
        refine mg_istore_n (pc := 35) (lv2 := [(3, .int 0), (0, .ref (mg_ad X 0)), (1, .int x1), (2, .int x2)]) C dX12_span_35 5 hnL (by decide) rfl ?_
        refine mg_sub (lv2 := [(0, .ref (mg_ad X 0)), (2, .int x2), (3, .int 0)]) [1, 3, 0] rfl ?_
        exact hF
      · have hF := hF.2 hc
        refine mg_iconst (pc := 23) (v := (-1)) C dX12_span_23 (by decide) ?_
        exact mg_retI (pc := 24) C E dX12_span_24 hF
def rm_fewest : Room := { frames := 5, cells := 0, slots := 0, locals := 117 }
theorem nd_fewest : yX12_fewest.cls = RX12 ∧ yX12_fewest.cls ≠ "java/lang/invoke/MethodHandle" ∧ yX12_fewest.cls ≠ "java/lang/invoke/VarHandle" ∧ (parseMethodDescriptor yX12_fewest.desc).map (fun d => d.parameters.length) = some 1 := by decide +kernel
theorem inm_fewest : ∀ w ∈ wsX120, w ∈ wsX12_fewest := fun _ h9 => List.mem_cons_of_mem _ (List.mem_append_right _ h9)
set_option maxHeartbeats 4000000 in
set_option maxRecDepth 100000 in
theorem met_fewest (x1 : Int32) : mg_MI yX12_fewest wsX12_fewest rm_fewest (fun ad => [.ref (ad 0), .int x1]) (fun Q h => wp_fewest Q x1 h) := by
  refine mg_startI (cc := cX12_fewest) (maxL := 6) (by decide) rfl rfl (fun ad => Nat.le_of_ble_eq_true rfl) (fun X Q h C hnL E hw => ?_)
  unfold wp_fewest at hw
  refine mg_sub (lv2 := [(0, .ref (mg_ad X 0)), (1, .int x1)]) [0, 1] rfl ?_
  refine mg_use (hw (fun (y2 : Int32) (y3 : Int32) (y4 : Int32) (h : mg_H) => mg_W X 10 [(0, .ref (mg_ad X 0)), (1, .int x1), (2, .int y2), (3, .int y3), (4, .int y4)] [] h) (fun (y2 : Int32) (y3 : Int32) (y4 : Int32) (h : mg_H) => mg_W X 33 [(0, .ref (mg_ad X 0)), (1, .int x1), (2, .int y2), (3, .int y3), (4, .int y4)] [] h) (fun (y2 : Int32) (y3 : Int32) (y4 : Int32) (s0 : Int32) (h : mg_H) => mg_W X 38 [(0, .ref (mg_ad X 0)), (1, .int x1), (2, .int y2), (3, .int y3), (4, .int y4)] [.int s0] h) (fun (y2 : Int32) (y3 : Int32) (y4 : Int32) (h : mg_H) => mg_W X 63 [(0, .ref (mg_ad X 0)), (1, .int x1), (2, .int y2), (3, .int y3), (4, .int y4)] [] h) (fun (y3 : Int32) (y4 : Int32) (s0 : Int32) (h : mg_H) => mg_W X 64 [(0, .ref (mg_ad X 0)), (1, .int x1), (3, .int y3), (4, .int y4)] [.int s0] h) ?_ ?_ ?_ ?_ ?_) (fun hF => ?_)
  · intro y2 y3 y4 h hF
    refine mg_iload (pc := 10) C dX12_fewest_10 4 rfl ?_
    refine mg_iload_n (pc := 12) C dX12_fewest_12 3 rfl ?_
    refine mg_icmp_gt (pc := 13) 71 C dX12_fewest_13 (by decide) (fun hc => ?_) (fun hc => ?_)
    · have hF := hF.1 hc
      refine mg_iload_n (pc := 71) C dX12_fewest_71 2 rfl ?_
      exact mg_retI (pc := 72) C E dX12_fewest_72 hF
    · have hF := hF.2 hc
      refine mg_iload_n (pc := 16) C dX12_fewest_16 2 rfl ?_
      refine mg_iconst (pc := 17) (v := (-1)) C dX12_fewest_17 (by decide) ?_
      refine mg_icmp_eq (pc := 18) 33 C dX12_fewest_18 (by decide) (fun hc => ?_) (fun hc => ?_)
      · have hF := hF.1 hc
        exact hF
      · have hF := hF.2 hc
        refine mg_iload (pc := 21) C dX12_fewest_21 4 rfl ?_
        refine mg_csI (pc := 23) C (fun ad => [.int y4]) (met_ones y4) gX12_fewest_X12_ones rfl ⟨rfl, rfl⟩ nd_ones.2 ⟨Nat.le_of_ble_eq_true rfl, Nat.le_of_ble_eq_true rfl⟩ rfl rfl (Nat.le_of_ble_eq_true rfl) dX12_fewest_23 hF (fun r3 h2 hF => ?_)
        refine mg_iload_n (pc := 26) C dX12_fewest_26 2 rfl ?_
        refine mg_csI (pc := 27) C (fun ad => [.int y2]) (met_ones y2) gX12_fewest_X12_ones rfl ⟨rfl, rfl⟩ nd_ones.2 ⟨Nat.le_of_ble_eq_true rfl, Nat.le_of_ble_eq_true rfl⟩ rfl rfl (Nat.le_of_ble_eq_true rfl) dX12_fewest_27 hF (fun r5 h4 hF => ?_)
        refine mg_icmp_ge (pc := 30) 37 C dX12_fewest_30 (by decide) (fun hc => ?_) (fun hc => ?_)
        · have hF := hF.1 hc
          refine mg_iconst (pc := 37) (v := 0) C dX12_fewest_37 (by decide) ?_
          exact hF
        · have hF := hF.2 hc
          exact hF
  · intro y2 y3 y4 h hF
    refine mg_iconst (pc := 33) (v := 1) C dX12_fewest_33 (by decide) ?_
    refine mg_goto (pc := 34) 38 C dX12_fewest_34 (by decide) ?_
    exact hF
  · intro y2 y3 y4 s0 h hF
    refine mg_istore (pc := 38) (lv2 := [(5, .int s0), (0, .ref (mg_ad X 0)), (1, .int x1), (2, .int y2), (3, .int y3), (4, .int y4)]) C dX12_fewest_38 6 hnL (by decide) rfl ?_
    refine mg_iload (pc := 40) C dX12_fewest_40 0 rfl ?_
    refine mg_if_eq (pc := 42) 63 C dX12_fewest_42 (by decide) (fun hc => ?_) (fun hc => ?_)
    · have hF := hF.1 hc
      refine mg_sub (lv2 := [(0, .ref (mg_ad X 0)), (1, .int x1), (2, .int y2), (3, .int y3), (4, .int y4)]) [1, 2, 3, 4, 5] rfl ?_
      exact hF
    · have hF := hF.2 hc
      refine mg_aload_n (pc := 45) C dX12_fewest_45 1 rfl ?_
      refine mg_iload (pc := 46) C dX12_fewest_46 5 rfl ?_
      refine mg_cvI (pc := 48) C (fun ad => [.int y4]) (met_timesOf y4) gX12_fewest_X12_timesOf rfl ⟨rfl, rfl⟩ nd_timesOf ⟨Nat.le_of_ble_eq_true rfl, Nat.le_of_ble_eq_true rfl⟩ rfl rfl (Nat.le_of_ble_eq_true rfl) dX12_fewest_48 hF (fun r7 h6 hF => ?_)
      refine mg_iload_n (pc := 51) C dX12_fewest_51 2 rfl ?_
      refine mg_csI (pc := 52) C (fun ad => [.int r7, .int x1]) (met_has r7 x1) gX12_fewest_X12_has rfl ⟨rfl, rfl⟩ nd_has.2 ⟨Nat.le_of_ble_eq_true rfl, Nat.le_of_ble_eq_true rfl⟩ rfl rfl (Nat.le_of_ble_eq_true rfl) dX12_fewest_52 hF (fun r9 h8 hF => ?_)
      refine mg_if_eq (pc := 55) 63 C dX12_fewest_55 (by decide) (fun hc => ?_) (fun hc => ?_)
      · have hF := hF.1 hc
        refine mg_sub (lv2 := [(0, .ref (mg_ad X 0)), (1, .int x1), (2, .int y2), (3, .int y3), (4, .int y4)]) [1, 2, 3, 4, 5] rfl ?_
        exact hF
      · have hF := hF.2 hc
        refine mg_iload (pc := 58) C dX12_fewest_58 5 rfl ?_
        refine mg_goto (pc := 60) 64 C dX12_fewest_60 (by decide) ?_
        refine mg_sub (lv2 := [(0, .ref (mg_ad X 0)), (1, .int x1), (3, .int y3), (4, .int y4)]) [1, 2, 4, 5] rfl ?_
        exact hF
  · intro y2 y3 y4 h hF
    refine mg_iload_n (pc := 63) C dX12_fewest_63 2 rfl ?_
    refine mg_sub (lv2 := [(0, .ref (mg_ad X 0)), (1, .int x1), (3, .int y3), (4, .int y4)]) [0, 1, 3, 4] rfl ?_
    exact hF
  · intro y3 y4 s0 h hF
    refine mg_istore_n (pc := 64) (lv2 := [(2, .int s0), (0, .ref (mg_ad X 0)), (1, .int x1), (3, .int y3), (4, .int y4)]) C dX12_fewest_64 6 hnL (by decide) rfl ?_
    obtain ⟨z10, ez10⟩ : ∃ y : Int32, y = y4 + 1 := ⟨_, rfl⟩
    have hF := hF z10 ez10
    refine mg_iinc (pc := 65) (v := z10) (lv2 := [(4, .int z10), (2, .int s0), (0, .ref (mg_ad X 0)), (1, .int x1), (3, .int y3)]) C dX12_fewest_65 4 rfl (by rw [ez10]; rfl) 6 hnL (by decide) rfl ?_
    refine mg_goto (pc := 68) 10 C dX12_fewest_68 (by decide) ?_
    refine mg_sub (lv2 := [(0, .ref (mg_ad X 0)), (1, .int x1), (2, .int s0), (3, .int y3), (4, .int z10)]) [2, 3, 1, 4, 0] rfl ?_
    exact hF
  · skip
    refine mg_iconst (pc := 0) (v := (-1)) C dX12_fewest_0 (by decide) ?_
    refine mg_istore_n (pc := 1) (lv2 := [(2, .int (-1)), (0, .ref (mg_ad X 0)), (1, .int x1)]) C dX12_fewest_1 6 hnL (by decide) rfl ?_
    refine mg_aload_n (pc := 2) C dX12_fewest_2 1 rfl ?_
    refine mg_geti (pc := 3) C inm_fewest 25 (by decide) rfl (by decide) dX12_fewest_3 (List.mem_of_getElem? (i := 1) rfl) ?_
    refine mg_topi (pc := 6) (fun z1 ez1 => ?_)
    have hF := hF z1 ez1
    refine mg_istore_n (pc := 6) (lv2 := [(3, .int z1), (2, .int (-1)), (0, .ref (mg_ad X 0)), (1, .int x1)]) C dX12_fewest_6 6 hnL (by decide) rfl ?_
    refine mg_iconst (pc := 7) (v := 0) C dX12_fewest_7 (by decide) ?_
    refine mg_istore (pc := 8) (lv2 := [(4, .int 0), (3, .int z1), (2, .int (-1)), (0, .ref (mg_ad X 0)), (1, .int x1)]) C dX12_fewest_8 6 hnL (by decide) rfl ?_
    refine mg_sub (lv2 := [(0, .ref (mg_ad X 0)), (1, .int x1), (2, .int (-1)), (3, .int z1), (4, .int 0)]) [3, 4, 2, 1, 0] rfl ?_
    exact hF
def rm_need : Room := { frames := 6, cells := 0, slots := 0, locals := 142 }
theorem nd_need : yX12_need.cls = RX12 ∧ yX12_need.cls ≠ "java/lang/invoke/MethodHandle" ∧ yX12_need.cls ≠ "java/lang/invoke/VarHandle" ∧ (parseMethodDescriptor yX12_need.desc).map (fun d => d.parameters.length) = some 3 := by decide +kernel
theorem inm_need : ∀ w ∈ wsX120, w ∈ wsX12_need := fun _ h9 => List.mem_cons_of_mem _ (List.mem_append_right _ h9)
set_option maxHeartbeats 4000000 in
set_option maxRecDepth 100000 in
theorem met_need (x1 : Int32) (x2 : Int32) (x3 : Int32) : mg_MI yX12_need wsX12_need rm_need (fun ad => [.ref (ad 0), .int x1, .int x2, .int x3]) (fun Q h => wp_need Q x1 x2 x3 h) := by
  refine mg_startI (cc := cX12_need) (maxL := 5) (by decide) rfl rfl (fun ad => Nat.le_of_ble_eq_true rfl) (fun X Q h C hnL E hw => ?_)
  unfold wp_need at hw
  refine mg_sub (lv2 := [(0, .ref (mg_ad X 0)), (1, .int x1), (2, .int x2), (3, .int x3)]) [0, 1, 2, 3] rfl ?_
  refine mg_use (hw (fun (y4 : Int32) (h : mg_H) => mg_W X 42 [(4, .int y4)] [] h) ?_) (fun hF => ?_)
  · intro y4 h hF
    refine mg_iload (pc := 42) C dX12_need_42 0 rfl ?_
    refine mg_goto (pc := 44) 52 C dX12_need_44 (by decide) ?_
    exact mg_retI (pc := 52) C E dX12_need_52 hF
  · skip
    refine mg_aload_n (pc := 0) C dX12_need_0 0 rfl ?_
    refine mg_iconst (pc := 1) (v := 0) C dX12_need_1 (by decide) ?_
    refine mg_puti (pc := 2) C inm_need 0 (by decide) rfl (by decide) dX12_need_2 (List.mem_of_getElem? (i := 1) rfl) rfl (tyX12_ok 0 (by decide)) (fun h1 eh1 => ?_)
    have hF := hF h1 eh1
    refine mg_iload_n (pc := 5) C dX12_need_5 2 rfl ?_
    refine mg_iconst (pc := 6) (v := 1) C dX12_need_6 (by decide) ?_
    refine mg_bipush (pc := 7) (v := 30) C dX12_need_7 (by decide) ?_
    refine mg_csI (pc := 9) C (fun ad => [.int x2, .int 1, .int 30]) (met_in x2 1 30) gX12_need_X12_in rfl ⟨rfl, rfl⟩ nd_in.2 ⟨Nat.le_of_ble_eq_true rfl, Nat.le_of_ble_eq_true rfl⟩ rfl rfl (Nat.le_of_ble_eq_true rfl) dX12_need_9 hF (fun r3 h2 hF => ?_)
    refine mg_if_eq (pc := 12) 23 C dX12_need_12 (by decide) (fun hc => ?_) (fun hc => ?_)
    · have hF := hF.1 hc
      refine mg_iconst (pc := 23) (v := (-1)) C dX12_need_23 (by decide) ?_
      exact mg_retI (pc := 24) C E dX12_need_24 hF
    · have hF := hF.2 hc
      refine mg_aload_n (pc := 15) C dX12_need_15 0 rfl ?_
      refine mg_iload_n (pc := 16) C dX12_need_16 1 rfl ?_
      refine mg_cvI (pc := 17) C (fun ad => [.int x1]) (met_hand x1) gX12_need_X12_hand rfl ⟨rfl, rfl⟩ nd_hand ⟨Nat.le_of_ble_eq_true rfl, Nat.le_of_ble_eq_true rfl⟩ rfl rfl (Nat.le_of_ble_eq_true rfl) dX12_need_17 hF (fun r5 h4 hF => ?_)
      refine mg_if_ne (pc := 20) 25 C dX12_need_20 (by decide) (fun hc => ?_) (fun hc => ?_)
      · have hF := hF.1 hc
        refine mg_aload_n (pc := 25) C dX12_need_25 0 rfl ?_
        refine mg_iload_n (pc := 26) C dX12_need_26 2 rfl ?_
        refine mg_cvI (pc := 27) C (fun ad => [.int x2]) (met_fewest x2) gX12_need_X12_fewest rfl ⟨rfl, rfl⟩ nd_fewest ⟨Nat.le_of_ble_eq_true rfl, Nat.le_of_ble_eq_true rfl⟩ rfl rfl (Nat.le_of_ble_eq_true rfl) dX12_need_27 hF (fun r7 h6 hF => ?_)
        refine mg_istore (pc := 30) (lv2 := [(4, .int r7), (0, .ref (mg_ad X 0)), (1, .int x1), (2, .int x2), (3, .int x3)]) C dX12_need_30 5 hnL (by decide) rfl ?_
        refine mg_iload (pc := 32) C dX12_need_32 0 rfl ?_
        refine mg_iconst (pc := 34) (v := (-1)) C dX12_need_34 (by decide) ?_
        refine mg_icmp_eq (pc := 35) 42 C dX12_need_35 (by decide) (fun hc => ?_) (fun hc => ?_)
        · have hF := hF.1 hc
          refine mg_sub (lv2 := [(4, .int r7)]) [0] rfl ?_
          exact hF
        · have hF := hF.2 hc
          refine mg_iload_n (pc := 38) C dX12_need_38 4 rfl ?_
          refine mg_if_eq (pc := 39) 47 C dX12_need_39 (by decide) (fun hc => ?_) (fun hc => ?_)
          · have hF := hF.1 hc
            refine mg_iload (pc := 47) C dX12_need_47 0 rfl ?_
            refine mg_csI (pc := 49) C (fun ad => [.int r7]) (met_ones r7) gX12_need_X12_ones rfl ⟨rfl, rfl⟩ nd_ones.2 ⟨Nat.le_of_ble_eq_true rfl, Nat.le_of_ble_eq_true rfl⟩ rfl rfl (Nat.le_of_ble_eq_true rfl) dX12_need_49 hF (fun r9 h8 hF => ?_)
            exact mg_retI (pc := 52) C E dX12_need_52 hF
          · have hF := hF.2 hc
            refine mg_sub (lv2 := [(4, .int r7)]) [0] rfl ?_
            exact hF
      · have hF := hF.2 hc
        refine mg_iconst (pc := 23) (v := (-1)) C dX12_need_23 (by decide) ?_
        exact mg_retI (pc := 24) C E dX12_need_24 hF
def rm_spans : Room := { frames := 0, cells := 0, slots := 0, locals := 0 }
theorem nd_spans : yX12_spans.cls = RX12 ∧ yX12_spans.cls ≠ "java/lang/invoke/MethodHandle" ∧ yX12_spans.cls ≠ "java/lang/invoke/VarHandle" ∧ (parseMethodDescriptor yX12_spans.desc).map (fun d => d.parameters.length) = some 0 := by decide +kernel
theorem inm_spans : ∀ w ∈ wsX120, w ∈ wsX12_spans := fun _ h9 => List.mem_cons_of_mem _ (List.mem_append_right _ h9)
set_option maxHeartbeats 4000000 in
set_option maxRecDepth 100000 in
theorem met_spans : mg_MI yX12_spans wsX12_spans rm_spans (fun ad => [.ref (ad 0)]) (fun Q h => wp_spans Q h) := by
  refine mg_startI (cc := cX12_spans) (maxL := 1) (by decide) rfl rfl (fun ad => Nat.le_of_ble_eq_true rfl) (fun X Q h C hnL E hw => ?_)
  unfold wp_spans at hw
  refine mg_sub (lv2 := [(0, .ref (mg_ad X 0))]) [0] rfl ?_
  have hF := hw
  refine mg_aload_n (pc := 0) C dX12_spans_0 0 rfl ?_
  refine mg_getr (pc := 1) C inm_spans 9 (by decide) (by decide) dX12_spans_1 (List.mem_of_getElem? (i := 1) rfl) ?_
  refine mg_bipush (pc := 4) (v := 7) C dX12_spans_4 (by decide) ?_
  refine mg_aload_n (pc := 6) C dX12_spans_6 0 rfl ?_
  refine mg_geti (pc := 7) C inm_spans 45 (by decide) rfl (by decide) dX12_spans_7 (List.mem_of_getElem? (i := 2) rfl) ?_
  refine mg_imul (pc := 10) C dX12_spans_10 ?_
  obtain ⟨hi, hF⟩ := hF
  refine mg_iald (pc := 11) C (by decide) rfl hi dX12_spans_11 ?_
  exact mg_retI (pc := 12) C E dX12_spans_12 hF
def rm_hasOrder : Room := { frames := 2, cells := 0, slots := 0, locals := 44 }
theorem nd_hasOrder : yX12_hasOrder.cls = RX12 ∧ yX12_hasOrder.cls ≠ "java/lang/invoke/MethodHandle" ∧ yX12_hasOrder.cls ≠ "java/lang/invoke/VarHandle" ∧ (parseMethodDescriptor yX12_hasOrder.desc).map (fun d => d.parameters.length) = some 1 := by decide +kernel
theorem inm_hasOrder : ∀ w ∈ wsX120, w ∈ wsX12_hasOrder := fun _ h9 => List.mem_cons_of_mem _ (List.mem_append_right _ h9)
set_option maxHeartbeats 4000000 in
set_option maxRecDepth 100000 in
theorem met_hasOrder (x1 : Int32) : mg_MI yX12_hasOrder wsX12_hasOrder rm_hasOrder (fun ad => [.ref (ad 0), .int x1]) (fun Q h => wp_hasOrder Q x1 h) := by
  refine mg_startI (cc := cX12_hasOrder) (maxL := 2) (by decide) rfl rfl (fun ad => Nat.le_of_ble_eq_true rfl) (fun X Q h C hnL E hw => ?_)
  unfold wp_hasOrder at hw
  refine mg_sub (lv2 := [(0, .ref (mg_ad X 0)), (1, .int x1)]) [0, 1] rfl ?_
  have hF := hw
  refine mg_aload_n (pc := 0) C dX12_hasOrder_0 0 rfl ?_
  refine mg_iload_n (pc := 1) C dX12_hasOrder_1 1 rfl ?_
  refine mg_puti (pc := 2) C inm_hasOrder 45 (by decide) rfl (by decide) dX12_hasOrder_2 (List.mem_of_getElem? (i := 1) rfl) rfl (tyX12_ok 45 (by decide)) (fun h1 eh1 => ?_)
  have hF := hF h1 eh1
  refine mg_aload_n (pc := 5) C dX12_hasOrder_5 0 rfl ?_
  refine mg_iconst (pc := 6) (v := 3) C dX12_hasOrder_6 (by decide) ?_
  refine mg_iload_n (pc := 7) C dX12_hasOrder_7 1 rfl ?_
  refine mg_cvI (pc := 8) C (fun ad => [.int 3, .int x1]) (met_is 3 x1) gX12_hasOrder_X12_is rfl ⟨rfl, rfl⟩ nd_is ⟨Nat.le_of_ble_eq_true rfl, Nat.le_of_ble_eq_true rfl⟩ rfl rfl (Nat.le_of_ble_eq_true rfl) dX12_hasOrder_8 hF (fun r3 h2 hF => ?_)
  exact mg_retZ (pc := 11) C E hF.1 dX12_hasOrder_11 hF.2
def rm_order : Room := { frames := 3, cells := 0, slots := 0, locals := 65 }
theorem nd_order : yX12_order.cls = RX12 ∧ yX12_order.cls ≠ "java/lang/invoke/MethodHandle" ∧ yX12_order.cls ≠ "java/lang/invoke/VarHandle" ∧ (parseMethodDescriptor yX12_order.desc).map (fun d => d.parameters.length) = some 2 := by decide +kernel
theorem inm_order : ∀ w ∈ wsX120, w ∈ wsX12_order := fun _ h9 => List.mem_cons_of_mem _ (List.mem_append_right _ h9)
set_option maxHeartbeats 4000000 in
set_option maxRecDepth 100000 in
theorem met_order (x1 : Int32) (x2 : Int32) : mg_MI yX12_order wsX12_order rm_order (fun ad => [.ref (ad 0), .int x1, .int x2]) (fun Q h => wp_order Q x1 x2 h) := by
  refine mg_startI (cc := cX12_order) (maxL := 3) (by decide) rfl rfl (fun ad => Nat.le_of_ble_eq_true rfl) (fun X Q h C hnL E hw => ?_)
  unfold wp_order at hw
  refine mg_sub (lv2 := [(0, .ref (mg_ad X 0)), (1, .int x1), (2, .int x2)]) [0, 1, 2] rfl ?_
  have hF := hw
  refine mg_aload_n (pc := 0) C dX12_order_0 0 rfl ?_
  refine mg_iconst (pc := 1) (v := 0) C dX12_order_1 (by decide) ?_
  refine mg_puti (pc := 2) C inm_order 0 (by decide) rfl (by decide) dX12_order_2 (List.mem_of_getElem? (i := 1) rfl) rfl (tyX12_ok 0 (by decide)) (fun h1 eh1 => ?_)
  have hF := hF h1 eh1
  refine mg_aload_n (pc := 5) C dX12_order_5 0 rfl ?_
  refine mg_iload_n (pc := 6) C dX12_order_6 1 rfl ?_
  refine mg_cvI (pc := 7) C (fun ad => [.int x1]) (met_hasOrder x1) gX12_order_X12_hasOrder rfl ⟨rfl, rfl⟩ nd_hasOrder ⟨Nat.le_of_ble_eq_true rfl, Nat.le_of_ble_eq_true rfl⟩ rfl rfl (Nat.le_of_ble_eq_true rfl) dX12_order_7 hF (fun r3 h2 hF => ?_)
  refine mg_if_ne (pc := 10) 15 C dX12_order_10 (by decide) (fun hc => ?_) (fun hc => ?_)
  · have hF := hF.1 hc
    refine mg_iload_n (pc := 15) C dX12_order_15 2 rfl ?_
    refine mg_iconst (pc := 16) (v := (-1)) C dX12_order_16 (by decide) ?_
    refine mg_icmp_ne (pc := 17) 27 C dX12_order_17 (by decide) (fun hc => ?_) (fun hc => ?_)
    · have hF := hF.1 hc
      refine mg_iload_n (pc := 27) C dX12_order_27 2 rfl ?_
      refine mg_iconst (pc := 28) (v := 0) C dX12_order_28 (by decide) ?_
      refine mg_aload_n (pc := 29) C dX12_order_29 0 rfl ?_
      refine mg_cvI (pc := 30) C (fun ad => []) (met_spans) gX12_order_X12_spans rfl ⟨rfl, rfl⟩ nd_spans ⟨Nat.le_of_ble_eq_true rfl, Nat.le_of_ble_eq_true rfl⟩ rfl rfl (Nat.le_of_ble_eq_true rfl) dX12_order_30 hF (fun r5 h4 hF => ?_)
      refine mg_iconst (pc := 33) (v := 1) C dX12_order_33 (by decide) ?_
      refine mg_isub (pc := 34) C dX12_order_34 ?_
      refine mg_csI (pc := 35) C (fun ad => [.int x2, .int 0, .int (r5 - 1)]) (met_in x2 0 (r5 - 1)) gX12_order_X12_in rfl ⟨rfl, rfl⟩ nd_in.2 ⟨Nat.le_of_ble_eq_true rfl, Nat.le_of_ble_eq_true rfl⟩ rfl rfl (Nat.le_of_ble_eq_true rfl) dX12_order_35 hF (fun r7 h6 hF => ?_)
      refine mg_if_eq (pc := 38) 57 C dX12_order_38 (by decide) (fun hc => ?_) (fun hc => ?_)
      · have hF := hF.1 hc
        refine mg_iconst (pc := 57) (v := (-1)) C dX12_order_57 (by decide) ?_
        exact mg_retI (pc := 58) C E dX12_order_58 hF
      · have hF := hF.2 hc
        refine mg_aload_n (pc := 41) C dX12_order_41 0 rfl ?_
        refine mg_getr (pc := 42) C inm_order 9 (by decide) (by decide) dX12_order_42 (List.mem_of_getElem? (i := 2) rfl) ?_
        refine mg_bipush (pc := 45) (v := 7) C dX12_order_45 (by decide) ?_
        refine mg_iload_n (pc := 47) C dX12_order_47 1 rfl ?_
        refine mg_imul (pc := 48) C dX12_order_48 ?_
        refine mg_iconst (pc := 49) (v := 1) C dX12_order_49 (by decide) ?_
        refine mg_iadd (pc := 50) C dX12_order_50 ?_
        refine mg_iload_n (pc := 51) C dX12_order_51 2 rfl ?_
        refine mg_iadd (pc := 52) C dX12_order_52 ?_
        obtain ⟨hi, hF⟩ := hF
        refine mg_iald (pc := 53) C (by decide) rfl hi dX12_order_53 ?_
        refine mg_goto (pc := 54) 58 C dX12_order_54 (by decide) ?_
        exact mg_retI (pc := 58) C E dX12_order_58 hF
    · have hF := hF.2 hc
      refine mg_aload_n (pc := 20) C dX12_order_20 0 rfl ?_
      refine mg_cvI (pc := 21) C (fun ad => []) (met_spans) gX12_order_X12_spans rfl ⟨rfl, rfl⟩ nd_spans ⟨Nat.le_of_ble_eq_true rfl, Nat.le_of_ble_eq_true rfl⟩ rfl rfl (Nat.le_of_ble_eq_true rfl) dX12_order_21 hF (fun r9 h8 hF => ?_)
      refine mg_goto (pc := 24) 58 C dX12_order_24 (by decide) ?_
      exact mg_retI (pc := 58) C E dX12_order_58 hF
  · have hF := hF.2 hc
    refine mg_iconst (pc := 13) (v := (-1)) C dX12_order_13 (by decide) ?_
    exact mg_retI (pc := 14) C E dX12_order_14 hF
def rm_keepIdle : Room := { frames := 2, cells := 0, slots := 0, locals := 47 }
theorem nd_keepIdle : yX12_keepIdle.cls = RX12 ∧ yX12_keepIdle.cls ≠ "java/lang/invoke/MethodHandle" ∧ yX12_keepIdle.cls ≠ "java/lang/invoke/VarHandle" ∧ (parseMethodDescriptor yX12_keepIdle.desc).map (fun d => d.parameters.length) = some 1 := by decide +kernel
theorem inm_keepIdle : ∀ w ∈ wsX120, w ∈ wsX12_keepIdle := fun _ h9 => List.mem_cons_of_mem _ (List.mem_append_right _ h9)
set_option maxHeartbeats 4000000 in
set_option maxRecDepth 100000 in
theorem met_keepIdle (x1 : Int32) : mg_MV yX12_keepIdle wsX12_keepIdle rm_keepIdle (fun ad => [.ref (ad 0), .int x1]) (fun Q h => wp_keepIdle Q x1 h) := by
  refine mg_startV (cc := cX12_keepIdle) (maxL := 5) (by decide) rfl rfl (fun ad => Nat.le_of_ble_eq_true rfl) (fun X Q h C hnL E hw => ?_)
  unfold wp_keepIdle at hw
  refine mg_sub (lv2 := [(0, .ref (mg_ad X 0)), (1, .int x1)]) [0, 1] rfl ?_
  refine mg_use (hw (fun (y2 : Int32) (h : mg_H) => mg_W X 2 [(0, .ref (mg_ad X 0)), (1, .int x1), (2, .int y2)] [] h) (fun (y2 : Int32) (y3 : Int32) (h : mg_H) => mg_W X 11 [(0, .ref (mg_ad X 0)), (1, .int x1), (2, .int y2), (3, .int y3)] [] h) (fun (y2 : Int32) (h : mg_H) => mg_W X 96 [(0, .ref (mg_ad X 0)), (1, .int x1), (2, .int y2)] [] h) (fun (y2 : Int32) (y3 : Int32) (h : mg_H) => mg_W X 90 [(0, .ref (mg_ad X 0)), (1, .int x1), (2, .int y2), (3, .int y3)] [] h) ?_ ?_ ?_ ?_) (fun hF => ?_)
  · intro y2 h hF
    refine mg_iload_n (pc := 2) C dX12_keepIdle_2 2 rfl ?_
    refine mg_ldcw (pc := 3) (v := 368640) C dX12_keepIdle_3 (List.mem_of_getElem? (i := 1) rfl) ?_
    refine mg_icmp_ge (pc := 6) 102 C dX12_keepIdle_6 (by decide) (fun hc => ?_) (fun hc => ?_)
    · have hF := hF.1 hc
      exact mg_retV (pc := 102) C E dX12_keepIdle_102 hF
    · have hF := hF.2 hc
      refine mg_iconst (pc := 9) (v := 0) C dX12_keepIdle_9 (by decide) ?_
      refine mg_istore_n (pc := 10) (lv2 := [(3, .int 0), (0, .ref (mg_ad X 0)), (1, .int x1), (2, .int y2)]) C dX12_keepIdle_10 5 hnL (by decide) rfl ?_
      refine mg_sub (lv2 := [(0, .ref (mg_ad X 0)), (1, .int x1), (2, .int y2), (3, .int 0)]) [1, 2, 3, 0] rfl ?_
      exact hF
  · intro y2 y3 h hF
    refine mg_iload_n (pc := 11) C dX12_keepIdle_11 3 rfl ?_
    refine mg_aload_n (pc := 12) C dX12_keepIdle_12 0 rfl ?_
    refine mg_geti (pc := 13) C inm_keepIdle 25 (by decide) rfl (by decide) dX12_keepIdle_13 (List.mem_of_getElem? (i := 2) rfl) ?_
    refine mg_icmp_gt (pc := 16) 96 C dX12_keepIdle_16 (by decide) (fun hc => ?_) (fun hc => ?_)
    · have hF := hF.1 hc
      refine mg_sub (lv2 := [(0, .ref (mg_ad X 0)), (1, .int x1), (2, .int y2)]) [0, 1, 2] rfl ?_
      exact hF
    · have hF := hF.2 hc
      refine mg_aload_n (pc := 19) C dX12_keepIdle_19 0 rfl ?_
      refine mg_getr (pc := 20) C inm_keepIdle 46 (by decide) (by decide) dX12_keepIdle_20 (List.mem_of_getElem? (i := 3) rfl) ?_
      refine mg_iload_n (pc := 23) C dX12_keepIdle_23 2 rfl ?_
      obtain ⟨hi, hF⟩ := hF
      refine mg_iald (pc := 24) C (by decide) rfl hi dX12_keepIdle_24 ?_
      refine mg_iload_n (pc := 25) C dX12_keepIdle_25 1 rfl ?_
      refine mg_csI (pc := 26) C (fun ad => [.int (mg_i h 46 y2.toNatClampNeg), .int x1]) (met_has (mg_i h 46 y2.toNatClampNeg) x1) gX12_keepIdle_X12_has rfl ⟨rfl, rfl⟩ nd_has.2 ⟨Nat.le_of_ble_eq_true rfl, Nat.le_of_ble_eq_true rfl⟩ rfl rfl (Nat.le_of_ble_eq_true rfl) dX12_keepIdle_26 hF (fun r2 h1 hF => ?_)
      refine mg_if_eq (pc := 29) 96 C dX12_keepIdle_29 (by decide) (fun hc => ?_) (fun hc => ?_)
      · have hF := hF.1 hc
        refine mg_sub (lv2 := [(0, .ref (mg_ad X 0)), (1, .int x1), (2, .int y2)]) [0, 1, 2] rfl ?_
        exact hF
      · have hF := hF.2 hc
        refine mg_aload_n (pc := 32) C dX12_keepIdle_32 0 rfl ?_
        refine mg_iload_n (pc := 33) C dX12_keepIdle_33 2 rfl ?_
        refine mg_sipush (pc := 34) (v := 4096) C dX12_keepIdle_34 (by decide) ?_
        refine mg_irem (pc := 37) C dX12_keepIdle_37 (by decide) ?_
        refine mg_iload_n (pc := 38) C dX12_keepIdle_38 3 rfl ?_
        refine mg_cvI (pc := 39) C (fun ad => [.int (y2 - y2 / 4096 * 4096), .int y3]) (met_next (y2 - y2 / 4096 * 4096) y3) gX12_keepIdle_X12_next rfl ⟨rfl, rfl⟩ nd_next ⟨Nat.le_of_ble_eq_true rfl, Nat.le_of_ble_eq_true rfl⟩ rfl rfl (Nat.le_of_ble_eq_true rfl) dX12_keepIdle_39 hF (fun r4 h3 hF => ?_)
        refine mg_istore (pc := 42) (lv2 := [(4, .int r4), (0, .ref (mg_ad X 0)), (1, .int x1), (2, .int y2), (3, .int y3)]) C dX12_keepIdle_42 5 hnL (by decide) rfl ?_
        refine mg_iload (pc := 44) C dX12_keepIdle_44 0 rfl ?_
        refine mg_if_le (pc := 46) 90 C dX12_keepIdle_46 (by decide) (fun hc => ?_) (fun hc => ?_)
        · have hF := hF.1 hc
          refine mg_sub (lv2 := [(0, .ref (mg_ad X 0)), (1, .int x1), (2, .int y2), (3, .int y3)]) [1, 2, 3, 4] rfl ?_
          exact hF
        · have hF := hF.2 hc
          refine mg_iload_n (pc := 49) C dX12_keepIdle_49 3 rfl ?_
          refine mg_sipush (pc := 50) (v := 4096) C dX12_keepIdle_50 (by decide) ?_
          refine mg_idiv (pc := 53) C dX12_keepIdle_53 (by decide) ?_
          refine mg_iload (pc := 54) C dX12_keepIdle_54 0 rfl ?_
          refine mg_iadd (pc := 56) C dX12_keepIdle_56 ?_
          refine mg_bipush (pc := 57) (v := 90) C dX12_keepIdle_57 (by decide) ?_
          refine mg_icmp_gt (pc := 59) 90 C dX12_keepIdle_59 (by decide) (fun hc => ?_) (fun hc => ?_)
          · have hF := hF.1 hc
            refine mg_sub (lv2 := [(0, .ref (mg_ad X 0)), (1, .int x1), (2, .int y2), (3, .int y3)]) [1, 2, 3, 4] rfl ?_
            exact hF
          · have hF := hF.2 hc
            refine mg_aload_n (pc := 62) C dX12_keepIdle_62 1 rfl ?_
            refine mg_getr (pc := 63) C inm_keepIdle 46 (by decide) (by decide) dX12_keepIdle_63 (List.mem_of_getElem? (i := 3) rfl) ?_
            refine mg_sipush (pc := 66) (v := 4096) C dX12_keepIdle_66 (by decide) ?_
            refine mg_iload_n (pc := 69) C dX12_keepIdle_69 3 rfl ?_
            refine mg_sipush (pc := 70) (v := 4096) C dX12_keepIdle_70 (by decide) ?_
            refine mg_idiv (pc := 73) C dX12_keepIdle_73 (by decide) ?_
            refine mg_iload (pc := 74) C dX12_keepIdle_74 0 rfl ?_
            refine mg_iadd (pc := 76) C dX12_keepIdle_76 ?_
            refine mg_imul (pc := 77) C dX12_keepIdle_77 ?_
            refine mg_aload_n (pc := 78) C dX12_keepIdle_78 1 rfl ?_
            refine mg_geti (pc := 79) C inm_keepIdle 39 (by decide) rfl (by decide) dX12_keepIdle_79 (List.mem_of_getElem? (i := 4) rfl) ?_
            refine mg_iadd (pc := 82) C dX12_keepIdle_82 ?_
            refine mg_dup2 (pc := 83) C dX12_keepIdle_83 rfl rfl ?_
            obtain ⟨hi, hF⟩ := hF
            refine mg_iald (pc := 84) C (by decide) rfl hi dX12_keepIdle_84 ?_
            refine mg_iconst (pc := 85) (v := 1) C dX12_keepIdle_85 (by decide) ?_
            refine mg_iload_n (pc := 86) C dX12_keepIdle_86 2 rfl ?_
            refine mg_ishl (pc := 87) C dX12_keepIdle_87 ?_
            refine mg_ior (pc := 88) C dX12_keepIdle_88 ?_
            obtain ⟨hi, hF⟩ := hF
            refine mg_iast (pc := 89) C (by decide) rfl hi dX12_keepIdle_89 (fun h5 eh5 => ?_)
            have hF := hF h5 eh5
            refine mg_sub (lv2 := [(0, .ref (mg_ad X 0)), (1, .int x1), (2, .int y2), (3, .int y3)]) [1, 2, 3, 4] rfl ?_
            exact hF
  · intro y2 h hF
    obtain ⟨z6, ez6⟩ : ∃ y : Int32, y = y2 + 1 := ⟨_, rfl⟩
    have hF := hF z6 ez6
    refine mg_iinc (pc := 96) (v := z6) (lv2 := [(2, .int z6), (0, .ref (mg_ad X 0)), (1, .int x1)]) C dX12_keepIdle_96 2 rfl (by rw [ez6]; rfl) 5 hnL (by decide) rfl ?_
    refine mg_goto (pc := 99) 2 C dX12_keepIdle_99 (by decide) ?_
    refine mg_sub (lv2 := [(0, .ref (mg_ad X 0)), (1, .int x1), (2, .int z6)]) [1, 2, 0] rfl ?_
    exact hF
  · intro y2 y3 h hF
    obtain ⟨z7, ez7⟩ : ∃ y : Int32, y = y3 + 1 := ⟨_, rfl⟩
    have hF := hF z7 ez7
    refine mg_iinc (pc := 90) (v := z7) (lv2 := [(3, .int z7), (0, .ref (mg_ad X 0)), (1, .int x1), (2, .int y2)]) C dX12_keepIdle_90 3 rfl (by rw [ez7]; rfl) 5 hnL (by decide) rfl ?_
    refine mg_goto (pc := 93) 11 C dX12_keepIdle_93 (by decide) ?_
    refine mg_sub (lv2 := [(0, .ref (mg_ad X 0)), (1, .int x1), (2, .int y2), (3, .int z7)]) [1, 2, 3, 0] rfl ?_
    exact hF
  · skip
    refine mg_iconst (pc := 0) (v := 0) C dX12_keepIdle_0 (by decide) ?_
    refine mg_istore_n (pc := 1) (lv2 := [(2, .int 0), (0, .ref (mg_ad X 0)), (1, .int x1)]) C dX12_keepIdle_1 5 hnL (by decide) rfl ?_
    refine mg_sub (lv2 := [(0, .ref (mg_ad X 0)), (1, .int x1), (2, .int 0)]) [1, 2, 0] rfl ?_
    exact hF
def rm_tellFrom : Room := { frames := 3, cells := 0, slots := 0, locals := 75 }
theorem nd_tellFrom : yX12_tellFrom.cls = RX12 ∧ yX12_tellFrom.cls ≠ "java/lang/invoke/MethodHandle" ∧ yX12_tellFrom.cls ≠ "java/lang/invoke/VarHandle" ∧ (parseMethodDescriptor yX12_tellFrom.desc).map (fun d => d.parameters.length) = some 3 := by decide +kernel
theorem inm_tellFrom : ∀ w ∈ wsX120, w ∈ wsX12_tellFrom := fun _ h9 => List.mem_cons_of_mem _ (List.mem_append_right _ h9)
set_option maxHeartbeats 4000000 in
set_option maxRecDepth 100000 in
theorem met_tellFrom (x1 : Int32) (x2 : Int32) (x3 : Int32) : mg_MV yX12_tellFrom wsX12_tellFrom rm_tellFrom (fun ad => [.ref (ad 0), .int x1, .int x2, .int x3]) (fun Q h => wp_tellFrom Q x1 x2 x3 h) := by
  refine mg_startV (cc := cX12_tellFrom) (maxL := 7) (by decide) rfl rfl (fun ad => Nat.le_of_ble_eq_true rfl) (fun X Q h C hnL E hw => ?_)
  unfold wp_tellFrom at hw
  refine mg_sub (lv2 := [(0, .ref (mg_ad X 0)), (1, .int x1), (2, .int x2), (3, .int x3)]) [0, 1, 2, 3] rfl ?_
  refine mg_use (hw (fun (y4 : Int32) (y5 : Int32) (h : mg_H) => mg_W X 12 [(0, .ref (mg_ad X 0)), (1, .int x1), (2, .int x2), (3, .int x3), (4, .int y4), (5, .int y5)] [] h) (fun (y5 : Int32) (h : mg_H) => mg_W X 95 [(0, .ref (mg_ad X 0)), (1, .int x1), (2, .int x2), (3, .int x3), (5, .int y5)] [] h) (fun (y4 : Int32) (y5 : Int32) (y6 : Int32) (s0 : Int32) (s1 : Int32) (h : mg_H) => mg_W X 55 [(0, .ref (mg_ad X 0)), (1, .int x1), (2, .int x2), (3, .int x3), (4, .int y4), (5, .int y5), (6, .int y6)] [.int s0, .int s1, .ref (mg_ad X 40)] h) (fun (y5 : Int32) (s0 : Int32) (s1 : Int32) (s2 : Int32) (h : mg_H) => mg_W X 143 [(0, .ref (mg_ad X 0)), (1, .int x1), (2, .int x2), (3, .int x3), (5, .int y5)] [.int s0, .int s1, .int s2, .ref (mg_ad X 46)] h) (fun (y5 : Int32) (h : mg_H) => mg_W X 66 [(0, .ref (mg_ad X 0)), (1, .int x1), (2, .int x2), (3, .int x3), (5, .int y5)] [] h) (fun (y5 : Int32) (s0 : Int32) (h : mg_H) => mg_W X 71 [(0, .ref (mg_ad X 0)), (1, .int x1), (2, .int x2), (3, .int x3), (5, .int y5)] [.int s0] h) ?_ ?_ ?_ ?_ ?_ ?_) (fun hF => ?_)
  · intro y4 y5 h hF
    refine mg_iload (pc := 12) C dX12_tellFrom_12 5 rfl ?_
    refine mg_sipush (pc := 14) (v := 4096) C dX12_tellFrom_14 (by decide) ?_
    refine mg_icmp_ge (pc := 17) 79 C dX12_tellFrom_17 (by decide) (fun hc => ?_) (fun hc => ?_)
    · have hF := hF.1 hc
      refine mg_iload (pc := 79) C dX12_tellFrom_79 4 rfl ?_
      refine mg_if_ne (pc := 81) 85 C dX12_tellFrom_81 (by decide) (fun hc => ?_) (fun hc => ?_)
      · have hF := hF.1 hc
        refine mg_aload_n (pc := 85) C dX12_tellFrom_85 0 rfl ?_
        refine mg_iconst (pc := 86) (v := 0) C dX12_tellFrom_86 (by decide) ?_
        refine mg_iload_n (pc := 87) C dX12_tellFrom_87 2 rfl ?_
        refine mg_iconst (pc := 88) (v := 0) C dX12_tellFrom_88 (by decide) ?_
        refine mg_cvV (pc := 89) C (fun ad => [.int 0, .int x2, .int 0]) (met_goOn 0 x2 0) gX12_tellFrom_X12_goOn rfl ⟨rfl, rfl⟩ nd_goOn ⟨Nat.le_of_ble_eq_true rfl, Nat.le_of_ble_eq_true rfl⟩ rfl rfl (Nat.le_of_ble_eq_true rfl) dX12_tellFrom_89 hF (fun h2 hF => ?_)
        refine mg_iconst (pc := 92) (v := 0) C dX12_tellFrom_92 (by decide) ?_
        refine mg_istore (pc := 93) (lv2 := [(5, .int 0), (0, .ref (mg_ad X 0)), (1, .int x1), (2, .int x2), (3, .int x3), (4, .int y4)]) C dX12_tellFrom_93 7 hnL (by decide) rfl ?_
        refine mg_sub (lv2 := [(0, .ref (mg_ad X 0)), (1, .int x1), (2, .int x2), (3, .int x3), (5, .int 0)]) [1, 2, 3, 4, 0] rfl ?_
        exact hF
      · have hF := hF.2 hc
        exact mg_retV (pc := 84) C E dX12_tellFrom_84 hF
    · have hF := hF.2 hc
      refine mg_aload_n (pc := 20) C dX12_tellFrom_20 0 rfl ?_
      refine mg_getr (pc := 21) C inm_tellFrom 46 (by decide) (by decide) dX12_tellFrom_21 (List.mem_of_getElem? (i := 1) rfl) ?_
      refine mg_sipush (pc := 24) (v := 4096) C dX12_tellFrom_24 (by decide) ?_
      refine mg_iload_n (pc := 27) C dX12_tellFrom_27 1 rfl ?_
      refine mg_imul (pc := 28) C dX12_tellFrom_28 ?_
      refine mg_iload (pc := 29) C dX12_tellFrom_29 5 rfl ?_
      refine mg_iadd (pc := 31) C dX12_tellFrom_31 ?_
      obtain ⟨hi, hF⟩ := hF
      refine mg_iald (pc := 32) C (by decide) rfl hi dX12_tellFrom_32 ?_
      refine mg_iload_n (pc := 33) C dX12_tellFrom_33 3 rfl ?_
      refine mg_csI (pc := 34) C (fun ad => [.int (mg_i h 46 ((4096 * x1) + y5).toNatClampNeg), .int x3]) (met_has (mg_i h 46 ((4096 * x1) + y5).toNatClampNeg) x3) gX12_tellFrom_X12_has rfl ⟨rfl, rfl⟩ nd_has.2 ⟨Nat.le_of_ble_eq_true rfl, Nat.le_of_ble_eq_true rfl⟩ rfl rfl (Nat.le_of_ble_eq_true rfl) dX12_tellFrom_34 hF (fun r4 h3 hF => ?_)
      refine mg_istore (pc := 37) (lv2 := [(6, .int r4), (0, .ref (mg_ad X 0)), (1, .int x1), (2, .int x2), (3, .int x3), (4, .int y4), (5, .int y5)]) C dX12_tellFrom_37 7 hnL (by decide) rfl ?_
      refine mg_aload_n (pc := 39) C dX12_tellFrom_39 1 rfl ?_
      refine mg_getr (pc := 40) C inm_tellFrom 40 (by decide) (by decide) dX12_tellFrom_40 (List.mem_of_getElem? (i := 2) rfl) ?_
      refine mg_iload (pc := 43) C dX12_tellFrom_43 6 rfl ?_
      refine mg_iload (pc := 45) C dX12_tellFrom_45 0 rfl ?_
      refine mg_if_eq (pc := 47) 54 C dX12_tellFrom_47 (by decide) (fun hc => ?_) (fun hc => ?_)
      · have hF := hF.1 hc
        refine mg_iconst (pc := 54) (v := (-1)) C dX12_tellFrom_54 (by decide) ?_
        refine mg_sub (lv2 := [(0, .ref (mg_ad X 0)), (1, .int x1), (2, .int x2), (3, .int x3), (4, .int y4), (5, .int y5), (6, .int r4)]) [1, 2, 3, 4, 5, 6, 0] rfl ?_
        exact hF
      · have hF := hF.2 hc
        refine mg_iconst (pc := 50) (v := 0) C dX12_tellFrom_50 (by decide) ?_
        refine mg_goto (pc := 51) 55 C dX12_tellFrom_51 (by decide) ?_
        refine mg_sub (lv2 := [(0, .ref (mg_ad X 0)), (1, .int x1), (2, .int x2), (3, .int x3), (4, .int y4), (5, .int y5), (6, .int r4)]) [1, 2, 3, 4, 5, 6, 0] rfl ?_
        exact hF
  · intro y5 h hF
    refine mg_iload (pc := 95) C dX12_tellFrom_95 4 rfl ?_
    refine mg_sipush (pc := 97) (v := 4096) C dX12_tellFrom_97 (by decide) ?_
    refine mg_icmp_ge (pc := 100) 151 C dX12_tellFrom_100 (by decide) (fun hc => ?_) (fun hc => ?_)
    · have hF := hF.1 hc
      exact mg_retV (pc := 151) C E dX12_tellFrom_151 hF
    · have hF := hF.2 hc
      refine mg_aload_n (pc := 103) C dX12_tellFrom_103 0 rfl ?_
      refine mg_getr (pc := 104) C inm_tellFrom 46 (by decide) (by decide) dX12_tellFrom_104 (List.mem_of_getElem? (i := 1) rfl) ?_
      refine mg_sipush (pc := 107) (v := 4096) C dX12_tellFrom_107 (by decide) ?_
      refine mg_iload_n (pc := 110) C dX12_tellFrom_110 1 rfl ?_
      refine mg_iload_n (pc := 111) C dX12_tellFrom_111 2 rfl ?_
      refine mg_iadd (pc := 112) C dX12_tellFrom_112 ?_
      refine mg_imul (pc := 113) C dX12_tellFrom_113 ?_
      refine mg_iload (pc := 114) C dX12_tellFrom_114 4 rfl ?_
      refine mg_iadd (pc := 116) C dX12_tellFrom_116 ?_
      refine mg_dup2 (pc := 117) C dX12_tellFrom_117 rfl rfl ?_
      obtain ⟨hi, hF⟩ := hF
      refine mg_iald (pc := 118) C (by decide) rfl hi dX12_tellFrom_118 ?_
      refine mg_aload_n (pc := 119) C dX12_tellFrom_119 0 rfl ?_
      refine mg_getr (pc := 120) C inm_tellFrom 40 (by decide) (by decide) dX12_tellFrom_120 (List.mem_of_getElem? (i := 2) rfl) ?_
      refine mg_sipush (pc := 123) (v := 4096) C dX12_tellFrom_123 (by decide) ?_
      refine mg_iload_n (pc := 126) C dX12_tellFrom_126 2 rfl ?_
      refine mg_imul (pc := 127) C dX12_tellFrom_127 ?_
      refine mg_iload (pc := 128) C dX12_tellFrom_128 4 rfl ?_
      refine mg_iadd (pc := 130) C dX12_tellFrom_130 ?_
      obtain ⟨hi, hF⟩ := hF
      refine mg_iald (pc := 131) C (by decide) rfl hi dX12_tellFrom_131 ?_
      refine mg_iconst (pc := 132) (v := (-1)) C dX12_tellFrom_132 (by decide) ?_
      refine mg_icmp_ne (pc := 133) 140 C dX12_tellFrom_133 (by decide) (fun hc => ?_) (fun hc => ?_)
      · have hF := hF.1 hc
        refine mg_iconst (pc := 140) (v := 2) C dX12_tellFrom_140 (by decide) ?_
        refine mg_iload_n (pc := 141) C dX12_tellFrom_141 3 rfl ?_
        refine mg_ishl (pc := 142) C dX12_tellFrom_142 ?_
        exact hF
      · have hF := hF.2 hc
        refine mg_iconst (pc := 136) (v := 0) C dX12_tellFrom_136 (by decide) ?_
        refine mg_goto (pc := 137) 143 C dX12_tellFrom_137 (by decide) ?_
        exact hF
  · intro y4 y5 y6 s0 s1 h hF
    obtain ⟨hi, hF⟩ := hF
    refine mg_iast (pc := 55) C (by decide) rfl hi dX12_tellFrom_55 (fun h5 eh5 => ?_)
    have hF := hF h5 eh5
    refine mg_iload (pc := 56) C dX12_tellFrom_56 4 rfl ?_
    refine mg_if_ne (pc := 58) 66 C dX12_tellFrom_58 (by decide) (fun hc => ?_) (fun hc => ?_)
    · have hF := hF.1 hc
      refine mg_sub (lv2 := [(0, .ref (mg_ad X 0)), (1, .int x1), (2, .int x2), (3, .int x3), (5, .int y5)]) [0, 1, 2, 3, 5] rfl ?_
      exact hF
    · have hF := hF.2 hc
      refine mg_iload (pc := 61) C dX12_tellFrom_61 6 rfl ?_
      refine mg_if_eq (pc := 63) 70 C dX12_tellFrom_63 (by decide) (fun hc => ?_) (fun hc => ?_)
      · have hF := hF.1 hc
        refine mg_iconst (pc := 70) (v := 0) C dX12_tellFrom_70 (by decide) ?_
        refine mg_sub (lv2 := [(0, .ref (mg_ad X 0)), (1, .int x1), (2, .int x2), (3, .int x3), (5, .int y5)]) [0, 1, 2, 3, 5] rfl ?_
        exact hF
      · have hF := hF.2 hc
        refine mg_sub (lv2 := [(0, .ref (mg_ad X 0)), (1, .int x1), (2, .int x2), (3, .int x3), (5, .int y5)]) [0, 1, 2, 3, 5] rfl ?_
        exact hF
  · intro y5 s0 s1 s2 h hF
    refine mg_ior (pc := 143) C dX12_tellFrom_143 ?_
    obtain ⟨hi, hF⟩ := hF
    refine mg_iast (pc := 144) C (by decide) rfl hi dX12_tellFrom_144 (fun h6 eh6 => ?_)
    have hF := hF h6 eh6
    obtain ⟨z7, ez7⟩ : ∃ y : Int32, y = y5 + 1 := ⟨_, rfl⟩
    have hF := hF z7 ez7
    refine mg_iinc (pc := 145) (v := z7) (lv2 := [(5, .int z7), (0, .ref (mg_ad X 0)), (1, .int x1), (2, .int x2), (3, .int x3)]) C dX12_tellFrom_145 4 rfl (by rw [ez7]; rfl) 7 hnL (by decide) rfl ?_
    refine mg_goto (pc := 148) 95 C dX12_tellFrom_148 (by decide) ?_
    refine mg_sub (lv2 := [(0, .ref (mg_ad X 0)), (1, .int x1), (2, .int x2), (3, .int x3), (5, .int z7)]) [1, 2, 3, 4, 0] rfl ?_
    exact hF
  · intro y5 h hF
    refine mg_iconst (pc := 66) (v := 1) C dX12_tellFrom_66 (by decide) ?_
    refine mg_goto (pc := 67) 71 C dX12_tellFrom_67 (by decide) ?_
    exact hF
  · intro y5 s0 h hF
    refine mg_istore (pc := 71) (lv2 := [(4, .int s0), (0, .ref (mg_ad X 0)), (1, .int x1), (2, .int x2), (3, .int x3), (5, .int y5)]) C dX12_tellFrom_71 7 hnL (by decide) rfl ?_
    obtain ⟨z8, ez8⟩ : ∃ y : Int32, y = y5 + 1 := ⟨_, rfl⟩
    have hF := hF z8 ez8
    refine mg_iinc (pc := 73) (v := z8) (lv2 := [(5, .int z8), (4, .int s0), (0, .ref (mg_ad X 0)), (1, .int x1), (2, .int x2), (3, .int x3)]) C dX12_tellFrom_73 5 rfl (by rw [ez8]; rfl) 7 hnL (by decide) rfl ?_
    refine mg_goto (pc := 76) 12 C dX12_tellFrom_76 (by decide) ?_
    refine mg_sub (lv2 := [(0, .ref (mg_ad X 0)), (1, .int x1), (2, .int x2), (3, .int x3), (4, .int s0), (5, .int z8)]) [2, 3, 4, 5, 1, 0] rfl ?_
    exact hF
  · skip
    refine mg_aload_n (pc := 0) C dX12_tellFrom_0 0 rfl ?_
    refine mg_iconst (pc := 1) (v := 0) C dX12_tellFrom_1 (by decide) ?_
    refine mg_iload_n (pc := 2) C dX12_tellFrom_2 2 rfl ?_
    refine mg_cvV (pc := 3) C (fun ad => [.int 0, .int x2]) (met_clear 0 x2) gX12_tellFrom_X12_clear rfl ⟨rfl, rfl⟩ nd_clear ⟨Nat.le_of_ble_eq_true rfl, Nat.le_of_ble_eq_true rfl⟩ rfl rfl (Nat.le_of_ble_eq_true rfl) dX12_tellFrom_3 hF (fun h1 hF => ?_)
    refine mg_iconst (pc := 6) (v := 0) C dX12_tellFrom_6 (by decide) ?_
    refine mg_istore (pc := 7) (lv2 := [(4, .int 0), (0, .ref (mg_ad X 0)), (1, .int x1), (2, .int x2), (3, .int x3)]) C dX12_tellFrom_7 7 hnL (by decide) rfl ?_
    refine mg_iconst (pc := 9) (v := 0) C dX12_tellFrom_9 (by decide) ?_
    refine mg_istore (pc := 10) (lv2 := [(5, .int 0), (4, .int 0), (0, .ref (mg_ad X 0)), (1, .int x1), (2, .int x2), (3, .int x3)]) C dX12_tellFrom_10 7 hnL (by decide) rfl ?_
    refine mg_sub (lv2 := [(0, .ref (mg_ad X 0)), (1, .int x1), (2, .int x2), (3, .int x3), (4, .int 0), (5, .int 0)]) [2, 3, 4, 5, 1, 0] rfl ?_
    exact hF
def rm_firstIdle : Room := { frames := 1, cells := 0, slots := 0, locals := 21 }
theorem nd_firstIdle : yX12_firstIdle.cls = RX12 ∧ yX12_firstIdle.cls ≠ "java/lang/invoke/MethodHandle" ∧ yX12_firstIdle.cls ≠ "java/lang/invoke/VarHandle" ∧ (parseMethodDescriptor yX12_firstIdle.desc).map (fun d => d.parameters.length) = some 1 := by decide +kernel
theorem inm_firstIdle : ∀ w ∈ wsX120, w ∈ wsX12_firstIdle := fun _ h9 => List.mem_cons_of_mem _ (List.mem_append_right _ h9)
set_option maxHeartbeats 4000000 in
set_option maxRecDepth 100000 in
theorem met_firstIdle (x1 : Int32) : mg_MI yX12_firstIdle wsX12_firstIdle rm_firstIdle (fun ad => [.ref (ad 0), .int x1]) (fun Q h => wp_firstIdle Q x1 h) := by
  refine mg_startI (cc := cX12_firstIdle) (maxL := 3) (by decide) rfl rfl (fun ad => Nat.le_of_ble_eq_true rfl) (fun X Q h C hnL E hw => ?_)
  unfold wp_firstIdle at hw
  refine mg_sub (lv2 := [(0, .ref (mg_ad X 0)), (1, .int x1)]) [0, 1] rfl ?_
  refine mg_use (hw (fun (y2 : Int32) (h : mg_H) => mg_W X 2 [(0, .ref (mg_ad X 0)), (1, .int x1), (2, .int y2)] [] h) ?_) (fun hF => ?_)
  · intro y2 h hF
    refine mg_iload_n (pc := 2) C dX12_firstIdle_2 2 rfl ?_
    refine mg_ldcw (pc := 3) (v := 372736) C dX12_firstIdle_3 (List.mem_of_getElem? (i := 1) rfl) ?_
    refine mg_icmp_ge (pc := 6) 34 C dX12_firstIdle_6 (by decide) (fun hc => ?_) (fun hc => ?_)
    · have hF := hF.1 hc
      refine mg_iconst (pc := 34) (v := (-1)) C dX12_firstIdle_34 (by decide) ?_
      exact mg_retI (pc := 35) C E dX12_firstIdle_35 hF
    · have hF := hF.2 hc
      refine mg_aload_n (pc := 9) C dX12_firstIdle_9 0 rfl ?_
      refine mg_getr (pc := 10) C inm_firstIdle 46 (by decide) (by decide) dX12_firstIdle_10 (List.mem_of_getElem? (i := 2) rfl) ?_
      refine mg_iload_n (pc := 13) C dX12_firstIdle_13 2 rfl ?_
      obtain ⟨hi, hF⟩ := hF
      refine mg_iald (pc := 14) C (by decide) rfl hi dX12_firstIdle_14 ?_
      refine mg_iload_n (pc := 15) C dX12_firstIdle_15 1 rfl ?_
      refine mg_csI (pc := 16) C (fun ad => [.int (mg_i h 46 y2.toNatClampNeg), .int x1]) (met_has (mg_i h 46 y2.toNatClampNeg) x1) gX12_firstIdle_X12_has rfl ⟨rfl, rfl⟩ nd_has.2 ⟨Nat.le_of_ble_eq_true rfl, Nat.le_of_ble_eq_true rfl⟩ rfl rfl (Nat.le_of_ble_eq_true rfl) dX12_firstIdle_16 hF (fun r2 h1 hF => ?_)
      refine mg_if_eq (pc := 19) 28 C dX12_firstIdle_19 (by decide) (fun hc => ?_) (fun hc => ?_)
      · have hF := hF.1 hc
        obtain ⟨z3, ez3⟩ : ∃ y : Int32, y = y2 + 1 := ⟨_, rfl⟩
        have hF := hF z3 ez3
        refine mg_iinc (pc := 28) (v := z3) (lv2 := [(2, .int z3), (0, .ref (mg_ad X 0)), (1, .int x1)]) C dX12_firstIdle_28 2 rfl (by rw [ez3]; rfl) 3 hnL (by decide) rfl ?_
        refine mg_goto (pc := 31) 2 C dX12_firstIdle_31 (by decide) ?_
        refine mg_sub (lv2 := [(0, .ref (mg_ad X 0)), (1, .int x1), (2, .int z3)]) [1, 2, 0] rfl ?_
        exact hF
      · have hF := hF.2 hc
        refine mg_iload_n (pc := 22) C dX12_firstIdle_22 2 rfl ?_
        refine mg_sipush (pc := 23) (v := 4096) C dX12_firstIdle_23 (by decide) ?_
        refine mg_idiv (pc := 26) C dX12_firstIdle_26 (by decide) ?_
        exact mg_retI (pc := 27) C E dX12_firstIdle_27 hF
  · skip
    refine mg_iconst (pc := 0) (v := 0) C dX12_firstIdle_0 (by decide) ?_
    refine mg_istore_n (pc := 1) (lv2 := [(2, .int 0), (0, .ref (mg_ad X 0)), (1, .int x1)]) C dX12_firstIdle_1 3 hnL (by decide) rfl ?_
    refine mg_sub (lv2 := [(0, .ref (mg_ad X 0)), (1, .int x1), (2, .int 0)]) [1, 2, 0] rfl ?_
    exact hF
def rm_plan : Room := { frames := 4, cells := 0, slots := 0, locals := 101 }
theorem nd_plan : yX12_plan.cls = RX12 ∧ yX12_plan.cls ≠ "java/lang/invoke/MethodHandle" ∧ yX12_plan.cls ≠ "java/lang/invoke/VarHandle" ∧ (parseMethodDescriptor yX12_plan.desc).map (fun d => d.parameters.length) = some 3 := by decide +kernel
theorem inm_plan : ∀ w ∈ wsX120, w ∈ wsX12_plan := fun _ h9 => List.mem_cons_of_mem _ (List.mem_append_right _ h9)
set_option maxHeartbeats 4000000 in
set_option maxRecDepth 100000 in
theorem met_plan (x1 : Int32) (x2 : Int32) (x3 : Int32) : mg_MI yX12_plan wsX12_plan rm_plan (fun ad => [.ref (ad 0), .int x1, .int x2, .int x3]) (fun Q h => wp_plan Q x1 x2 x3 h) := by
  refine mg_startI (cc := cX12_plan) (maxL := 8) (by decide) rfl rfl (fun ad => Nat.le_of_ble_eq_true rfl) (fun X Q h C hnL E hw => ?_)
  unfold wp_plan at hw
  refine mg_sub (lv2 := [(0, .ref (mg_ad X 0)), (1, .int x1), (2, .int x2), (3, .int x3)]) [0, 1, 2, 3] rfl ?_
  refine mg_use (hw (fun (y4 : Int32) (h : mg_H) => mg_W X 38 [(0, .ref (mg_ad X 0)), (2, .int x2), (3, .int x3), (4, .int y4)] [] h) (fun (y4 : Int32) (y5 : Int32) (h : mg_H) => mg_W X 76 [(0, .ref (mg_ad X 0)), (2, .int x2), (3, .int x3), (4, .int y4), (5, .int y5)] [] h) (fun (y5 : Int32) (y6 : Int32) (y7 : Int32) (h : mg_H) => mg_W X 114 [(0, .ref (mg_ad X 0)), (2, .int x2), (3, .int x3), (5, .int y5), (6, .int y6), (7, .int y7)] [] h) ?_ ?_ ?_) (fun hF => ?_)
  · intro y4 h hF
    refine mg_iload (pc := 38) C dX12_plan_38 3 rfl ?_
    refine mg_ldcw (pc := 40) (v := 372736) C dX12_plan_40 (List.mem_of_getElem? (i := 2) rfl) ?_
    refine mg_icmp_ge (pc := 43) 60 C dX12_plan_43 (by decide) (fun hc => ?_) (fun hc => ?_)
    · have hF := hF.1 hc
      refine mg_aload_n (pc := 60) C dX12_plan_60 0 rfl ?_
      refine mg_getr (pc := 61) C inm_plan 46 (by decide) (by decide) dX12_plan_61 (List.mem_of_getElem? (i := 3) rfl) ?_
      refine mg_aload_n (pc := 64) C dX12_plan_64 0 rfl ?_
      refine mg_geti (pc := 65) C inm_plan 26 (by decide) rfl (by decide) dX12_plan_65 (List.mem_of_getElem? (i := 4) rfl) ?_
      refine mg_iconst (pc := 68) (v := 1) C dX12_plan_68 (by decide) ?_
      obtain ⟨hi, hF⟩ := hF
      refine mg_iast (pc := 69) C (by decide) rfl hi dX12_plan_69 (fun h10 eh10 => ?_)
      have hF := hF h10 eh10
      refine mg_iconst (pc := 70) (v := 0) C dX12_plan_70 (by decide) ?_
      refine mg_istore (pc := 71) (lv2 := [(4, .int 0), (0, .ref (mg_ad X 0)), (2, .int x2), (3, .int x3)]) C dX12_plan_71 8 hnL (by decide) rfl ?_
      refine mg_iconst (pc := 73) (v := 0) C dX12_plan_73 (by decide) ?_
      refine mg_istore (pc := 74) (lv2 := [(5, .int 0), (4, .int 0), (0, .ref (mg_ad X 0)), (2, .int x2), (3, .int x3)]) C dX12_plan_74 8 hnL (by decide) rfl ?_
      refine mg_sub (lv2 := [(0, .ref (mg_ad X 0)), (2, .int x2), (3, .int x3), (4, .int 0), (5, .int 0)]) [2, 3, 4, 1, 0] rfl ?_
      exact hF
    · have hF := hF.2 hc
      refine mg_aload_n (pc := 46) C dX12_plan_46 0 rfl ?_
      refine mg_getr (pc := 47) C inm_plan 46 (by decide) (by decide) dX12_plan_47 (List.mem_of_getElem? (i := 3) rfl) ?_
      refine mg_iload (pc := 50) C dX12_plan_50 3 rfl ?_
      refine mg_iconst (pc := 52) (v := 0) C dX12_plan_52 (by decide) ?_
      obtain ⟨hi, hF⟩ := hF
      refine mg_iast (pc := 53) C (by decide) rfl hi dX12_plan_53 (fun h11 eh11 => ?_)
      have hF := hF h11 eh11
      obtain ⟨z12, ez12⟩ : ∃ y : Int32, y = y4 + 1 := ⟨_, rfl⟩
      have hF := hF z12 ez12
      refine mg_iinc (pc := 54) (v := z12) (lv2 := [(4, .int z12), (0, .ref (mg_ad X 0)), (2, .int x2), (3, .int x3)]) C dX12_plan_54 3 rfl (by rw [ez12]; rfl) 8 hnL (by decide) rfl ?_
      refine mg_goto (pc := 57) 38 C dX12_plan_57 (by decide) ?_
      refine mg_sub (lv2 := [(0, .ref (mg_ad X 0)), (2, .int x2), (3, .int x3), (4, .int z12)]) [1, 2, 3, 0] rfl ?_
      exact hF
  · intro y4 y5 h hF
    refine mg_iload (pc := 76) C dX12_plan_76 4 rfl ?_
    refine mg_iload_n (pc := 78) C dX12_plan_78 2 rfl ?_
    refine mg_icmp_ge (pc := 79) 156 C dX12_plan_79 (by decide) (fun hc => ?_) (fun hc => ?_)
    · have hF := hF.1 hc
      refine mg_iload (pc := 156) C dX12_plan_156 3 rfl ?_
      exact mg_retI (pc := 158) C E dX12_plan_158 hF
    · have hF := hF.2 hc
      refine mg_iload (pc := 82) C dX12_plan_82 3 rfl ?_
      refine mg_iconst (pc := 84) (v := (-1)) C dX12_plan_84 (by decide) ?_
      refine mg_icmp_eq (pc := 85) 156 C dX12_plan_85 (by decide) (fun hc => ?_) (fun hc => ?_)
      · have hF := hF.1 hc
        refine mg_iload (pc := 156) C dX12_plan_156 3 rfl ?_
        exact mg_retI (pc := 158) C E dX12_plan_158 hF
      · have hF := hF.2 hc
        refine mg_aload_n (pc := 88) C dX12_plan_88 0 rfl ?_
        refine mg_getr (pc := 89) C inm_plan 9 (by decide) (by decide) dX12_plan_89 (List.mem_of_getElem? (i := 5) rfl) ?_
        refine mg_bipush (pc := 92) (v := 7) C dX12_plan_92 (by decide) ?_
        refine mg_iload_n (pc := 94) C dX12_plan_94 1 rfl ?_
        refine mg_imul (pc := 95) C dX12_plan_95 ?_
        refine mg_iconst (pc := 96) (v := 1) C dX12_plan_96 (by decide) ?_
        refine mg_iadd (pc := 97) C dX12_plan_97 ?_
        refine mg_iload (pc := 98) C dX12_plan_98 4 rfl ?_
        refine mg_iadd (pc := 100) C dX12_plan_100 ?_
        obtain ⟨hi, hF⟩ := hF
        refine mg_iald (pc := 101) C (by decide) rfl hi dX12_plan_101 ?_
        refine mg_topi (pc := 102) (fun z13 ez13 => ?_)
        have hF := hF z13 ez13
        refine mg_istore (pc := 102) (lv2 := [(6, .int z13), (0, .ref (mg_ad X 0)), (2, .int x2), (3, .int x3), (4, .int y4), (5, .int y5)]) C dX12_plan_102 8 hnL (by decide) rfl ?_
        refine mg_aload_n (pc := 104) C dX12_plan_104 1 rfl ?_
        refine mg_iload (pc := 105) C dX12_plan_105 5 rfl ?_
        refine mg_cvV (pc := 107) C (fun ad => [.int y5]) (met_keepIdle y5) gX12_plan_X12_keepIdle rfl ⟨rfl, rfl⟩ nd_keepIdle ⟨Nat.le_of_ble_eq_true rfl, Nat.le_of_ble_eq_true rfl⟩ rfl rfl (Nat.le_of_ble_eq_true rfl) dX12_plan_107 hF (fun h14 hF => ?_)
        refine mg_iload (pc := 110) C dX12_plan_110 4 rfl ?_
        refine mg_istore (pc := 112) (lv2 := [(7, .int y4), (6, .int z13), (0, .ref (mg_ad X 0)), (2, .int x2), (3, .int x3), (4, .int y4), (5, .int y5)]) C dX12_plan_112 8 hnL (by decide) rfl ?_
        refine mg_sub (lv2 := [(0, .ref (mg_ad X 0)), (2, .int x2), (3, .int x3), (5, .int y5), (6, .int z13), (7, .int y4)]) [2, 3, 4, 6, 1, 0] rfl ?_
        exact hF
  · intro y5 y6 y7 h hF
    refine mg_iload (pc := 114) C dX12_plan_114 5 rfl ?_
    refine mg_iload (pc := 116) C dX12_plan_116 4 rfl ?_
    refine mg_iadd (pc := 118) C dX12_plan_118 ?_
    refine mg_bipush (pc := 119) (v := 90) C dX12_plan_119 (by decide) ?_
    refine mg_icmp_gt (pc := 121) 140 C dX12_plan_121 (by decide) (fun hc => ?_) (fun hc => ?_)
    · have hF := hF.1 hc
      refine mg_aload_n (pc := 140) C dX12_plan_140 0 rfl ?_
      refine mg_iload (pc := 141) C dX12_plan_141 3 rfl ?_
      refine mg_iconst (pc := 143) (v := 1) C dX12_plan_143 (by decide) ?_
      refine mg_iadd (pc := 144) C dX12_plan_144 ?_
      refine mg_cvI (pc := 145) C (fun ad => [.int (y5 + 1)]) (met_firstIdle (y5 + 1)) gX12_plan_X12_firstIdle rfl ⟨rfl, rfl⟩ nd_firstIdle ⟨Nat.le_of_ble_eq_true rfl, Nat.le_of_ble_eq_true rfl⟩ rfl rfl (Nat.le_of_ble_eq_true rfl) dX12_plan_145 hF (fun r16 h15 hF => ?_)
      refine mg_istore (pc := 148) (lv2 := [(4, .int r16), (0, .ref (mg_ad X 0)), (2, .int x2), (3, .int x3), (5, .int y5), (6, .int y6), (7, .int y7)]) C dX12_plan_148 8 hnL (by decide) rfl ?_
      obtain ⟨z17, ez17⟩ : ∃ y : Int32, y = y5 + 1 := ⟨_, rfl⟩
      have hF := hF z17 ez17
      refine mg_iinc (pc := 150) (v := z17) (lv2 := [(5, .int z17), (4, .int r16), (0, .ref (mg_ad X 0)), (2, .int x2), (3, .int x3), (6, .int y6), (7, .int y7)]) C dX12_plan_150 4 rfl (by rw [ez17]; rfl) 8 hnL (by decide) rfl ?_
      refine mg_goto (pc := 153) 76 C dX12_plan_153 (by decide) ?_
      refine mg_sub (lv2 := [(0, .ref (mg_ad X 0)), (2, .int x2), (3, .int x3), (4, .int r16), (5, .int z17)]) [2, 3, 4, 1, 0] rfl ?_
      exact hF
    · have hF := hF.2 hc
      refine mg_aload_n (pc := 124) C dX12_plan_124 0 rfl ?_
      refine mg_iload (pc := 125) C dX12_plan_125 5 rfl ?_
      refine mg_iload (pc := 127) C dX12_plan_127 4 rfl ?_
      refine mg_iload (pc := 129) C dX12_plan_129 3 rfl ?_
      refine mg_cvV (pc := 131) C (fun ad => [.int y7, .int y6, .int y5]) (met_tellFrom y7 y6 y5) gX12_plan_X12_tellFrom rfl ⟨rfl, rfl⟩ nd_tellFrom ⟨Nat.le_of_ble_eq_true rfl, Nat.le_of_ble_eq_true rfl⟩ rfl rfl (Nat.le_of_ble_eq_true rfl) dX12_plan_131 hF (fun h18 hF => ?_)
      obtain ⟨z19, ez19⟩ : ∃ y : Int32, y = y7 + 1 := ⟨_, rfl⟩
      have hF := hF z19 ez19
      refine mg_iinc (pc := 134) (v := z19) (lv2 := [(7, .int z19), (0, .ref (mg_ad X 0)), (2, .int x2), (3, .int x3), (5, .int y5), (6, .int y6)]) C dX12_plan_134 5 rfl (by rw [ez19]; rfl) 8 hnL (by decide) rfl ?_
      refine mg_goto (pc := 137) 114 C dX12_plan_137 (by decide) ?_
      refine mg_sub (lv2 := [(0, .ref (mg_ad X 0)), (2, .int x2), (3, .int x3), (5, .int y5), (6, .int y6), (7, .int z19)]) [1, 2, 3, 4, 5, 0] rfl ?_
      exact hF
  · skip
    refine mg_aload_n (pc := 0) C dX12_plan_0 0 rfl ?_
    refine mg_iconst (pc := 1) (v := 0) C dX12_plan_1 (by decide) ?_
    refine mg_puti (pc := 2) C inm_plan 0 (by decide) rfl (by decide) dX12_plan_2 (List.mem_of_getElem? (i := 1) rfl) rfl (tyX12_ok 0 (by decide)) (fun h1 eh1 => ?_)
    have hF := hF h1 eh1
    refine mg_aload_n (pc := 5) C dX12_plan_5 0 rfl ?_
    refine mg_iload_n (pc := 6) C dX12_plan_6 2 rfl ?_
    refine mg_cvI (pc := 7) C (fun ad => [.int x2]) (met_hasOrder x2) gX12_plan_X12_hasOrder rfl ⟨rfl, rfl⟩ nd_hasOrder ⟨Nat.le_of_ble_eq_true rfl, Nat.le_of_ble_eq_true rfl⟩ rfl rfl (Nat.le_of_ble_eq_true rfl) dX12_plan_7 hF (fun r3 h2 hF => ?_)
    refine mg_if_eq (pc := 10) 33 C dX12_plan_10 (by decide) (fun hc => ?_) (fun hc => ?_)
    · have hF := hF.1 hc
      refine mg_iconst (pc := 33) (v := (-1)) C dX12_plan_33 (by decide) ?_
      exact mg_retI (pc := 34) C E dX12_plan_34 hF
    · have hF := hF.2 hc
      refine mg_iload_n (pc := 13) C dX12_plan_13 3 rfl ?_
      refine mg_iconst (pc := 14) (v := 0) C dX12_plan_14 (by decide) ?_
      refine mg_aload_n (pc := 15) C dX12_plan_15 0 rfl ?_
      refine mg_cvI (pc := 16) C (fun ad => []) (met_spans) gX12_plan_X12_spans rfl ⟨rfl, rfl⟩ nd_spans ⟨Nat.le_of_ble_eq_true rfl, Nat.le_of_ble_eq_true rfl⟩ rfl rfl (Nat.le_of_ble_eq_true rfl) dX12_plan_16 hF (fun r5 h4 hF => ?_)
      refine mg_csI (pc := 19) C (fun ad => [.int x3, .int 0, .int r5]) (met_in x3 0 r5) gX12_plan_X12_in rfl ⟨rfl, rfl⟩ nd_in.2 ⟨Nat.le_of_ble_eq_true rfl, Nat.le_of_ble_eq_true rfl⟩ rfl rfl (Nat.le_of_ble_eq_true rfl) dX12_plan_19 hF (fun r7 h6 hF => ?_)
      refine mg_if_eq (pc := 22) 33 C dX12_plan_22 (by decide) (fun hc => ?_) (fun hc => ?_)
      · have hF := hF.1 hc
        refine mg_iconst (pc := 33) (v := (-1)) C dX12_plan_33 (by decide) ?_
        exact mg_retI (pc := 34) C E dX12_plan_34 hF
      · have hF := hF.2 hc
        refine mg_aload_n (pc := 25) C dX12_plan_25 0 rfl ?_
        refine mg_iload_n (pc := 26) C dX12_plan_26 1 rfl ?_
        refine mg_cvI (pc := 27) C (fun ad => [.int x1]) (met_hand x1) gX12_plan_X12_hand rfl ⟨rfl, rfl⟩ nd_hand ⟨Nat.le_of_ble_eq_true rfl, Nat.le_of_ble_eq_true rfl⟩ rfl rfl (Nat.le_of_ble_eq_true rfl) dX12_plan_27 hF (fun r9 h8 hF => ?_)
        refine mg_if_ne (pc := 30) 35 C dX12_plan_30 (by decide) (fun hc => ?_) (fun hc => ?_)
        · have hF := hF.1 hc
          refine mg_iconst (pc := 35) (v := 0) C dX12_plan_35 (by decide) ?_
          refine mg_istore (pc := 36) (lv2 := [(4, .int 0), (0, .ref (mg_ad X 0)), (1, .int x1), (2, .int x2), (3, .int x3)]) C dX12_plan_36 8 hnL (by decide) rfl ?_
          refine mg_sub (lv2 := [(0, .ref (mg_ad X 0)), (2, .int x2), (3, .int x3), (4, .int 0)]) [1, 3, 4, 0] rfl ?_
          exact hF
        · have hF := hF.2 hc
          refine mg_iconst (pc := 33) (v := (-1)) C dX12_plan_33 (by decide) ?_
          exact mg_retI (pc := 34) C E dX12_plan_34 hF
