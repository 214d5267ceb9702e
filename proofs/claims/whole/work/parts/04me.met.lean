def rm_atOnce : Room := { frames := 4, cells := 0, slots := 0, locals := 96 }
theorem nd_atOnce : yX12_atOnce.cls = RX12 ∧ yX12_atOnce.cls ≠ "java/lang/invoke/MethodHandle" ∧ yX12_atOnce.cls ≠ "java/lang/invoke/VarHandle" ∧ (parseMethodDescriptor yX12_atOnce.desc).map (fun d => d.parameters.length) = some 0 := by decide +kernel
theorem inm_atOnce : ∀ w ∈ wsX120, w ∈ wsX12_atOnce := fun _ h9 => List.mem_cons_of_mem _ (List.mem_append_right _ h9)
set_option maxHeartbeats 4000000 in
set_option maxRecDepth 100000 in
theorem met_atOnce : mg_MI yX12_atOnce wsX12_atOnce rm_atOnce (fun ad => [.ref (ad 0)]) (fun Q h => wp_atOnce Q h) := by
  refine mg_startI (cc := cX12_atOnce) (maxL := 8) (by decide) rfl rfl (fun ad => Nat.le_of_ble_eq_true rfl) (fun X Q h C hnL E hw => ?_)
  unfold wp_atOnce at hw
  refine mg_sub (lv2 := [(0, .ref (mg_ad X 0))]) [0] rfl ?_
  refine mg_use (hw (fun (y1 : Int32) (y2 : Int32) (h : mg_H) => mg_W X 9 [(0, .ref (mg_ad X 0)), (1, .int y1), (2, .int y2)] [] h) (fun (y1 : Int32) (y2 : Int32) (y3 : Int32) (h : mg_H) => mg_W X 18 [(0, .ref (mg_ad X 0)), (1, .int y1), (2, .int y2), (3, .int y3)] [] h) (fun (y1 : Int32) (y2 : Int32) (h : mg_H) => mg_W X 182 [(0, .ref (mg_ad X 0)), (1, .int y1), (2, .int y2)] [] h) (fun (y1 : Int32) (y2 : Int32) (y3 : Int32) (y4 : Int32) (h : mg_H) => mg_W X 64 [(0, .ref (mg_ad X 0)), (1, .int y1), (2, .int y2), (3, .int y3), (4, .int y4)] [] h) (fun (y1 : Int32) (y2 : Int32) (y3 : Int32) (y4 : Int32) (s0 : Int32) (h : mg_H) => mg_W X 65 [(0, .ref (mg_ad X 0)), (1, .int y1), (2, .int y2), (3, .int y3), (4, .int y4)] [.int s0] h) (fun (y1 : Int32) (y2 : Int32) (y3 : Int32) (y4 : Int32) (y5 : Int32) (y6 : Int32) (h : mg_H) => mg_W X 70 [(0, .ref (mg_ad X 0)), (1, .int y1), (2, .int y2), (3, .int y3), (4, .int y4), (5, .int y5), (6, .int y6)] [] h) (fun (y2 : Int32) (y3 : Int32) (s0 : Int32) (h : mg_H) => mg_W X 173 [(0, .ref (mg_ad X 0)), (2, .int y2), (3, .int y3)] [.int s0] h) (fun (y2 : Int32) (y3 : Int32) (s0 : Int32) (s1 : Int32) (h : mg_H) => mg_W X 174 [(0, .ref (mg_ad X 0)), (2, .int y2), (3, .int y3)] [.int s0, .int s1] h) (fun (y1 : Int32) (y2 : Int32) (y3 : Int32) (y4 : Int32) (y6 : Int32) (h : mg_H) => mg_W X 132 [(0, .ref (mg_ad X 0)), (1, .int y1), (2, .int y2), (3, .int y3), (4, .int y4), (6, .int y6)] [] h) (fun (y1 : Int32) (y2 : Int32) (y3 : Int32) (y4 : Int32) (y6 : Int32) (s0 : Int32) (h : mg_H) => mg_W X 123 [(0, .ref (mg_ad X 0)), (1, .int y1), (2, .int y2), (3, .int y3), (4, .int y4), (6, .int y6)] [.int s0] h) (fun (y1 : Int32) (y2 : Int32) (y3 : Int32) (y4 : Int32) (y6 : Int32) (s0 : Int32) (h : mg_H) => mg_W X 133 [(0, .ref (mg_ad X 0)), (1, .int y1), (2, .int y2), (3, .int y3), (4, .int y4), (6, .int y6)] [.int s0] h) ?_ ?_ ?_ ?_ ?_ ?_ ?_ ?_ ?_ ?_ ?_) (fun hF => ?_)
  · intro y1 y2 h hF
    refine mg_iload_n (pc := 9) C dX12_atOnce_9 2 rfl ?_
    refine mg_ldcw (pc := 10) (v := 122880) C dX12_atOnce_10 (List.mem_of_getElem? (i := 1) rfl) ?_
    refine mg_icmp_ge (pc := 13) 188 C dX12_atOnce_13 (by decide) (fun hc => ?_) (fun hc => ?_)
    · have hF := hF.1 hc
      refine mg_iload_n (pc := 188) C dX12_atOnce_188 1 rfl ?_
      exact mg_retI (pc := 189) C E dX12_atOnce_189 hF
    · have hF := hF.2 hc
      refine mg_iconst (pc := 16) (v := 0) C dX12_atOnce_16 (by decide) ?_
      refine mg_istore_n (pc := 17) (lv2 := [(3, .int 0), (0, .ref (mg_ad X 0)), (1, .int y1), (2, .int y2)]) C dX12_atOnce_17 8 hnL (by decide) rfl ?_
      refine mg_sub (lv2 := [(0, .ref (mg_ad X 0)), (1, .int y1), (2, .int y2), (3, .int 0)]) [1, 2, 3, 0] rfl ?_
      exact hF
  · intro y1 y2 y3 h hF
    refine mg_iload_n (pc := 18) C dX12_atOnce_18 3 rfl ?_
    refine mg_aload_n (pc := 19) C dX12_atOnce_19 0 rfl ?_
    refine mg_geti (pc := 20) C inm_atOnce 25 (by decide) rfl (by decide) dX12_atOnce_20 (List.mem_of_getElem? (i := 2) rfl) ?_
    refine mg_icmp_gt (pc := 23) 182 C dX12_atOnce_23 (by decide) (fun hc => ?_) (fun hc => ?_)
    · have hF := hF.1 hc
      refine mg_sub (lv2 := [(0, .ref (mg_ad X 0)), (1, .int y1), (2, .int y2)]) [0, 1, 2] rfl ?_
      exact hF
    · have hF := hF.2 hc
      refine mg_aload_n (pc := 26) C dX12_atOnce_26 0 rfl ?_
      refine mg_getr (pc := 27) C inm_atOnce 40 (by decide) (by decide) dX12_atOnce_27 (List.mem_of_getElem? (i := 3) rfl) ?_
      refine mg_iload_n (pc := 30) C dX12_atOnce_30 2 rfl ?_
      obtain ⟨hi, hF⟩ := hF
      refine mg_iald (pc := 31) C (by decide) rfl hi dX12_atOnce_31 ?_
      refine mg_iconst (pc := 32) (v := (-1)) C dX12_atOnce_32 (by decide) ?_
      refine mg_icmp_eq (pc := 33) 182 C dX12_atOnce_33 (by decide) (fun hc => ?_) (fun hc => ?_)
      · have hF := hF.1 hc
        refine mg_sub (lv2 := [(0, .ref (mg_ad X 0)), (1, .int y1), (2, .int y2)]) [0, 1, 2] rfl ?_
        exact hF
      · have hF := hF.2 hc
        refine mg_aload_n (pc := 36) C dX12_atOnce_36 0 rfl ?_
        refine mg_iload_n (pc := 37) C dX12_atOnce_37 2 rfl ?_
        refine mg_sipush (pc := 38) (v := 4096) C dX12_atOnce_38 (by decide) ?_
        refine mg_irem (pc := 41) C dX12_atOnce_41 (by decide) ?_
        refine mg_iload_n (pc := 42) C dX12_atOnce_42 3 rfl ?_
        refine mg_cvI (pc := 43) C (fun ad => [.int (y2 - y2 / 4096 * 4096), .int y3]) (met_next (y2 - y2 / 4096 * 4096) y3) gX12_atOnce_X12_next rfl ⟨rfl, rfl⟩ nd_next ⟨Nat.le_of_ble_eq_true rfl, Nat.le_of_ble_eq_true rfl⟩ rfl rfl (Nat.le_of_ble_eq_true rfl) dX12_atOnce_43 hF (fun r3 h2 hF => ?_)
        refine mg_istore (pc := 46) (lv2 := [(4, .int r3), (0, .ref (mg_ad X 0)), (1, .int y1), (2, .int y2), (3, .int y3)]) C dX12_atOnce_46 8 hnL (by decide) rfl ?_
        refine mg_iload (pc := 48) C dX12_atOnce_48 0 rfl ?_
        refine mg_if_le (pc := 50) 64 C dX12_atOnce_50 (by decide) (fun hc => ?_) (fun hc => ?_)
        · have hF := hF.1 hc
          refine mg_sub (lv2 := [(0, .ref (mg_ad X 0)), (1, .int y1), (2, .int y2), (3, .int y3), (4, .int r3)]) [1, 2, 3, 4, 0] rfl ?_
          exact hF
        · have hF := hF.2 hc
          refine mg_aload_n (pc := 53) C dX12_atOnce_53 1 rfl ?_
          refine mg_geti (pc := 54) C inm_atOnce 24 (by decide) rfl (by decide) dX12_atOnce_54 (List.mem_of_getElem? (i := 4) rfl) ?_
          refine mg_if_le (pc := 57) 64 C dX12_atOnce_57 (by decide) (fun hc => ?_) (fun hc => ?_)
          · have hF := hF.1 hc
            refine mg_sub (lv2 := [(0, .ref (mg_ad X 0)), (1, .int y1), (2, .int y2), (3, .int y3), (4, .int r3)]) [1, 2, 3, 4, 0] rfl ?_
            exact hF
          · have hF := hF.2 hc
            refine mg_iconst (pc := 60) (v := 1) C dX12_atOnce_60 (by decide) ?_
            refine mg_goto (pc := 61) 65 C dX12_atOnce_61 (by decide) ?_
            refine mg_sub (lv2 := [(0, .ref (mg_ad X 0)), (1, .int y1), (2, .int y2), (3, .int y3), (4, .int r3)]) [1, 2, 3, 4, 0] rfl ?_
            exact hF
  · intro y1 y2 h hF
    obtain ⟨z4, ez4⟩ : ∃ y : Int32, y = y2 + 1 := ⟨_, rfl⟩
    have hF := hF z4 ez4
    refine mg_iinc (pc := 182) (v := z4) (lv2 := [(2, .int z4), (0, .ref (mg_ad X 0)), (1, .int y1)]) C dX12_atOnce_182 2 rfl (by rw [ez4]; rfl) 8 hnL (by decide) rfl ?_
    refine mg_goto (pc := 185) 9 C dX12_atOnce_185 (by decide) ?_
    refine mg_sub (lv2 := [(0, .ref (mg_ad X 0)), (1, .int y1), (2, .int z4)]) [1, 2, 0] rfl ?_
    exact hF
  · intro y1 y2 y3 y4 h hF
    refine mg_iconst (pc := 64) (v := 0) C dX12_atOnce_64 (by decide) ?_
    exact hF
  · intro y1 y2 y3 y4 s0 h hF
    refine mg_istore (pc := 65) (lv2 := [(5, .int s0), (0, .ref (mg_ad X 0)), (1, .int y1), (2, .int y2), (3, .int y3), (4, .int y4)]) C dX12_atOnce_65 8 hnL (by decide) rfl ?_
    refine mg_iconst (pc := 67) (v := 0) C dX12_atOnce_67 (by decide) ?_
    refine mg_istore (pc := 68) (lv2 := [(6, .int 0), (5, .int s0), (0, .ref (mg_ad X 0)), (1, .int y1), (2, .int y2), (3, .int y3), (4, .int y4)]) C dX12_atOnce_68 8 hnL (by decide) rfl ?_
    refine mg_sub (lv2 := [(0, .ref (mg_ad X 0)), (1, .int y1), (2, .int y2), (3, .int y3), (4, .int y4), (5, .int s0), (6, .int 0)]) [2, 3, 4, 5, 6, 1, 0] rfl ?_
    exact hF
  · intro y1 y2 y3 y4 y5 y6 h hF
    refine mg_iload (pc := 70) C dX12_atOnce_70 6 rfl ?_
    refine mg_aload_n (pc := 72) C dX12_atOnce_72 0 rfl ?_
    refine mg_geti (pc := 73) C inm_atOnce 24 (by decide) rfl (by decide) dX12_atOnce_73 (List.mem_of_getElem? (i := 4) rfl) ?_
    refine mg_icmp_ge (pc := 76) 141 C dX12_atOnce_76 (by decide) (fun hc => ?_) (fun hc => ?_)
    · have hF := hF.1 hc
      refine mg_iload_n (pc := 141) C dX12_atOnce_141 1 rfl ?_
      refine mg_iload (pc := 142) C dX12_atOnce_142 5 rfl ?_
      refine mg_if_eq (pc := 144) 173 C dX12_atOnce_144 (by decide) (fun hc => ?_) (fun hc => ?_)
      · have hF := hF.1 hc
        refine mg_sub (lv2 := [(0, .ref (mg_ad X 0)), (2, .int y2), (3, .int y3)]) [0, 2, 3] rfl ?_
        exact hF
      · have hF := hF.2 hc
        refine mg_iload_n (pc := 147) C dX12_atOnce_147 2 rfl ?_
        refine mg_sipush (pc := 148) (v := 4096) C dX12_atOnce_148 (by decide) ?_
        refine mg_idiv (pc := 151) C dX12_atOnce_151 (by decide) ?_
        refine mg_iload (pc := 152) C dX12_atOnce_152 4 rfl ?_
        refine mg_iadd (pc := 154) C dX12_atOnce_154 ?_
        refine mg_bipush (pc := 155) (v := 30) C dX12_atOnce_155 (by decide) ?_
        refine mg_icmp_gt (pc := 157) 173 C dX12_atOnce_157 (by decide) (fun hc => ?_) (fun hc => ?_)
        · have hF := hF.1 hc
          refine mg_sub (lv2 := [(0, .ref (mg_ad X 0)), (2, .int y2), (3, .int y3)]) [0, 2, 3] rfl ?_
          exact hF
        · have hF := hF.2 hc
          refine mg_iconst (pc := 160) (v := 1) C dX12_atOnce_160 (by decide) ?_
          refine mg_iload_n (pc := 161) C dX12_atOnce_161 2 rfl ?_
          refine mg_sipush (pc := 162) (v := 4096) C dX12_atOnce_162 (by decide) ?_
          refine mg_idiv (pc := 165) C dX12_atOnce_165 (by decide) ?_
          refine mg_iload (pc := 166) C dX12_atOnce_166 4 rfl ?_
          refine mg_iadd (pc := 168) C dX12_atOnce_168 ?_
          refine mg_ishl (pc := 169) C dX12_atOnce_169 ?_
          refine mg_goto (pc := 170) 174 C dX12_atOnce_170 (by decide) ?_
          refine mg_sub (lv2 := [(0, .ref (mg_ad X 0)), (2, .int y2), (3, .int y3)]) [0, 2, 3] rfl ?_
          exact hF
    · have hF := hF.2 hc
      refine mg_iload_n (pc := 79) C dX12_atOnce_79 2 rfl ?_
      refine mg_sipush (pc := 80) (v := 4096) C dX12_atOnce_80 (by decide) ?_
      refine mg_irem (pc := 83) C dX12_atOnce_83 (by decide) ?_
      refine mg_iconst (pc := 84) (v := 3) C dX12_atOnce_84 (by decide) ?_
      refine mg_iload (pc := 85) C dX12_atOnce_85 6 rfl ?_
      refine mg_imul (pc := 87) C dX12_atOnce_87 ?_
      refine mg_ishr (pc := 88) C dX12_atOnce_88 ?_
      refine mg_bipush (pc := 89) (v := 7) C dX12_atOnce_89 (by decide) ?_
      refine mg_iand (pc := 91) C dX12_atOnce_91 ?_
      refine mg_topi (pc := 92) (fun z5 ez5 => ?_)
      have hF := hF z5 ez5
      refine mg_istore (pc := 92) (lv2 := [(7, .int z5), (0, .ref (mg_ad X 0)), (1, .int y1), (2, .int y2), (3, .int y3), (4, .int y4), (5, .int y5), (6, .int y6)]) C dX12_atOnce_92 8 hnL (by decide) rfl ?_
      refine mg_iload (pc := 94) C dX12_atOnce_94 6 rfl ?_
      refine mg_if_eq (pc := 96) 132 C dX12_atOnce_96 (by decide) (fun hc => ?_) (fun hc => ?_)
      · have hF := hF.1 hc
        refine mg_sub (lv2 := [(0, .ref (mg_ad X 0)), (1, .int y1), (2, .int y2), (3, .int y3), (4, .int y4), (6, .int y6)]) [1, 2, 3, 4, 5, 7] rfl ?_
        exact hF
      · have hF := hF.2 hc
        refine mg_iload_n (pc := 99) C dX12_atOnce_99 4 rfl ?_
        refine mg_iload (pc := 100) C dX12_atOnce_100 7 rfl ?_
        refine mg_csI (pc := 102) C (fun ad => [.int y3, .int y6]) (met_has y3 y6) gX12_atOnce_X12_has rfl ⟨rfl, rfl⟩ nd_has.2 ⟨Nat.le_of_ble_eq_true rfl, Nat.le_of_ble_eq_true rfl⟩ rfl rfl (Nat.le_of_ble_eq_true rfl) dX12_atOnce_102 hF (fun r7 h6 hF => ?_)
        refine mg_if_eq (pc := 105) 121 C dX12_atOnce_105 (by decide) (fun hc => ?_) (fun hc => ?_)
        · have hF := hF.1 hc
          refine mg_iload (pc := 121) C dX12_atOnce_121 0 rfl ?_
          refine mg_sub (lv2 := [(0, .ref (mg_ad X 0)), (1, .int y1), (2, .int y2), (3, .int y3), (4, .int y4), (6, .int y6)]) [1, 2, 3, 4, 5, 7] rfl ?_
          exact hF
        · have hF := hF.2 hc
          refine mg_aload_n (pc := 108) C dX12_atOnce_108 1 rfl ?_
          refine mg_getr (pc := 109) C inm_atOnce 27 (by decide) (by decide) dX12_atOnce_109 (List.mem_of_getElem? (i := 5) rfl) ?_
          refine mg_iload (pc := 112) C dX12_atOnce_112 7 rfl ?_
          obtain ⟨hi, hF⟩ := hF
          refine mg_iald (pc := 114) C (by decide) rfl hi dX12_atOnce_114 ?_
          refine mg_iload (pc := 115) C dX12_atOnce_115 0 rfl ?_
          refine mg_isub (pc := 117) C dX12_atOnce_117 ?_
          refine mg_goto (pc := 118) 123 C dX12_atOnce_118 (by decide) ?_
          refine mg_sub (lv2 := [(0, .ref (mg_ad X 0)), (1, .int y1), (2, .int y2), (3, .int y3), (4, .int y4), (6, .int y6)]) [1, 2, 3, 4, 5, 7] rfl ?_
          exact hF
  · intro y2 y3 s0 h hF
    refine mg_iconst (pc := 173) (v := 0) C dX12_atOnce_173 (by decide) ?_
    exact hF
  · intro y2 y3 s0 s1 h hF
    refine mg_ior (pc := 174) C dX12_atOnce_174 ?_
    refine mg_topi (pc := 175) (fun z8 ez8 => ?_)
    have hF := hF z8 ez8
    refine mg_istore_n (pc := 175) (lv2 := [(1, .int z8), (0, .ref (mg_ad X 0)), (2, .int y2), (3, .int y3)]) C dX12_atOnce_175 8 hnL (by decide) rfl ?_
    obtain ⟨z9, ez9⟩ : ∃ y : Int32, y = y3 + 1 := ⟨_, rfl⟩
    have hF := hF z9 ez9
    refine mg_iinc (pc := 176) (v := z9) (lv2 := [(3, .int z9), (1, .int z8), (0, .ref (mg_ad X 0)), (2, .int y2)]) C dX12_atOnce_176 3 rfl (by rw [ez9]; rfl) 8 hnL (by decide) rfl ?_
    refine mg_goto (pc := 179) 18 C dX12_atOnce_179 (by decide) ?_
    refine mg_sub (lv2 := [(0, .ref (mg_ad X 0)), (1, .int z8), (2, .int y2), (3, .int z9)]) [2, 1, 3, 0] rfl ?_
    exact hF
  · intro y1 y2 y3 y4 y6 h hF
    refine mg_iconst (pc := 132) (v := 0) C dX12_atOnce_132 (by decide) ?_
    exact hF
  · intro y1 y2 y3 y4 y6 s0 h hF
    refine mg_iload (pc := 123) C dX12_atOnce_123 4 rfl ?_
    refine mg_icmp_ne (pc := 125) 132 C dX12_atOnce_125 (by decide) (fun hc => ?_) (fun hc => ?_)
    · have hF := hF.1 hc
      exact hF
    · have hF := hF.2 hc
      refine mg_iconst (pc := 128) (v := 1) C dX12_atOnce_128 (by decide) ?_
      refine mg_goto (pc := 129) 133 C dX12_atOnce_129 (by decide) ?_
      exact hF
  · intro y1 y2 y3 y4 y6 s0 h hF
    refine mg_istore (pc := 133) (lv2 := [(5, .int s0), (0, .ref (mg_ad X 0)), (1, .int y1), (2, .int y2), (3, .int y3), (4, .int y4), (6, .int y6)]) C dX12_atOnce_133 8 hnL (by decide) rfl ?_
    obtain ⟨z10, ez10⟩ : ∃ y : Int32, y = y6 + 1 := ⟨_, rfl⟩
    have hF := hF z10 ez10
    refine mg_iinc (pc := 135) (v := z10) (lv2 := [(6, .int z10), (5, .int s0), (0, .ref (mg_ad X 0)), (1, .int y1), (2, .int y2), (3, .int y3), (4, .int y4)]) C dX12_atOnce_135 6 rfl (by rw [ez10]; rfl) 8 hnL (by decide) rfl ?_
    refine mg_goto (pc := 138) 70 C dX12_atOnce_138 (by decide) ?_
    refine mg_sub (lv2 := [(0, .ref (mg_ad X 0)), (1, .int y1), (2, .int y2), (3, .int y3), (4, .int y4), (5, .int s0), (6, .int z10)]) [2, 3, 4, 5, 6, 1, 0] rfl ?_
    exact hF
  · skip
    refine mg_aload_n (pc := 0) C dX12_atOnce_0 0 rfl ?_
    refine mg_iconst (pc := 1) (v := 0) C dX12_atOnce_1 (by decide) ?_
    refine mg_cvV (pc := 2) C (fun ad => [.int 0]) (met_layOut 0) gX12_atOnce_X12_layOut rfl ⟨rfl, rfl⟩ nd_layOut ⟨Nat.le_of_ble_eq_true rfl, Nat.le_of_ble_eq_true rfl⟩ rfl rfl (Nat.le_of_ble_eq_true rfl) dX12_atOnce_2 hF (fun h1 hF => ?_)
    refine mg_iconst (pc := 5) (v := 0) C dX12_atOnce_5 (by decide) ?_
    refine mg_istore_n (pc := 6) (lv2 := [(1, .int 0), (0, .ref (mg_ad X 0))]) C dX12_atOnce_6 8 hnL (by decide) rfl ?_
    refine mg_iconst (pc := 7) (v := 0) C dX12_atOnce_7 (by decide) ?_
    refine mg_istore_n (pc := 8) (lv2 := [(2, .int 0), (1, .int 0), (0, .ref (mg_ad X 0))]) C dX12_atOnce_8 8 hnL (by decide) rfl ?_
    refine mg_sub (lv2 := [(0, .ref (mg_ad X 0)), (1, .int 0), (2, .int 0)]) [2, 1, 0] rfl ?_
    exact hF
def rm_wheelBy : Room := { frames := 2, cells := 0, slots := 0, locals := 47 }
theorem nd_wheelBy : yX12_wheelBy.cls = RX12 ∧ yX12_wheelBy.cls ≠ "java/lang/invoke/MethodHandle" ∧ yX12_wheelBy.cls ≠ "java/lang/invoke/VarHandle" ∧ (parseMethodDescriptor yX12_wheelBy.desc).map (fun d => d.parameters.length) = some 1 := by decide +kernel
theorem inm_wheelBy : ∀ w ∈ wsX120, w ∈ wsX12_wheelBy := fun _ h9 => List.mem_cons_of_mem _ (List.mem_append_right _ h9)
set_option maxHeartbeats 4000000 in
set_option maxRecDepth 100000 in
theorem met_wheelBy (x1 : Int32) : mg_MI yX12_wheelBy wsX12_wheelBy rm_wheelBy (fun ad => [.ref (ad 0), .int x1]) (fun Q h => wp_wheelBy Q x1 h) := by
  refine mg_startI (cc := cX12_wheelBy) (maxL := 6) (by decide) rfl rfl (fun ad => Nat.le_of_ble_eq_true rfl) (fun X Q h C hnL E hw => ?_)
  unfold wp_wheelBy at hw
  refine mg_sub (lv2 := [(0, .ref (mg_ad X 0)), (1, .int x1)]) [0, 1] rfl ?_
  refine mg_use (hw (fun (y2 : Int32) (h : mg_H) => mg_W X 2 [(0, .ref (mg_ad X 0)), (1, .int x1), (2, .int y2)] [] h) (fun (y2 : Int32) (y3 : Int32) (y4 : Int32) (h : mg_H) => mg_W X 32 [(0, .ref (mg_ad X 0)), (1, .int x1), (2, .int y2), (3, .int y3), (4, .int y4)] [] h) ?_ ?_) (fun hF => ?_)
  · intro y2 h hF
    refine mg_iload_n (pc := 2) C dX12_wheelBy_2 2 rfl ?_
    refine mg_sipush (pc := 3) (v := 4096) C dX12_wheelBy_3 (by decide) ?_
    refine mg_icmp_ge (pc := 6) 22 C dX12_wheelBy_6 (by decide) (fun hc => ?_) (fun hc => ?_)
    · have hF := hF.1 hc
      refine mg_iconst (pc := 22) (v := 0) C dX12_wheelBy_22 (by decide) ?_
      refine mg_istore_n (pc := 23) (lv2 := [(2, .int 0), (0, .ref (mg_ad X 0)), (1, .int x1)]) C dX12_wheelBy_23 6 hnL (by decide) rfl ?_
      refine mg_aload_n (pc := 24) C dX12_wheelBy_24 1 rfl ?_
      refine mg_geti (pc := 25) C inm_wheelBy 26 (by decide) rfl (by decide) dX12_wheelBy_25 (List.mem_of_getElem? (i := 2) rfl) ?_
      refine mg_topi (pc := 28) (fun z1 ez1 => ?_)
      have hF := hF z1 ez1
      refine mg_istore_n (pc := 28) (lv2 := [(3, .int z1), (2, .int 0), (0, .ref (mg_ad X 0)), (1, .int x1)]) C dX12_wheelBy_28 6 hnL (by decide) rfl ?_
      refine mg_iconst (pc := 29) (v := 0) C dX12_wheelBy_29 (by decide) ?_
      refine mg_istore (pc := 30) (lv2 := [(4, .int 0), (3, .int z1), (2, .int 0), (0, .ref (mg_ad X 0)), (1, .int x1)]) C dX12_wheelBy_30 6 hnL (by decide) rfl ?_
      refine mg_sub (lv2 := [(0, .ref (mg_ad X 0)), (1, .int x1), (2, .int 0), (3, .int z1), (4, .int 0)]) [3, 4, 2, 1, 0] rfl ?_
      exact hF
    · have hF := hF.2 hc
      refine mg_aload_n (pc := 9) C dX12_wheelBy_9 0 rfl ?_
      refine mg_getr (pc := 10) C inm_wheelBy 47 (by decide) (by decide) dX12_wheelBy_10 (List.mem_of_getElem? (i := 1) rfl) ?_
      refine mg_iload_n (pc := 13) C dX12_wheelBy_13 2 rfl ?_
      refine mg_iconst (pc := 14) (v := (-1)) C dX12_wheelBy_14 (by decide) ?_
      obtain ⟨hi, hF⟩ := hF
      refine mg_iast (pc := 15) C (by decide) rfl hi dX12_wheelBy_15 (fun h2 eh2 => ?_)
      have hF := hF h2 eh2
      obtain ⟨z3, ez3⟩ : ∃ y : Int32, y = y2 + 1 := ⟨_, rfl⟩
      have hF := hF z3 ez3
      refine mg_iinc (pc := 16) (v := z3) (lv2 := [(2, .int z3), (0, .ref (mg_ad X 0)), (1, .int x1)]) C dX12_wheelBy_16 2 rfl (by rw [ez3]; rfl) 6 hnL (by decide) rfl ?_
      refine mg_goto (pc := 19) 2 C dX12_wheelBy_19 (by decide) ?_
      refine mg_sub (lv2 := [(0, .ref (mg_ad X 0)), (1, .int x1), (2, .int z3)]) [1, 2, 0] rfl ?_
      exact hF
  · intro y2 y3 y4 h hF
    refine mg_aload_n (pc := 32) C dX12_wheelBy_32 0 rfl ?_
    refine mg_getr (pc := 33) C inm_wheelBy 47 (by decide) (by decide) dX12_wheelBy_33 (List.mem_of_getElem? (i := 1) rfl) ?_
    refine mg_iload_n (pc := 36) C dX12_wheelBy_36 3 rfl ?_
    obtain ⟨hi, hF⟩ := hF
    refine mg_iald (pc := 37) C (by decide) rfl hi dX12_wheelBy_37 ?_
    refine mg_iconst (pc := 38) (v := (-1)) C dX12_wheelBy_38 (by decide) ?_
    refine mg_icmp_ne (pc := 39) 93 C dX12_wheelBy_39 (by decide) (fun hc => ?_) (fun hc => ?_)
    · have hF := hF.1 hc
      refine mg_aload_n (pc := 93) C dX12_wheelBy_93 0 rfl ?_
      refine mg_getr (pc := 94) C inm_wheelBy 47 (by decide) (by decide) dX12_wheelBy_94 (List.mem_of_getElem? (i := 1) rfl) ?_
      refine mg_iload_n (pc := 97) C dX12_wheelBy_97 3 rfl ?_
      obtain ⟨hi, hF⟩ := hF
      refine mg_iald (pc := 98) C (by decide) rfl hi dX12_wheelBy_98 ?_
      refine mg_topi (pc := 99) (fun z4 ez4 => ?_)
      have hF := hF z4 ez4
      refine mg_istore (pc := 99) (lv2 := [(5, .int z4), (0, .ref (mg_ad X 0)), (1, .int x1), (2, .int y2), (3, .int y3), (4, .int y4)]) C dX12_wheelBy_99 6 hnL (by decide) rfl ?_
      refine mg_iload_n (pc := 101) C dX12_wheelBy_101 2 rfl ?_
      refine mg_iconst (pc := 102) (v := 1) C dX12_wheelBy_102 (by decide) ?_
      refine mg_icmp_ne (pc := 103) 111 C dX12_wheelBy_103 (by decide) (fun hc => ?_) (fun hc => ?_)
      · have hF := hF.1 hc
        refine mg_iload_n (pc := 111) C dX12_wheelBy_111 2 rfl ?_
        refine mg_iconst (pc := 112) (v := 2) C dX12_wheelBy_112 (by decide) ?_
        refine mg_icmp_ne (pc := 113) 123 C dX12_wheelBy_113 (by decide) (fun hc => ?_) (fun hc => ?_)
        · have hF := hF.1 hc
          refine mg_iload (pc := 123) C dX12_wheelBy_123 5 rfl ?_
          refine mg_aload_n (pc := 125) C dX12_wheelBy_125 1 rfl ?_
          refine mg_getr (pc := 126) C inm_wheelBy 48 (by decide) (by decide) dX12_wheelBy_126 (List.mem_of_getElem? (i := 3) rfl) ?_
          refine mg_iload (pc := 129) C dX12_wheelBy_129 0 rfl ?_
          obtain ⟨hi, hF⟩ := hF
          refine mg_iald (pc := 131) C (by decide) rfl hi dX12_wheelBy_131 ?_
          refine mg_isub (pc := 132) C dX12_wheelBy_132 ?_
          exact mg_retI (pc := 133) C E dX12_wheelBy_133 hF
        · have hF := hF.2 hc
          refine mg_iload_n (pc := 116) C dX12_wheelBy_116 3 rfl ?_
          refine mg_iload (pc := 117) C dX12_wheelBy_117 0 rfl ?_
          refine mg_isub (pc := 119) C dX12_wheelBy_119 ?_
          refine mg_goto (pc := 120) 133 C dX12_wheelBy_120 (by decide) ?_
          exact mg_retI (pc := 133) C E dX12_wheelBy_133 hF
      · have hF := hF.2 hc
        refine mg_iload (pc := 106) C dX12_wheelBy_106 0 rfl ?_
        refine mg_goto (pc := 108) 133 C dX12_wheelBy_108 (by decide) ?_
        exact mg_retI (pc := 133) C E dX12_wheelBy_133 hF
    · have hF := hF.2 hc
      refine mg_aload_n (pc := 42) C dX12_wheelBy_42 0 rfl ?_
      refine mg_getr (pc := 43) C inm_wheelBy 47 (by decide) (by decide) dX12_wheelBy_43 (List.mem_of_getElem? (i := 1) rfl) ?_
      refine mg_iload_n (pc := 46) C dX12_wheelBy_46 3 rfl ?_
      refine mg_iload_n (pc := 47) C dX12_wheelBy_47 2 rfl ?_
      obtain ⟨hi, hF⟩ := hF
      refine mg_iast (pc := 48) C (by decide) rfl hi dX12_wheelBy_48 (fun h5 eh5 => ?_)
      have hF := hF h5 eh5
      refine mg_aload_n (pc := 49) C dX12_wheelBy_49 0 rfl ?_
      refine mg_getr (pc := 50) C inm_wheelBy 48 (by decide) (by decide) dX12_wheelBy_50 (List.mem_of_getElem? (i := 3) rfl) ?_
      refine mg_iload_n (pc := 53) C dX12_wheelBy_53 2 rfl ?_
      refine mg_iload (pc := 54) C dX12_wheelBy_54 4 rfl ?_
      obtain ⟨hi, hF⟩ := hF
      refine mg_iast (pc := 56) C (by decide) rfl hi dX12_wheelBy_56 (fun h6 eh6 => ?_)
      have hF := hF h6 eh6
      obtain ⟨z7, ez7⟩ : ∃ y : Int32, y = y2 + 1 := ⟨_, rfl⟩
      have hF := hF z7 ez7
      refine mg_iinc (pc := 57) (v := z7) (lv2 := [(2, .int z7), (0, .ref (mg_ad X 0)), (1, .int x1), (3, .int y3), (4, .int y4)]) C dX12_wheelBy_57 2 rfl (by rw [ez7]; rfl) 6 hnL (by decide) rfl ?_
      refine mg_aload_n (pc := 60) C dX12_wheelBy_60 1 rfl ?_
      refine mg_iload_n (pc := 61) C dX12_wheelBy_61 3 rfl ?_
      refine mg_aload_n (pc := 62) C dX12_wheelBy_62 1 rfl ?_
      refine mg_geti (pc := 63) C inm_wheelBy 25 (by decide) rfl (by decide) dX12_wheelBy_63 (List.mem_of_getElem? (i := 4) rfl) ?_
      refine mg_cvI (pc := 66) C (fun ad => [.int y3, .int (mg_i h6 0 25)]) (met_next y3 (mg_i h6 0 25)) gX12_wheelBy_X12_next rfl ⟨rfl, rfl⟩ nd_next ⟨Nat.le_of_ble_eq_true rfl, Nat.le_of_ble_eq_true rfl⟩ rfl rfl (Nat.le_of_ble_eq_true rfl) dX12_wheelBy_66 hF (fun r9 h8 hF => ?_)
      refine mg_istore (pc := 69) (lv2 := [(5, .int r9), (2, .int z7), (0, .ref (mg_ad X 0)), (1, .int x1), (3, .int y3), (4, .int y4)]) C dX12_wheelBy_69 6 hnL (by decide) rfl ?_
      refine mg_iload (pc := 71) C dX12_wheelBy_71 0 rfl ?_
      refine mg_if_ne (pc := 73) 78 C dX12_wheelBy_73 (by decide) (fun hc => ?_) (fun hc => ?_)
      · have hF := hF.1 hc
        refine mg_iload (pc := 78) C dX12_wheelBy_78 5 rfl ?_
        refine mg_iload (pc := 80) C dX12_wheelBy_80 0 rfl ?_
        refine mg_iadd (pc := 82) C dX12_wheelBy_82 ?_
        refine mg_topi (pc := 83) (fun z10 ez10 => ?_)
        have hF := hF z10 ez10
        refine mg_istore (pc := 83) (lv2 := [(4, .int z10), (5, .int r9), (2, .int z7), (0, .ref (mg_ad X 0)), (1, .int x1), (3, .int y3)]) C dX12_wheelBy_83 6 hnL (by decide) rfl ?_
        refine mg_aload_n (pc := 85) C dX12_wheelBy_85 3 rfl ?_
        refine mg_geti (pc := 86) C inm_wheelBy 39 (by decide) rfl (by decide) dX12_wheelBy_86 (List.mem_of_getElem? (i := 5) rfl) ?_
        refine mg_topi (pc := 89) (fun z11 ez11 => ?_)
        have hF := hF z11 ez11
        refine mg_istore_n (pc := 89) (lv2 := [(3, .int z11), (4, .int z10), (5, .int r9), (2, .int z7), (0, .ref (mg_ad X 0)), (1, .int x1)]) C dX12_wheelBy_89 6 hnL (by decide) rfl ?_
        refine mg_goto (pc := 90) 32 C dX12_wheelBy_90 (by decide) ?_
        refine mg_sub (lv2 := [(0, .ref (mg_ad X 0)), (1, .int x1), (2, .int z7), (3, .int z11), (4, .int z10)]) [4, 5, 3, 0, 1] rfl ?_
        exact hF
      · have hF := hF.2 hc
        refine mg_iconst (pc := 76) (v := (-1)) C dX12_wheelBy_76 (by decide) ?_
        exact mg_retI (pc := 77) C E dX12_wheelBy_77 hF
  · skip
    refine mg_iconst (pc := 0) (v := 0) C dX12_wheelBy_0 (by decide) ?_
    refine mg_istore_n (pc := 1) (lv2 := [(2, .int 0), (0, .ref (mg_ad X 0)), (1, .int x1)]) C dX12_wheelBy_1 6 hnL (by decide) rfl ?_
    refine mg_sub (lv2 := [(0, .ref (mg_ad X 0)), (1, .int x1), (2, .int 0)]) [1, 2, 0] rfl ?_
    exact hF
def rm_wheel : Room := { frames := 5, cells := 0, slots := 0, locals := 123 }
theorem nd_wheel : yX12_wheel.cls = RX12 ∧ yX12_wheel.cls ≠ "java/lang/invoke/MethodHandle" ∧ yX12_wheel.cls ≠ "java/lang/invoke/VarHandle" ∧ (parseMethodDescriptor yX12_wheel.desc).map (fun d => d.parameters.length) = some 2 := by decide +kernel
theorem inm_wheel : ∀ w ∈ wsX120, w ∈ wsX12_wheel := fun _ h9 => List.mem_cons_of_mem _ (List.mem_append_right _ h9)
set_option maxHeartbeats 4000000 in
set_option maxRecDepth 100000 in
theorem met_wheel (x1 : Int32) (x2 : Int32) : mg_MI yX12_wheel wsX12_wheel rm_wheel (fun ad => [.ref (ad 0), .int x1, .int x2]) (fun Q h => wp_wheel Q x1 x2 h) := by
  refine mg_startI (cc := cX12_wheel) (maxL := 3) (by decide) rfl rfl (fun ad => Nat.le_of_ble_eq_true rfl) (fun X Q h C hnL E hw => ?_)
  unfold wp_wheel at hw
  refine mg_sub (lv2 := [(0, .ref (mg_ad X 0)), (1, .int x1), (2, .int x2)]) [0, 1, 2] rfl ?_
  have hF := hw
  refine mg_aload_n (pc := 0) C dX12_wheel_0 0 rfl ?_
  refine mg_iconst (pc := 1) (v := 0) C dX12_wheel_1 (by decide) ?_
  refine mg_puti (pc := 2) C inm_wheel 0 (by decide) rfl (by decide) dX12_wheel_2 (List.mem_of_getElem? (i := 1) rfl) rfl (tyX12_ok 0 (by decide)) (fun h1 eh1 => ?_)
  have hF := hF h1 eh1
  refine mg_aload_n (pc := 5) C dX12_wheel_5 0 rfl ?_
  refine mg_iload_n (pc := 6) C dX12_wheel_6 1 rfl ?_
  refine mg_cvI (pc := 7) C (fun ad => [.int x1]) (met_hand x1) gX12_wheel_X12_hand rfl ⟨rfl, rfl⟩ nd_hand ⟨Nat.le_of_ble_eq_true rfl, Nat.le_of_ble_eq_true rfl⟩ rfl rfl (Nat.le_of_ble_eq_true rfl) dX12_wheel_7 hF (fun r3 h2 hF => ?_)
  refine mg_if_eq (pc := 10) 22 C dX12_wheel_10 (by decide) (fun hc => ?_) (fun hc => ?_)
  · have hF := hF.1 hc
    refine mg_bipush (pc := 22) (v := (-2)) C dX12_wheel_22 (by decide) ?_
    exact mg_retI (pc := 24) C E dX12_wheel_24 hF
  · have hF := hF.2 hc
    refine mg_iload_n (pc := 13) C dX12_wheel_13 2 rfl ?_
    refine mg_iconst (pc := 14) (v := 0) C dX12_wheel_14 (by decide) ?_
    refine mg_iconst (pc := 15) (v := 3) C dX12_wheel_15 (by decide) ?_
    refine mg_csI (pc := 16) C (fun ad => [.int x2, .int 0, .int 3]) (met_in x2 0 3) gX12_wheel_X12_in rfl ⟨rfl, rfl⟩ nd_in.2 ⟨Nat.le_of_ble_eq_true rfl, Nat.le_of_ble_eq_true rfl⟩ rfl rfl (Nat.le_of_ble_eq_true rfl) dX12_wheel_16 hF (fun r5 h4 hF => ?_)
    refine mg_if_ne (pc := 19) 25 C dX12_wheel_19 (by decide) (fun hc => ?_) (fun hc => ?_)
    · have hF := hF.1 hc
      refine mg_iload_n (pc := 25) C dX12_wheel_25 2 rfl ?_
      refine mg_if_ne (pc := 26) 36 C dX12_wheel_26 (by decide) (fun hc => ?_) (fun hc => ?_)
      · have hF := hF.1 hc
        refine mg_aload_n (pc := 36) C dX12_wheel_36 0 rfl ?_
        refine mg_iload_n (pc := 37) C dX12_wheel_37 2 rfl ?_
        refine mg_cvI (pc := 38) C (fun ad => [.int x2]) (met_wheelBy x2) gX12_wheel_X12_wheelBy rfl ⟨rfl, rfl⟩ nd_wheelBy ⟨Nat.le_of_ble_eq_true rfl, Nat.le_of_ble_eq_true rfl⟩ rfl rfl (Nat.le_of_ble_eq_true rfl) dX12_wheel_38 hF (fun r7 h6 hF => ?_)
        exact mg_retI (pc := 41) C E dX12_wheel_41 hF
      · have hF := hF.2 hc
        refine mg_aload_n (pc := 29) C dX12_wheel_29 0 rfl ?_
        refine mg_cvI (pc := 30) C (fun ad => []) (met_atOnce) gX12_wheel_X12_atOnce rfl ⟨rfl, rfl⟩ nd_atOnce ⟨Nat.le_of_ble_eq_true rfl, Nat.le_of_ble_eq_true rfl⟩ rfl rfl (Nat.le_of_ble_eq_true rfl) dX12_wheel_30 hF (fun r9 h8 hF => ?_)
        refine mg_goto (pc := 33) 41 C dX12_wheel_33 (by decide) ?_
        exact mg_retI (pc := 41) C E dX12_wheel_41 hF
    · have hF := hF.2 hc
      refine mg_bipush (pc := 22) (v := (-2)) C dX12_wheel_22 (by decide) ?_
      exact mg_retI (pc := 24) C E dX12_wheel_24 hF
def rm_commonL : Room := { frames := 0, cells := 0, slots := 0, locals := 0 }
theorem nd_commonL : yX12_commonL.cls = RX12 ∧ yX12_commonL.cls ≠ "java/lang/invoke/MethodHandle" ∧ yX12_commonL.cls ≠ "java/lang/invoke/VarHandle" ∧ (parseMethodDescriptor yX12_commonL.desc).map (fun d => d.parameters.length) = some 2 := by decide +kernel
set_option maxHeartbeats 4000000 in
set_option maxRecDepth 100000 in
theorem met_commonL (x0 : Int64) (x2 : Int64) : mg_ML yX12_commonL wsX12_commonL rm_commonL (fun ad => [.long x0, .long x2]) (fun Q h => wp_commonL Q x0 x2 h) := by
  refine mg_startL (cc := cX12_commonL) (maxL := 10) (by decide) rfl rfl (fun ad => Nat.le_of_ble_eq_true rfl) (fun X Q h C hnL E hw => ?_)
  unfold wp_commonL at hw
  refine mg_sub (lv2 := [(0, .long x0), (2, .long x2)]) [0, 1] rfl ?_
  refine mg_use (hw (fun (y4 : Int64) (y6 : Int64) (h : mg_H) => mg_W X 6 [(4, .long y4), (6, .long y6)] [] h) ?_) (fun hF => ?_)
  · intro y4 y6 h hF
    refine mg_lload (pc := 6) C dX12_commonL_6 1 rfl ?_
    refine mg_lconst (pc := 8) (v := 0) C dX12_commonL_8 (by decide) ?_
    refine mg_lcmp (pc := 9) C dX12_commonL_9 ?_
    refine mg_if_eq (pc := 10) 31 C dX12_commonL_10 (by decide) (fun hc => ?_) (fun hc => ?_)
    · have hF := hF.1 hc
      refine mg_lload (pc := 31) C dX12_commonL_31 0 rfl ?_
      exact mg_retL (pc := 33) C E dX12_commonL_33 hF
    · have hF := hF.2 hc
      refine mg_lload (pc := 13) C dX12_commonL_13 0 rfl ?_
      refine mg_lload (pc := 15) C dX12_commonL_15 1 rfl ?_
      obtain ⟨hne, hF⟩ := hF
      refine mg_lrem (pc := 17) C dX12_commonL_17 hne ?_
      refine mg_topl (pc := 18) (fun z1 ez1 => ?_)
      have hF := hF z1 ez1
      refine mg_lstore (pc := 18) (lv2 := [(8, .long z1), (4, .long y4), (6, .long y6)]) C dX12_commonL_18 10 hnL (by decide) rfl ?_
      refine mg_lload (pc := 20) C dX12_commonL_20 2 rfl ?_
      refine mg_lstore (pc := 22) (lv2 := [(4, .long y6), (8, .long z1), (6, .long y6)]) C dX12_commonL_22 10 hnL (by decide) rfl ?_
      refine mg_lload (pc := 24) C dX12_commonL_24 1 rfl ?_
      refine mg_lstore (pc := 26) (lv2 := [(6, .long z1), (4, .long y6), (8, .long z1)]) C dX12_commonL_26 10 hnL (by decide) rfl ?_
      refine mg_goto (pc := 28) 6 C dX12_commonL_28 (by decide) ?_
      refine mg_sub (lv2 := [(4, .long y6), (6, .long z1)]) [1, 0] rfl ?_
      exact hF
  · skip
    refine mg_lload_n (pc := 0) C dX12_commonL_0 0 rfl ?_
    refine mg_lstore (pc := 1) (lv2 := [(4, .long x0), (0, .long x0), (2, .long x2)]) C dX12_commonL_1 10 hnL (by decide) rfl ?_
    refine mg_lload_n (pc := 3) C dX12_commonL_3 2 rfl ?_
    refine mg_lstore (pc := 4) (lv2 := [(6, .long x2), (4, .long x0), (0, .long x0), (2, .long x2)]) C dX12_commonL_4 10 hnL (by decide) rfl ?_
    refine mg_sub (lv2 := [(4, .long x0), (6, .long x2)]) [1, 0] rfl ?_
    exact hF
def rm_partL : Room := { frames := 1, cells := 0, slots := 0, locals := 29 }
theorem nd_partL : yX12_partL.cls = RX12 ∧ yX12_partL.cls ≠ "java/lang/invoke/MethodHandle" ∧ yX12_partL.cls ≠ "java/lang/invoke/VarHandle" ∧ (parseMethodDescriptor yX12_partL.desc).map (fun d => d.parameters.length) = some 3 := by decide +kernel
set_option maxHeartbeats 4000000 in
set_option maxRecDepth 100000 in
theorem met_partL (x0 : Int64) (x2 : Int64) (x4 : Int32) : mg_ML yX12_partL wsX12_partL rm_partL (fun ad => [.long x0, .long x2, .int x4]) (fun Q h => wp_partL Q x0 x2 x4 h) := by
  refine mg_startL (cc := cX12_partL) (maxL := 5) (by decide) rfl rfl (fun ad => Nat.le_of_ble_eq_true rfl) (fun X Q h C hnL E hw => ?_)
  unfold wp_partL at hw
  refine mg_sub (lv2 := [(0, .long x0), (2, .long x2), (4, .int x4)]) [0, 1, 2] rfl ?_
  refine mg_use (hw (fun (s0 : Int64) (h : mg_H) => mg_W X 10 [(0, .long x0), (2, .long x2)] [.long s0] h) ?_) (fun hF => ?_)
  · intro s0 h hF
    refine mg_lload_n (pc := 10) C dX12_partL_10 1 rfl ?_
    refine mg_lload_n (pc := 11) C dX12_partL_11 0 rfl ?_
    refine mg_csL (pc := 12) C (fun ad => [.long x2, .long x0]) (met_commonL x2 x0) gX12_partL_X12_commonL rfl ⟨rfl, rfl⟩ nd_commonL.2 ⟨Nat.le_of_ble_eq_true rfl, Nat.le_of_ble_eq_true rfl⟩ rfl rfl (Nat.le_of_ble_eq_true rfl) dX12_partL_12 hF (fun r2 h1 hF => ?_)
    obtain ⟨hne, hF⟩ := hF
    refine mg_ldiv (pc := 15) C dX12_partL_15 hne ?_
    exact mg_retL (pc := 16) C E dX12_partL_16 hF
  · skip
    refine mg_iload (pc := 0) C dX12_partL_0 2 rfl ?_
    refine mg_if_eq (pc := 2) 9 C dX12_partL_2 (by decide) (fun hc => ?_) (fun hc => ?_)
    · have hF := hF.1 hc
      refine mg_lload_n (pc := 9) C dX12_partL_9 0 rfl ?_
      refine mg_sub (lv2 := [(0, .long x0), (2, .long x2)]) [0, 1] rfl ?_
      exact hF
    · have hF := hF.2 hc
      refine mg_lload_n (pc := 5) C dX12_partL_5 1 rfl ?_
      refine mg_goto (pc := 6) 10 C dX12_partL_6 (by decide) ?_
      refine mg_sub (lv2 := [(0, .long x0), (2, .long x2)]) [0, 1] rfl ?_
      exact hF
def rm_luck : Room := { frames := 3, cells := 0, slots := 0, locals := 65 }
theorem nd_luck : yX12_luck.cls = RX12 ∧ yX12_luck.cls ≠ "java/lang/invoke/MethodHandle" ∧ yX12_luck.cls ≠ "java/lang/invoke/VarHandle" ∧ (parseMethodDescriptor yX12_luck.desc).map (fun d => d.parameters.length) = some 3 := by decide +kernel
theorem inm_luck : ∀ w ∈ wsX120, w ∈ wsX12_luck := fun _ h9 => List.mem_cons_of_mem _ (List.mem_append_right _ h9)
set_option maxHeartbeats 4000000 in
set_option maxRecDepth 100000 in
theorem met_luck (x1 : Int32) (x2 : Int32) (x3 : Int32) : mg_ML yX12_luck wsX12_luck rm_luck (fun ad => [.ref (ad 0), .int x1, .int x2, .int x3]) (fun Q h => wp_luck Q x1 x2 x3 h) := by
  refine mg_startL (cc := cX12_luck) (maxL := 8) (by decide) rfl rfl (fun ad => Nat.le_of_ble_eq_true rfl) (fun X Q h C hnL E hw => ?_)
  unfold wp_luck at hw
  refine mg_sub (lv2 := [(0, .ref (mg_ad X 0)), (1, .int x1), (2, .int x2), (3, .int x3)]) [0, 1, 2, 3] rfl ?_
  refine mg_use (hw (fun (y4 : Int32) (h : mg_H) => mg_W X 30 [(0, .ref (mg_ad X 0)), (2, .int x2), (3, .int x3), (4, .int y4)] [] h) (fun (y4 : Int32) (h : mg_H) => mg_W X 69 [(0, .ref (mg_ad X 0)), (2, .int x2), (3, .int x3), (4, .int y4)] [] h) (fun (y4 : Int64) (y6 : Int32) (h : mg_H) => mg_W X 193 [(0, .ref (mg_ad X 0)), (2, .int x2), (3, .int x3), (4, .long y4), (6, .int y6)] [] h) (fun (y4 : Int32) (y5 : Int32) (h : mg_H) => mg_W X 82 [(0, .ref (mg_ad X 0)), (2, .int x2), (3, .int x3), (4, .int y4), (5, .int y5)] [] h) (fun (y4 : Int32) (h : mg_H) => mg_W X 181 [(0, .ref (mg_ad X 0)), (2, .int x2), (3, .int x3), (4, .int y4)] [] h) (fun (y4 : Int32) (y5 : Int32) (h : mg_H) => mg_W X 175 [(0, .ref (mg_ad X 0)), (2, .int x2), (3, .int x3), (4, .int y4), (5, .int y5)] [] h) ?_ ?_ ?_ ?_ ?_ ?_) (fun hF => ?_)
  · intro y4 h hF
    refine mg_iload (pc := 30) C dX12_luck_30 3 rfl ?_
    refine mg_sipush (pc := 32) (v := 4096) C dX12_luck_32 (by decide) ?_
    refine mg_iload_n (pc := 35) C dX12_luck_35 1 rfl ?_
    refine mg_iconst (pc := 36) (v := 1) C dX12_luck_36 (by decide) ?_
    refine mg_iadd (pc := 37) C dX12_luck_37 ?_
    refine mg_imul (pc := 38) C dX12_luck_38 ?_
    refine mg_icmp_ge (pc := 39) 56 C dX12_luck_39 (by decide) (fun hc => ?_) (fun hc => ?_)
    · have hF := hF.1 hc
      refine mg_aload_n (pc := 56) C dX12_luck_56 0 rfl ?_
      refine mg_getr (pc := 57) C inm_luck 49 (by decide) (by decide) dX12_luck_57 (List.mem_of_getElem? (i := 3) rfl) ?_
      refine mg_aload_n (pc := 60) C dX12_luck_60 0 rfl ?_
      refine mg_geti (pc := 61) C inm_luck 26 (by decide) rfl (by decide) dX12_luck_61 (List.mem_of_getElem? (i := 4) rfl) ?_
      refine mg_lconst (pc := 64) (v := 1) C dX12_luck_64 (by decide) ?_
      obtain ⟨hi, hF⟩ := hF
      refine mg_last (pc := 65) C (by decide) rfl hi dX12_luck_65 (fun h6 eh6 => ?_)
      have hF := hF h6 eh6
      refine mg_iconst (pc := 66) (v := 0) C dX12_luck_66 (by decide) ?_
      refine mg_istore (pc := 67) (lv2 := [(4, .int 0), (0, .ref (mg_ad X 0)), (2, .int x2), (3, .int x3)]) C dX12_luck_67 8 hnL (by decide) rfl ?_
      refine mg_sub (lv2 := [(0, .ref (mg_ad X 0)), (2, .int x2), (3, .int x3), (4, .int 0)]) [1, 2, 3, 0] rfl ?_
      exact hF
    · have hF := hF.2 hc
      refine mg_aload_n (pc := 42) C dX12_luck_42 0 rfl ?_
      refine mg_getr (pc := 43) C inm_luck 49 (by decide) (by decide) dX12_luck_43 (List.mem_of_getElem? (i := 3) rfl) ?_
      refine mg_iload (pc := 46) C dX12_luck_46 3 rfl ?_
      refine mg_lconst (pc := 48) (v := 0) C dX12_luck_48 (by decide) ?_
      obtain ⟨hi, hF⟩ := hF
      refine mg_last (pc := 49) C (by decide) rfl hi dX12_luck_49 (fun h7 eh7 => ?_)
      have hF := hF h7 eh7
      obtain ⟨z8, ez8⟩ : ∃ y : Int32, y = y4 + 1 := ⟨_, rfl⟩
      have hF := hF z8 ez8
      refine mg_iinc (pc := 50) (v := z8) (lv2 := [(4, .int z8), (0, .ref (mg_ad X 0)), (2, .int x2), (3, .int x3)]) C dX12_luck_50 3 rfl (by rw [ez8]; rfl) 8 hnL (by decide) rfl ?_
      refine mg_goto (pc := 53) 30 C dX12_luck_53 (by decide) ?_
      refine mg_sub (lv2 := [(0, .ref (mg_ad X 0)), (2, .int x2), (3, .int x3), (4, .int z8)]) [1, 2, 3, 0] rfl ?_
      exact hF
  · intro y4 h hF
    refine mg_iload (pc := 69) C dX12_luck_69 3 rfl ?_
    refine mg_sipush (pc := 71) (v := 4096) C dX12_luck_71 (by decide) ?_
    refine mg_iload_n (pc := 74) C dX12_luck_74 1 rfl ?_
    refine mg_imul (pc := 75) C dX12_luck_75 ?_
    refine mg_icmp_ge (pc := 76) 187 C dX12_luck_76 (by decide) (fun hc => ?_) (fun hc => ?_)
    · have hF := hF.1 hc
      refine mg_lconst (pc := 187) (v := 0) C dX12_luck_187 (by decide) ?_
      refine mg_lstore (pc := 188) (lv2 := [(4, .long 0), (0, .ref (mg_ad X 0)), (2, .int x2), (3, .int x3)]) C dX12_luck_188 8 hnL (by decide) rfl ?_
      refine mg_iconst (pc := 190) (v := 0) C dX12_luck_190 (by decide) ?_
      refine mg_istore (pc := 191) (lv2 := [(6, .int 0), (4, .long 0), (0, .ref (mg_ad X 0)), (2, .int x2), (3, .int x3)]) C dX12_luck_191 8 hnL (by decide) rfl ?_
      refine mg_sub (lv2 := [(0, .ref (mg_ad X 0)), (2, .int x2), (3, .int x3), (4, .long 0), (6, .int 0)]) [2, 3, 4, 1, 0] rfl ?_
      exact hF
    · have hF := hF.2 hc
      refine mg_iconst (pc := 79) (v := 0) C dX12_luck_79 (by decide) ?_
      refine mg_istore (pc := 80) (lv2 := [(5, .int 0), (0, .ref (mg_ad X 0)), (2, .int x2), (3, .int x3), (4, .int y4)]) C dX12_luck_80 8 hnL (by decide) rfl ?_
      refine mg_sub (lv2 := [(0, .ref (mg_ad X 0)), (2, .int x2), (3, .int x3), (4, .int y4), (5, .int 0)]) [1, 2, 3, 4, 0] rfl ?_
      exact hF
  · intro y4 y6 h hF
    refine mg_iload (pc := 193) C dX12_luck_193 4 rfl ?_
    refine mg_sipush (pc := 195) (v := 4096) C dX12_luck_195 (by decide) ?_
    refine mg_icmp_ge (pc := 198) 225 C dX12_luck_198 (by decide) (fun hc => ?_) (fun hc => ?_)
    · have hF := hF.1 hc
      refine mg_lload (pc := 225) C dX12_luck_225 3 rfl ?_
      refine mg_lconst (pc := 227) (v := 1) C dX12_luck_227 (by decide) ?_
      refine mg_aload_n (pc := 228) C dX12_luck_228 0 rfl ?_
      refine mg_geti (pc := 229) C inm_luck 24 (by decide) rfl (by decide) dX12_luck_229 (List.mem_of_getElem? (i := 7) rfl) ?_
      refine mg_iload_n (pc := 232) C dX12_luck_232 1 rfl ?_
      refine mg_imul (pc := 233) C dX12_luck_233 ?_
      refine mg_lshl (pc := 234) C dX12_luck_234 ?_
      refine mg_iload_n (pc := 235) C dX12_luck_235 2 rfl ?_
      refine mg_csL (pc := 236) C (fun ad => [.long y4, .long (1 <<< (((mg_i h 0 24) * x2).toInt64 &&& 63)), .int x3]) (met_partL y4 (1 <<< (((mg_i h 0 24) * x2).toInt64 &&& 63)) x3) gX12_luck_X12_partL rfl ⟨rfl, rfl⟩ nd_partL.2 ⟨Nat.le_of_ble_eq_true rfl, Nat.le_of_ble_eq_true rfl⟩ rfl rfl (Nat.le_of_ble_eq_true rfl) dX12_luck_236 hF (fun r10 h9 hF => ?_)
      exact mg_retL (pc := 239) C E dX12_luck_239 hF
    · have hF := hF.2 hc
      refine mg_lload (pc := 201) C dX12_luck_201 3 rfl ?_
      refine mg_aload_n (pc := 203) C dX12_luck_203 0 rfl ?_
      refine mg_getr (pc := 204) C inm_luck 49 (by decide) (by decide) dX12_luck_204 (List.mem_of_getElem? (i := 3) rfl) ?_
      refine mg_sipush (pc := 207) (v := 4096) C dX12_luck_207 (by decide) ?_
      refine mg_iload_n (pc := 210) C dX12_luck_210 1 rfl ?_
      refine mg_imul (pc := 211) C dX12_luck_211 ?_
      refine mg_iload (pc := 212) C dX12_luck_212 4 rfl ?_
      refine mg_iadd (pc := 214) C dX12_luck_214 ?_
      obtain ⟨hi, hF⟩ := hF
      refine mg_lald (pc := 215) C (by decide) rfl hi dX12_luck_215 ?_
      refine mg_ladd (pc := 216) C dX12_luck_216 ?_
      refine mg_topl (pc := 217) (fun z11 ez11 => ?_)
      have hF := hF z11 ez11
      refine mg_lstore (pc := 217) (lv2 := [(4, .long z11), (0, .ref (mg_ad X 0)), (2, .int x2), (3, .int x3), (6, .int y6)]) C dX12_luck_217 8 hnL (by decide) rfl ?_
      obtain ⟨z12, ez12⟩ : ∃ y : Int32, y = y6 + 1 := ⟨_, rfl⟩
      have hF := hF z12 ez12
      refine mg_iinc (pc := 219) (v := z12) (lv2 := [(6, .int z12), (4, .long z11), (0, .ref (mg_ad X 0)), (2, .int x2), (3, .int x3)]) C dX12_luck_219 4 rfl (by rw [ez12]; rfl) 8 hnL (by decide) rfl ?_
      refine mg_goto (pc := 222) 193 C dX12_luck_222 (by decide) ?_
      refine mg_sub (lv2 := [(0, .ref (mg_ad X 0)), (2, .int x2), (3, .int x3), (4, .long z11), (6, .int z12)]) [2, 3, 4, 1, 0] rfl ?_
      exact hF
  · intro y4 y5 h hF
    refine mg_iload (pc := 82) C dX12_luck_82 4 rfl ?_
    refine mg_aload_n (pc := 84) C dX12_luck_84 0 rfl ?_
    refine mg_geti (pc := 85) C inm_luck 25 (by decide) rfl (by decide) dX12_luck_85 (List.mem_of_getElem? (i := 5) rfl) ?_
    refine mg_icmp_gt (pc := 88) 181 C dX12_luck_88 (by decide) (fun hc => ?_) (fun hc => ?_)
    · have hF := hF.1 hc
      refine mg_sub (lv2 := [(0, .ref (mg_ad X 0)), (2, .int x2), (3, .int x3), (4, .int y4)]) [0, 1, 2, 3] rfl ?_
      exact hF
    · have hF := hF.2 hc
      refine mg_aload_n (pc := 91) C dX12_luck_91 0 rfl ?_
      refine mg_getr (pc := 92) C inm_luck 49 (by decide) (by decide) dX12_luck_92 (List.mem_of_getElem? (i := 3) rfl) ?_
      refine mg_iload (pc := 95) C dX12_luck_95 3 rfl ?_
      obtain ⟨hi, hF⟩ := hF
      refine mg_lald (pc := 97) C (by decide) rfl hi dX12_luck_97 ?_
      refine mg_lconst (pc := 98) (v := 0) C dX12_luck_98 (by decide) ?_
      refine mg_lcmp (pc := 99) C dX12_luck_99 ?_
      refine mg_if_le (pc := 100) 181 C dX12_luck_100 (by decide) (fun hc => ?_) (fun hc => ?_)
      · have hF := hF.1 hc
        refine mg_sub (lv2 := [(0, .ref (mg_ad X 0)), (2, .int x2), (3, .int x3), (4, .int y4)]) [0, 1, 2, 3] rfl ?_
        exact hF
      · have hF := hF.2 hc
        refine mg_aload_n (pc := 103) C dX12_luck_103 0 rfl ?_
        refine mg_iload (pc := 104) C dX12_luck_104 3 rfl ?_
        refine mg_sipush (pc := 106) (v := 4096) C dX12_luck_106 (by decide) ?_
        refine mg_irem (pc := 109) C dX12_luck_109 (by decide) ?_
        refine mg_iload (pc := 110) C dX12_luck_110 4 rfl ?_
        refine mg_cvI (pc := 112) C (fun ad => [.int (y4 - y4 / 4096 * 4096), .int y5]) (met_next (y4 - y4 / 4096 * 4096) y5) gX12_luck_X12_next rfl ⟨rfl, rfl⟩ nd_next ⟨Nat.le_of_ble_eq_true rfl, Nat.le_of_ble_eq_true rfl⟩ rfl rfl (Nat.le_of_ble_eq_true rfl) dX12_luck_112 hF (fun r14 h13 hF => ?_)
        refine mg_istore (pc := 115) (lv2 := [(6, .int r14), (0, .ref (mg_ad X 0)), (2, .int x2), (3, .int x3), (4, .int y4), (5, .int y5)]) C dX12_luck_115 8 hnL (by decide) rfl ?_
        refine mg_iload (pc := 117) C dX12_luck_117 4 rfl ?_
        refine mg_sipush (pc := 119) (v := 4096) C dX12_luck_119 (by decide) ?_
        refine mg_idiv (pc := 122) C dX12_luck_122 (by decide) ?_
        refine mg_iload (pc := 123) C dX12_luck_123 0 rfl ?_
        refine mg_iadd (pc := 125) C dX12_luck_125 ?_
        refine mg_topi (pc := 126) (fun z15 ez15 => ?_)
        have hF := hF z15 ez15
        refine mg_istore (pc := 126) (lv2 := [(7, .int z15), (6, .int r14), (0, .ref (mg_ad X 0)), (2, .int x2), (3, .int x3), (4, .int y4), (5, .int y5)]) C dX12_luck_126 8 hnL (by decide) rfl ?_
        refine mg_iload (pc := 128) C dX12_luck_128 1 rfl ?_
        refine mg_if_le (pc := 130) 175 C dX12_luck_130 (by decide) (fun hc => ?_) (fun hc => ?_)
        · have hF := hF.1 hc
          refine mg_sub (lv2 := [(0, .ref (mg_ad X 0)), (2, .int x2), (3, .int x3), (4, .int y4), (5, .int y5)]) [2, 3, 4, 5, 6] rfl ?_
          exact hF
        · have hF := hF.2 hc
          refine mg_iload (pc := 133) C dX12_luck_133 0 rfl ?_
          refine mg_iload_n (pc := 135) C dX12_luck_135 3 rfl ?_
          refine mg_icmp_gt (pc := 136) 175 C dX12_luck_136 (by decide) (fun hc => ?_) (fun hc => ?_)
          · have hF := hF.1 hc
            refine mg_sub (lv2 := [(0, .ref (mg_ad X 0)), (2, .int x2), (3, .int x3), (4, .int y4), (5, .int y5)]) [2, 3, 4, 5, 6] rfl ?_
            exact hF
          · have hF := hF.2 hc
            refine mg_aload_n (pc := 139) C dX12_luck_139 2 rfl ?_
            refine mg_getr (pc := 140) C inm_luck 49 (by decide) (by decide) dX12_luck_140 (List.mem_of_getElem? (i := 3) rfl) ?_
            refine mg_sipush (pc := 143) (v := 4096) C dX12_luck_143 (by decide) ?_
            refine mg_iload (pc := 146) C dX12_luck_146 0 rfl ?_
            refine mg_imul (pc := 148) C dX12_luck_148 ?_
            refine mg_aload_n (pc := 149) C dX12_luck_149 2 rfl ?_
            refine mg_geti (pc := 150) C inm_luck 39 (by decide) rfl (by decide) dX12_luck_150 (List.mem_of_getElem? (i := 6) rfl) ?_
            refine mg_iadd (pc := 153) C dX12_luck_153 ?_
            refine mg_dup2 (pc := 154) C dX12_luck_154 rfl rfl ?_
            obtain ⟨hi, hF⟩ := hF
            refine mg_lald (pc := 155) C (by decide) rfl hi dX12_luck_155 ?_
            refine mg_aload_n (pc := 156) C dX12_luck_156 2 rfl ?_
            refine mg_getr (pc := 157) C inm_luck 49 (by decide) (by decide) dX12_luck_157 (List.mem_of_getElem? (i := 3) rfl) ?_
            refine mg_iload (pc := 160) C dX12_luck_160 5 rfl ?_
            obtain ⟨hi, hF⟩ := hF
            refine mg_lald (pc := 162) C (by decide) rfl hi dX12_luck_162 ?_
            refine mg_aload_n (pc := 163) C dX12_luck_163 2 rfl ?_
            refine mg_geti (pc := 164) C inm_luck 24 (by decide) rfl (by decide) dX12_luck_164 (List.mem_of_getElem? (i := 7) rfl) ?_
            refine mg_iload (pc := 167) C dX12_luck_167 1 rfl ?_
            refine mg_iconst (pc := 169) (v := 1) C dX12_luck_169 (by decide) ?_
            refine mg_isub (pc := 170) C dX12_luck_170 ?_
            refine mg_imul (pc := 171) C dX12_luck_171 ?_
            refine mg_lshl (pc := 172) C dX12_luck_172 ?_
            refine mg_ladd (pc := 173) C dX12_luck_173 ?_
            obtain ⟨hi, hF⟩ := hF
            refine mg_last (pc := 174) C (by decide) rfl hi dX12_luck_174 (fun h16 eh16 => ?_)
            have hF := hF h16 eh16
            refine mg_sub (lv2 := [(0, .ref (mg_ad X 0)), (2, .int x2), (3, .int x3), (4, .int y4), (5, .int y5)]) [2, 3, 4, 5, 6] rfl ?_
            exact hF
  · intro y4 h hF
    obtain ⟨z17, ez17⟩ : ∃ y : Int32, y = y4 + 1 := ⟨_, rfl⟩
    have hF := hF z17 ez17
    refine mg_iinc (pc := 181) (v := z17) (lv2 := [(4, .int z17), (0, .ref (mg_ad X 0)), (2, .int x2), (3, .int x3)]) C dX12_luck_181 3 rfl (by rw [ez17]; rfl) 8 hnL (by decide) rfl ?_
    refine mg_goto (pc := 184) 69 C dX12_luck_184 (by decide) ?_
    refine mg_sub (lv2 := [(0, .ref (mg_ad X 0)), (2, .int x2), (3, .int x3), (4, .int z17)]) [1, 2, 3, 0] rfl ?_
    exact hF
  · intro y4 y5 h hF
    obtain ⟨z18, ez18⟩ : ∃ y : Int32, y = y5 + 1 := ⟨_, rfl⟩
    have hF := hF z18 ez18
    refine mg_iinc (pc := 175) (v := z18) (lv2 := [(5, .int z18), (0, .ref (mg_ad X 0)), (2, .int x2), (3, .int x3), (4, .int y4)]) C dX12_luck_175 4 rfl (by rw [ez18]; rfl) 8 hnL (by decide) rfl ?_
    refine mg_goto (pc := 178) 82 C dX12_luck_178 (by decide) ?_
    refine mg_sub (lv2 := [(0, .ref (mg_ad X 0)), (2, .int x2), (3, .int x3), (4, .int y4), (5, .int z18)]) [1, 2, 3, 4, 0] rfl ?_
    exact hF
  · skip
    refine mg_aload_n (pc := 0) C dX12_luck_0 0 rfl ?_
    refine mg_iconst (pc := 1) (v := 0) C dX12_luck_1 (by decide) ?_
    refine mg_puti (pc := 2) C inm_luck 0 (by decide) rfl (by decide) dX12_luck_2 (List.mem_of_getElem? (i := 1) rfl) rfl (tyX12_ok 0 (by decide)) (fun h1 eh1 => ?_)
    have hF := hF h1 eh1
    refine mg_iload_n (pc := 5) C dX12_luck_5 2 rfl ?_
    refine mg_iconst (pc := 6) (v := 1) C dX12_luck_6 (by decide) ?_
    refine mg_bipush (pc := 7) (v := 10) C dX12_luck_7 (by decide) ?_
    refine mg_csI (pc := 9) C (fun ad => [.int x2, .int 1, .int 10]) (met_in x2 1 10) gX12_luck_X12_in rfl ⟨rfl, rfl⟩ nd_in.2 ⟨Nat.le_of_ble_eq_true rfl, Nat.le_of_ble_eq_true rfl⟩ rfl rfl (Nat.le_of_ble_eq_true rfl) dX12_luck_9 hF (fun r3 h2 hF => ?_)
    refine mg_if_eq (pc := 12) 23 C dX12_luck_12 (by decide) (fun hc => ?_) (fun hc => ?_)
    · have hF := hF.1 hc
      refine mg_ldc2 (pc := 23) (v := (-1)) C dX12_luck_23 (List.mem_of_getElem? (i := 2) rfl) ?_
      exact mg_retL (pc := 26) C E dX12_luck_26 hF
    · have hF := hF.2 hc
      refine mg_aload_n (pc := 15) C dX12_luck_15 0 rfl ?_
      refine mg_iload_n (pc := 16) C dX12_luck_16 1 rfl ?_
      refine mg_cvI (pc := 17) C (fun ad => [.int x1]) (met_hand x1) gX12_luck_X12_hand rfl ⟨rfl, rfl⟩ nd_hand ⟨Nat.le_of_ble_eq_true rfl, Nat.le_of_ble_eq_true rfl⟩ rfl rfl (Nat.le_of_ble_eq_true rfl) dX12_luck_17 hF (fun r5 h4 hF => ?_)
      refine mg_if_ne (pc := 20) 27 C dX12_luck_20 (by decide) (fun hc => ?_) (fun hc => ?_)
      · have hF := hF.1 hc
        refine mg_iconst (pc := 27) (v := 0) C dX12_luck_27 (by decide) ?_
        refine mg_istore (pc := 28) (lv2 := [(4, .int 0), (0, .ref (mg_ad X 0)), (1, .int x1), (2, .int x2), (3, .int x3)]) C dX12_luck_28 8 hnL (by decide) rfl ?_
        refine mg_sub (lv2 := [(0, .ref (mg_ad X 0)), (2, .int x2), (3, .int x3), (4, .int 0)]) [1, 3, 4, 0] rfl ?_
        exact hF
      · have hF := hF.2 hc
        refine mg_ldc2 (pc := 23) (v := (-1)) C dX12_luck_23 (List.mem_of_getElem? (i := 2) rfl) ?_
        exact mg_retL (pc := 26) C E dX12_luck_26 hF
def rm_sixteens : Room := { frames := 0, cells := 0, slots := 0, locals := 0 }
theorem nd_sixteens : yX12_sixteens.cls = RX12 ∧ yX12_sixteens.cls ≠ "java/lang/invoke/MethodHandle" ∧ yX12_sixteens.cls ≠ "java/lang/invoke/VarHandle" ∧ (parseMethodDescriptor yX12_sixteens.desc).map (fun d => d.parameters.length) = some 1 := by decide +kernel
set_option maxHeartbeats 4000000 in
set_option maxRecDepth 100000 in
theorem met_sixteens (x0 : Int32) : mg_MI yX12_sixteens wsX12_sixteens rm_sixteens (fun ad => [.int x0]) (fun Q h => wp_sixteens Q x0 h) := by
  refine mg_startI (cc := cX12_sixteens) (maxL := 1) (by decide) rfl rfl (fun ad => Nat.le_of_ble_eq_true rfl) (fun X Q h C hnL E hw => ?_)
  unfold wp_sixteens at hw
  refine mg_sub (lv2 := [(0, .int x0)]) [0] rfl ?_
  have hF := hw
  refine mg_iconst (pc := 0) (v := 1) C dX12_sixteens_0 (by decide) ?_
  refine mg_iconst (pc := 1) (v := 4) C dX12_sixteens_1 (by decide) ?_
  refine mg_iload_n (pc := 2) C dX12_sixteens_2 0 rfl ?_
  refine mg_imul (pc := 3) C dX12_sixteens_3 ?_
  refine mg_ishl (pc := 4) C dX12_sixteens_4 ?_
  exact mg_retI (pc := 5) C E dX12_sixteens_5 hF
def rm_endOf : Room := { frames := 2, cells := 0, slots := 0, locals := 47 }
theorem nd_endOf : yX12_endOf.cls = RX12 ∧ yX12_endOf.cls ≠ "java/lang/invoke/MethodHandle" ∧ yX12_endOf.cls ≠ "java/lang/invoke/VarHandle" ∧ (parseMethodDescriptor yX12_endOf.desc).map (fun d => d.parameters.length) = some 2 := by decide +kernel
theorem inm_endOf : ∀ w ∈ wsX120, w ∈ wsX12_endOf := fun _ h9 => List.mem_cons_of_mem _ (List.mem_append_right _ h9)
set_option maxHeartbeats 4000000 in
set_option maxRecDepth 100000 in
theorem met_endOf (x1 : Int32) (x2 : Int32) : mg_MI yX12_endOf wsX12_endOf rm_endOf (fun ad => [.ref (ad 0), .int x1, .int x2]) (fun Q h => wp_endOf Q x1 x2 h) := by
  refine mg_startI (cc := cX12_endOf) (maxL := 9) (by decide) rfl rfl (fun ad => Nat.le_of_ble_eq_true rfl) (fun X Q h C hnL E hw => ?_)
  unfold wp_endOf at hw
  refine mg_sub (lv2 := [(0, .ref (mg_ad X 0)), (1, .int x1), (2, .int x2)]) [0, 1, 2] rfl ?_
  refine mg_use (hw (fun (y3 : Int32) (y4 : Int32) (y5 : Int32) (y6 : Int32) (h : mg_H) => mg_W X 14 [(0, .ref (mg_ad X 0)), (1, .int x1), (2, .int x2), (3, .int y3), (4, .int y4), (5, .int y5), (6, .int y6)] [] h) (fun (y3 : Int32) (y4 : Int32) (y6 : Int32) (s0 : Int32) (h : mg_H) => mg_W X 65 [(0, .ref (mg_ad X 0)), (1, .int x1), (2, .int x2), (3, .int y3), (4, .int y4), (6, .int y6)] [.int s0] h) (fun (y3 : Int32) (y4 : Int32) (y6 : Int32) (y8 : Int32) (s0 : Int32) (h : mg_H) => mg_W X 77 [(0, .ref (mg_ad X 0)), (1, .int x1), (2, .int x2), (3, .int y3), (4, .int y4), (6, .int y6), (8, .int y8)] [.int s0] h) (fun (y4 : Int32) (y5 : Int32) (y6 : Int32) (s0 : Int32) (h : mg_H) => mg_W X 99 [(0, .ref (mg_ad X 0)), (1, .int x1), (2, .int x2), (4, .int y4), (5, .int y5), (6, .int y6)] [.int s0] h) ?_ ?_ ?_ ?_) (fun hF => ?_)
  · intro y3 y4 y5 y6 h hF
    refine mg_iload (pc := 14) C dX12_endOf_14 6 rfl ?_
    refine mg_iload_n (pc := 16) C dX12_endOf_16 1 rfl ?_
    refine mg_icmp_ge (pc := 17) 106 C dX12_endOf_17 (by decide) (fun hc => ?_) (fun hc => ?_)
    · have hF := hF.1 hc
      refine mg_iload (pc := 106) C dX12_endOf_106 4 rfl ?_
      exact mg_retI (pc := 108) C E dX12_endOf_108 hF
    · have hF := hF.2 hc
      refine mg_iload_n (pc := 20) C dX12_endOf_20 2 rfl ?_
      refine mg_iconst (pc := 21) (v := 4) C dX12_endOf_21 (by decide) ?_
      refine mg_iload_n (pc := 22) C dX12_endOf_22 1 rfl ?_
      refine mg_iconst (pc := 23) (v := 1) C dX12_endOf_23 (by decide) ?_
      refine mg_isub (pc := 24) C dX12_endOf_24 ?_
      refine mg_iload (pc := 25) C dX12_endOf_25 6 rfl ?_
      refine mg_isub (pc := 27) C dX12_endOf_27 ?_
      refine mg_imul (pc := 28) C dX12_endOf_28 ?_
      refine mg_ishr (pc := 29) C dX12_endOf_29 ?_
      refine mg_bipush (pc := 30) (v := 15) C dX12_endOf_30 (by decide) ?_
      refine mg_iand (pc := 32) C dX12_endOf_32 ?_
      refine mg_topi (pc := 33) (fun z2 ez2 => ?_)
      have hF := hF z2 ez2
      refine mg_istore (pc := 33) (lv2 := [(7, .int z2), (0, .ref (mg_ad X 0)), (1, .int x1), (2, .int x2), (3, .int y3), (4, .int y4), (5, .int y5), (6, .int y6)]) C dX12_endOf_33 9 hnL (by decide) rfl ?_
      refine mg_iload (pc := 35) C dX12_endOf_35 0 rfl ?_
      refine mg_aload_n (pc := 37) C dX12_endOf_37 1 rfl ?_
      refine mg_geti (pc := 38) C inm_endOf 25 (by decide) rfl (by decide) dX12_endOf_38 (List.mem_of_getElem? (i := 2) rfl) ?_
      refine mg_iconst (pc := 41) (v := (-1)) C dX12_endOf_41 (by decide) ?_
      refine mg_ixor (pc := 42) C dX12_endOf_42 ?_
      refine mg_iand (pc := 43) C dX12_endOf_43 ?_
      refine mg_if_eq (pc := 44) 49 C dX12_endOf_44 (by decide) (fun hc => ?_) (fun hc => ?_)
      · have hF := hF.1 hc
        refine mg_iload (pc := 49) C dX12_endOf_49 6 rfl ?_
        refine mg_if_eq (pc := 51) 64 C dX12_endOf_51 (by decide) (fun hc => ?_) (fun hc => ?_)
        · have hF := hF.1 hc
          refine mg_iconst (pc := 64) (v := 0) C dX12_endOf_64 (by decide) ?_
          refine mg_sub (lv2 := [(0, .ref (mg_ad X 0)), (1, .int x1), (2, .int x2), (3, .int y3), (4, .int y4), (6, .int y6)]) [1, 2, 3, 4, 5, 7] rfl ?_
          exact hF
        · have hF := hF.2 hc
          refine mg_aload_n (pc := 54) C dX12_endOf_54 1 rfl ?_
          refine mg_iload_n (pc := 55) C dX12_endOf_55 4 rfl ?_
          refine mg_iload (pc := 56) C dX12_endOf_56 0 rfl ?_
          refine mg_cvI (pc := 58) C (fun ad => [.int y3, .int z2]) (met_next y3 z2) gX12_endOf_X12_next rfl ⟨rfl, rfl⟩ nd_next ⟨Nat.le_of_ble_eq_true rfl, Nat.le_of_ble_eq_true rfl⟩ rfl rfl (Nat.le_of_ble_eq_true rfl) dX12_endOf_58 hF (fun r4 h3 hF => ?_)
          refine mg_goto (pc := 61) 65 C dX12_endOf_61 (by decide) ?_
          refine mg_sub (lv2 := [(0, .ref (mg_ad X 0)), (1, .int x1), (2, .int x2), (3, .int y3), (4, .int y4), (6, .int y6)]) [1, 2, 3, 4, 5, 7] rfl ?_
          exact hF
      · have hF := hF.2 hc
        refine mg_iconst (pc := 47) (v := (-1)) C dX12_endOf_47 (by decide) ?_
        exact mg_retI (pc := 48) C E dX12_endOf_48 hF
  · intro y3 y4 y6 s0 h hF
    refine mg_istore (pc := 65) (lv2 := [(8, .int s0), (0, .ref (mg_ad X 0)), (1, .int x1), (2, .int x2), (3, .int y3), (4, .int y4), (6, .int y6)]) C dX12_endOf_65 9 hnL (by decide) rfl ?_
    refine mg_iload (pc := 67) C dX12_endOf_67 0 rfl ?_
    refine mg_if_le (pc := 69) 76 C dX12_endOf_69 (by decide) (fun hc => ?_) (fun hc => ?_)
    · have hF := hF.1 hc
      refine mg_iconst (pc := 76) (v := 0) C dX12_endOf_76 (by decide) ?_
      refine mg_sub (lv2 := [(0, .ref (mg_ad X 0)), (1, .int x1), (2, .int x2), (3, .int y3), (4, .int y4), (6, .int y6), (8, .int s0)]) [1, 2, 3, 4, 5, 6, 0] rfl ?_
      exact hF
    · have hF := hF.2 hc
      refine mg_iconst (pc := 72) (v := 1) C dX12_endOf_72 (by decide) ?_
      refine mg_goto (pc := 73) 77 C dX12_endOf_73 (by decide) ?_
      refine mg_sub (lv2 := [(0, .ref (mg_ad X 0)), (1, .int x1), (2, .int x2), (3, .int y3), (4, .int y4), (6, .int y6), (8, .int s0)]) [1, 2, 3, 4, 5, 6, 0] rfl ?_
      exact hF
  · intro y3 y4 y6 y8 s0 h hF
    refine mg_istore (pc := 77) (lv2 := [(5, .int s0), (0, .ref (mg_ad X 0)), (1, .int x1), (2, .int x2), (3, .int y3), (4, .int y4), (6, .int y6), (8, .int y8)]) C dX12_endOf_77 9 hnL (by decide) rfl ?_
    refine mg_iload (pc := 79) C dX12_endOf_79 5 rfl ?_
    refine mg_iload (pc := 81) C dX12_endOf_81 7 rfl ?_
    refine mg_iadd (pc := 83) C dX12_endOf_83 ?_
    refine mg_topi (pc := 84) (fun z5 ez5 => ?_)
    have hF := hF z5 ez5
    refine mg_istore (pc := 84) (lv2 := [(4, .int z5), (5, .int s0), (0, .ref (mg_ad X 0)), (1, .int x1), (2, .int x2), (3, .int y3), (6, .int y6), (8, .int y8)]) C dX12_endOf_84 9 hnL (by decide) rfl ?_
    refine mg_iload (pc := 86) C dX12_endOf_86 1 rfl ?_
    refine mg_if_eq (pc := 88) 98 C dX12_endOf_88 (by decide) (fun hc => ?_) (fun hc => ?_)
    · have hF := hF.1 hc
      refine mg_iload_n (pc := 98) C dX12_endOf_98 5 rfl ?_
      refine mg_sub (lv2 := [(0, .ref (mg_ad X 0)), (1, .int x1), (2, .int x2), (4, .int z5), (5, .int s0), (6, .int y6)]) [2, 3, 4, 0, 1, 6] rfl ?_
      exact hF
    · have hF := hF.2 hc
      refine mg_aload_n (pc := 91) C dX12_endOf_91 2 rfl ?_
      refine mg_geti (pc := 92) C inm_endOf 39 (by decide) rfl (by decide) dX12_endOf_92 (List.mem_of_getElem? (i := 3) rfl) ?_
      refine mg_goto (pc := 95) 99 C dX12_endOf_95 (by decide) ?_
      refine mg_sub (lv2 := [(0, .ref (mg_ad X 0)), (1, .int x1), (2, .int x2), (4, .int z5), (5, .int s0), (6, .int y6)]) [2, 3, 4, 0, 1, 6] rfl ?_
      exact hF
  · intro y4 y5 y6 s0 h hF
    refine mg_istore_n (pc := 99) (lv2 := [(3, .int s0), (0, .ref (mg_ad X 0)), (1, .int x1), (2, .int x2), (4, .int y4), (5, .int y5), (6, .int y6)]) C dX12_endOf_99 9 hnL (by decide) rfl ?_
    obtain ⟨z6, ez6⟩ : ∃ y : Int32, y = y6 + 1 := ⟨_, rfl⟩
    have hF := hF z6 ez6
    refine mg_iinc (pc := 100) (v := z6) (lv2 := [(6, .int z6), (3, .int s0), (0, .ref (mg_ad X 0)), (1, .int x1), (2, .int x2), (4, .int y4), (5, .int y5)]) C dX12_endOf_100 6 rfl (by rw [ez6]; rfl) 9 hnL (by decide) rfl ?_
    refine mg_goto (pc := 103) 14 C dX12_endOf_103 (by decide) ?_
    refine mg_sub (lv2 := [(0, .ref (mg_ad X 0)), (1, .int x1), (2, .int x2), (3, .int s0), (4, .int y4), (5, .int y5), (6, .int z6)]) [2, 3, 4, 1, 5, 6, 0] rfl ?_
    exact hF
  · skip
    refine mg_aload_n (pc := 0) C dX12_endOf_0 0 rfl ?_
    refine mg_geti (pc := 1) C inm_endOf 26 (by decide) rfl (by decide) dX12_endOf_1 (List.mem_of_getElem? (i := 1) rfl) ?_
    refine mg_topi (pc := 4) (fun z1 ez1 => ?_)
    have hF := hF z1 ez1
    refine mg_istore_n (pc := 4) (lv2 := [(3, .int z1), (0, .ref (mg_ad X 0)), (1, .int x1), (2, .int x2)]) C dX12_endOf_4 9 hnL (by decide) rfl ?_
    refine mg_iconst (pc := 5) (v := 0) C dX12_endOf_5 (by decide) ?_
    refine mg_istore (pc := 6) (lv2 := [(4, .int 0), (3, .int z1), (0, .ref (mg_ad X 0)), (1, .int x1), (2, .int x2)]) C dX12_endOf_6 9 hnL (by decide) rfl ?_
    refine mg_iconst (pc := 8) (v := 1) C dX12_endOf_8 (by decide) ?_
    refine mg_istore (pc := 9) (lv2 := [(5, .int 1), (4, .int 0), (3, .int z1), (0, .ref (mg_ad X 0)), (1, .int x1), (2, .int x2)]) C dX12_endOf_9 9 hnL (by decide) rfl ?_
    refine mg_iconst (pc := 11) (v := 0) C dX12_endOf_11 (by decide) ?_
    refine mg_istore (pc := 12) (lv2 := [(6, .int 0), (5, .int 1), (4, .int 0), (3, .int z1), (0, .ref (mg_ad X 0)), (1, .int x1), (2, .int x2)]) C dX12_endOf_12 9 hnL (by decide) rfl ?_
    refine mg_sub (lv2 := [(0, .ref (mg_ad X 0)), (1, .int x1), (2, .int x2), (3, .int z1), (4, .int 0), (5, .int 1), (6, .int 0)]) [4, 5, 6, 3, 2, 1, 0] rfl ?_
    exact hF
def rm_fold : Room := { frames := 0, cells := 0, slots := 0, locals := 0 }
theorem nd_fold : yX12_fold.cls = RX12 ∧ yX12_fold.cls ≠ "java/lang/invoke/MethodHandle" ∧ yX12_fold.cls ≠ "java/lang/invoke/VarHandle" ∧ (parseMethodDescriptor yX12_fold.desc).map (fun d => d.parameters.length) = some 2 := by decide +kernel
theorem inm_fold : ∀ w ∈ wsX120, w ∈ wsX12_fold := fun _ h9 => List.mem_cons_of_mem _ (List.mem_append_right _ h9)
set_option maxHeartbeats 4000000 in
set_option maxRecDepth 100000 in
theorem met_fold (x1 : Int32) (x2 : Int32) : mg_MI yX12_fold wsX12_fold rm_fold (fun ad => [.ref (ad 0), .int x1, .int x2]) (fun Q h => wp_fold Q x1 x2 h) := by
  refine mg_startI (cc := cX12_fold) (maxL := 6) (by decide) rfl rfl (fun ad => Nat.le_of_ble_eq_true rfl) (fun X Q h C hnL E hw => ?_)
  unfold wp_fold at hw
  refine mg_sub (lv2 := [(0, .ref (mg_ad X 0)), (1, .int x1), (2, .int x2)]) [0, 1, 2] rfl ?_
  refine mg_use (hw (fun (y3 : Int32) (y4 : Int32) (h : mg_H) => mg_W X 10 [(0, .ref (mg_ad X 0)), (1, .int x1), (2, .int x2), (3, .int y3), (4, .int y4)] [] h) (fun (y3 : Int32) (y4 : Int32) (h : mg_H) => mg_W X 67 [(0, .ref (mg_ad X 0)), (1, .int x1), (2, .int x2), (3, .int y3), (4, .int y4)] [] h) (fun (y4 : Int32) (y5 : Int32) (h : mg_H) => mg_W X 58 [(0, .ref (mg_ad X 0)), (1, .int x1), (2, .int x2), (4, .int y4), (5, .int y5)] [] h) ?_ ?_ ?_) (fun hF => ?_)
  · intro y3 y4 h hF
    refine mg_iload (pc := 10) C dX12_fold_10 4 rfl ?_
    refine mg_bipush (pc := 12) (v := 16) C dX12_fold_12 (by decide) ?_
    refine mg_icmp_ge (pc := 14) 73 C dX12_fold_14 (by decide) (fun hc => ?_) (fun hc => ?_)
    · have hF := hF.1 hc
      refine mg_iload_n (pc := 73) C dX12_fold_73 3 rfl ?_
      exact mg_retI (pc := 74) C E dX12_fold_74 hF
    · have hF := hF.2 hc
      refine mg_aload_n (pc := 17) C dX12_fold_17 0 rfl ?_
      refine mg_getr (pc := 18) C inm_fold 50 (by decide) (by decide) dX12_fold_18 (List.mem_of_getElem? (i := 2) rfl) ?_
      refine mg_iload_n (pc := 21) C dX12_fold_21 1 rfl ?_
      refine mg_iload (pc := 22) C dX12_fold_22 4 rfl ?_
      refine mg_iadd (pc := 24) C dX12_fold_24 ?_
      obtain ⟨hi, hF⟩ := hF
      refine mg_iald (pc := 25) C (by decide) rfl hi dX12_fold_25 ?_
      refine mg_topi (pc := 26) (fun z2 ez2 => ?_)
      have hF := hF z2 ez2
      refine mg_istore (pc := 26) (lv2 := [(5, .int z2), (0, .ref (mg_ad X 0)), (1, .int x1), (2, .int x2), (3, .int y3), (4, .int y4)]) C dX12_fold_26 6 hnL (by decide) rfl ?_
      refine mg_iload (pc := 28) C dX12_fold_28 0 rfl ?_
      refine mg_iconst (pc := 30) (v := (-1)) C dX12_fold_30 (by decide) ?_
      refine mg_icmp_eq (pc := 31) 67 C dX12_fold_31 (by decide) (fun hc => ?_) (fun hc => ?_)
      · have hF := hF.1 hc
        refine mg_sub (lv2 := [(0, .ref (mg_ad X 0)), (1, .int x1), (2, .int x2), (3, .int y3), (4, .int y4)]) [1, 2, 3, 4, 5] rfl ?_
        exact hF
      · have hF := hF.2 hc
        refine mg_iload_n (pc := 34) C dX12_fold_34 4 rfl ?_
        refine mg_iconst (pc := 35) (v := (-1)) C dX12_fold_35 (by decide) ?_
        refine mg_icmp_eq (pc := 36) 58 C dX12_fold_36 (by decide) (fun hc => ?_) (fun hc => ?_)
        · have hF := hF.1 hc
          refine mg_sub (lv2 := [(0, .ref (mg_ad X 0)), (1, .int x1), (2, .int x2), (4, .int y4), (5, .int z2)]) [1, 2, 3, 5, 0] rfl ?_
          exact hF
        · have hF := hF.2 hc
          refine mg_iload_n (pc := 39) C dX12_fold_39 3 rfl ?_
          refine mg_if_eq (pc := 40) 52 C dX12_fold_40 (by decide) (fun hc => ?_) (fun hc => ?_)
          · have hF := hF.1 hc
            refine mg_iload (pc := 52) C dX12_fold_52 0 rfl ?_
            refine mg_iload_n (pc := 54) C dX12_fold_54 4 rfl ?_
            refine mg_icmp_ge (pc := 55) 67 C dX12_fold_55 (by decide) (fun hc => ?_) (fun hc => ?_)
            · have hF := hF.1 hc
              refine mg_sub (lv2 := [(0, .ref (mg_ad X 0)), (1, .int x1), (2, .int x2), (3, .int y3), (4, .int y4)]) [1, 2, 3, 4, 5] rfl ?_
              exact hF
            · have hF := hF.2 hc
              refine mg_sub (lv2 := [(0, .ref (mg_ad X 0)), (1, .int x1), (2, .int x2), (4, .int y4), (5, .int z2)]) [1, 2, 3, 5, 0] rfl ?_
              exact hF
          · have hF := hF.2 hc
            refine mg_iload (pc := 43) C dX12_fold_43 0 rfl ?_
            refine mg_iload_n (pc := 45) C dX12_fold_45 4 rfl ?_
            refine mg_icmp_le (pc := 46) 67 C dX12_fold_46 (by decide) (fun hc => ?_) (fun hc => ?_)
            · have hF := hF.1 hc
              refine mg_sub (lv2 := [(0, .ref (mg_ad X 0)), (1, .int x1), (2, .int x2), (3, .int y3), (4, .int y4)]) [1, 2, 3, 4, 5] rfl ?_
              exact hF
            · have hF := hF.2 hc
              refine mg_goto (pc := 49) 58 C dX12_fold_49 (by decide) ?_
              refine mg_sub (lv2 := [(0, .ref (mg_ad X 0)), (1, .int x1), (2, .int x2), (4, .int y4), (5, .int z2)]) [1, 2, 3, 5, 0] rfl ?_
              exact hF
  · intro y3 y4 h hF
    obtain ⟨z3, ez3⟩ : ∃ y : Int32, y = y4 + 1 := ⟨_, rfl⟩
    have hF := hF z3 ez3
    refine mg_iinc (pc := 67) (v := z3) (lv2 := [(4, .int z3), (0, .ref (mg_ad X 0)), (1, .int x1), (2, .int x2), (3, .int y3)]) C dX12_fold_67 4 rfl (by rw [ez3]; rfl) 6 hnL (by decide) rfl ?_
    refine mg_goto (pc := 70) 10 C dX12_fold_70 (by decide) ?_
    refine mg_sub (lv2 := [(0, .ref (mg_ad X 0)), (1, .int x1), (2, .int x2), (3, .int y3), (4, .int z3)]) [1, 2, 3, 4, 0] rfl ?_
    exact hF
  · intro y4 y5 h hF
    refine mg_iload (pc := 58) C dX12_fold_58 4 rfl ?_
    refine mg_istore_n (pc := 60) (lv2 := [(3, .int y5), (0, .ref (mg_ad X 0)), (1, .int x1), (2, .int x2), (4, .int y4), (5, .int y5)]) C dX12_fold_60 6 hnL (by decide) rfl ?_
    refine mg_aload_n (pc := 61) C dX12_fold_61 1 rfl ?_
    refine mg_iload (pc := 62) C dX12_fold_62 4 rfl ?_
    refine mg_puti (pc := 64) C inm_fold 51 (by decide) rfl (by decide) dX12_fold_64 (List.mem_of_getElem? (i := 1) rfl) rfl (tyX12_ok 51 (by decide)) (fun h4 eh4 => ?_)
    have hF := hF h4 eh4
    refine mg_sub (lv2 := [(0, .ref (mg_ad X 0)), (1, .int x1), (2, .int x2), (3, .int y5), (4, .int y4)]) [1, 2, 3, 0, 4] rfl ?_
    exact hF
  · skip
    refine mg_iconst (pc := 0) (v := (-1)) C dX12_fold_0 (by decide) ?_
    refine mg_istore_n (pc := 1) (lv2 := [(3, .int (-1)), (0, .ref (mg_ad X 0)), (1, .int x1), (2, .int x2)]) C dX12_fold_1 6 hnL (by decide) rfl ?_
    refine mg_aload_n (pc := 2) C dX12_fold_2 1 rfl ?_
    refine mg_iconst (pc := 3) (v := (-1)) C dX12_fold_3 (by decide) ?_
    refine mg_puti (pc := 4) C inm_fold 51 (by decide) rfl (by decide) dX12_fold_4 (List.mem_of_getElem? (i := 1) rfl) rfl (tyX12_ok 51 (by decide)) (fun h1 eh1 => ?_)
    have hF := hF h1 eh1
    refine mg_iconst (pc := 7) (v := 0) C dX12_fold_7 (by decide) ?_
    refine mg_istore (pc := 8) (lv2 := [(4, .int 0), (3, .int (-1)), (0, .ref (mg_ad X 0)), (1, .int x1), (2, .int x2)]) C dX12_fold_8 6 hnL (by decide) rfl ?_
    refine mg_sub (lv2 := [(0, .ref (mg_ad X 0)), (1, .int x1), (2, .int x2), (3, .int (-1)), (4, .int 0)]) [2, 3, 4, 1, 0] rfl ?_
    exact hF
def rm_duel : Room := { frames := 3, cells := 0, slots := 0, locals := 75 }
theorem nd_duel : yX12_duel.cls = RX12 ∧ yX12_duel.cls ≠ "java/lang/invoke/MethodHandle" ∧ yX12_duel.cls ≠ "java/lang/invoke/VarHandle" ∧ (parseMethodDescriptor yX12_duel.desc).map (fun d => d.parameters.length) = some 3 := by decide +kernel
theorem inm_duel : ∀ w ∈ wsX120, w ∈ wsX12_duel := fun _ h9 => List.mem_cons_of_mem _ (List.mem_append_right _ h9)
set_option maxHeartbeats 4000000 in
set_option maxRecDepth 100000 in
theorem met_duel (x1 : Int32) (x2 : Int32) (x3 : Int32) : mg_MI yX12_duel wsX12_duel rm_duel (fun ad => [.ref (ad 0), .int x1, .int x2, .int x3]) (fun Q h => wp_duel Q x1 x2 x3 h) := by
  refine mg_startI (cc := cX12_duel) (maxL := 7) (by decide) rfl rfl (fun ad => Nat.le_of_ble_eq_true rfl) (fun X Q h C hnL E hw => ?_)
  unfold wp_duel at hw
  refine mg_sub (lv2 := [(0, .ref (mg_ad X 0)), (1, .int x1), (2, .int x2), (3, .int x3)]) [0, 1, 2, 3] rfl ?_
  refine mg_use (hw (fun (y4 : Int32) (y5 : Int32) (h : mg_H) => mg_W X 34 [(0, .ref (mg_ad X 0)), (2, .int x2), (3, .int x3), (4, .int y4), (5, .int y5)] [] h) (fun (y4 : Int32) (y5 : Int32) (h : mg_H) => mg_W X 71 [(0, .ref (mg_ad X 0)), (3, .int x3), (4, .int y4), (5, .int y5)] [] h) (fun (y4 : Int32) (y5 : Int32) (y6 : Int32) (h : mg_H) => mg_W X 86 [(0, .ref (mg_ad X 0)), (3, .int x3), (4, .int y4), (5, .int y5), (6, .int y6)] [] h) (fun (y4 : Int32) (y5 : Int32) (y6 : Int32) (s0 : Int32) (s1 : Int32) (s3 : Int32) (h : mg_H) => mg_W X 117 [(0, .ref (mg_ad X 0)), (3, .int x3), (4, .int y4), (5, .int y5), (6, .int y6)] [.int s0, .int s1, .ref (mg_ad X 0), .int s3, .ref (mg_ad X 50)] h) ?_ ?_ ?_ ?_) (fun hF => ?_)
  · intro y4 y5 h hF
    refine mg_iload (pc := 34) C dX12_duel_34 4 rfl ?_
    refine mg_iload (pc := 36) C dX12_duel_36 3 rfl ?_
    refine mg_icmp_ge (pc := 38) 61 C dX12_duel_38 (by decide) (fun hc => ?_) (fun hc => ?_)
    · have hF := hF.1 hc
      refine mg_aload_n (pc := 61) C dX12_duel_61 0 rfl ?_
      refine mg_iconst (pc := 62) (v := (-1)) C dX12_duel_62 (by decide) ?_
      refine mg_puti (pc := 63) C inm_duel 51 (by decide) rfl (by decide) dX12_duel_63 (List.mem_of_getElem? (i := 3) rfl) rfl (tyX12_ok 51 (by decide)) (fun h8 eh8 => ?_)
      have hF := hF h8 eh8
      refine mg_iload_n (pc := 66) C dX12_duel_66 1 rfl ?_
      refine mg_iconst (pc := 67) (v := 1) C dX12_duel_67 (by decide) ?_
      refine mg_isub (pc := 68) C dX12_duel_68 ?_
      refine mg_topi (pc := 69) (fun z9 ez9 => ?_)
      have hF := hF z9 ez9
      refine mg_istore (pc := 69) (lv2 := [(5, .int z9), (0, .ref (mg_ad X 0)), (2, .int x2), (3, .int x3), (4, .int y4)]) C dX12_duel_69 7 hnL (by decide) rfl ?_
      refine mg_sub (lv2 := [(0, .ref (mg_ad X 0)), (3, .int x3), (4, .int y4), (5, .int z9)]) [1, 3, 4, 0] rfl ?_
      exact hF
    · have hF := hF.2 hc
      refine mg_aload_n (pc := 41) C dX12_duel_41 0 rfl ?_
      refine mg_getr (pc := 42) C inm_duel 50 (by decide) (by decide) dX12_duel_42 (List.mem_of_getElem? (i := 2) rfl) ?_
      refine mg_iload (pc := 45) C dX12_duel_45 4 rfl ?_
      refine mg_aload_n (pc := 47) C dX12_duel_47 0 rfl ?_
      refine mg_iload_n (pc := 48) C dX12_duel_48 1 rfl ?_
      refine mg_iload (pc := 49) C dX12_duel_49 4 rfl ?_
      refine mg_cvI (pc := 51) C (fun ad => [.int x2, .int y5]) (met_endOf x2 y5) gX12_duel_X12_endOf rfl ⟨rfl, rfl⟩ nd_endOf ⟨Nat.le_of_ble_eq_true rfl, Nat.le_of_ble_eq_true rfl⟩ rfl rfl (Nat.le_of_ble_eq_true rfl) dX12_duel_51 hF (fun r11 h10 hF => ?_)
      obtain ⟨hi, hF⟩ := hF
      refine mg_iast (pc := 54) C (by decide) rfl hi dX12_duel_54 (fun h12 eh12 => ?_)
      have hF := hF h12 eh12
      obtain ⟨z13, ez13⟩ : ∃ y : Int32, y = y5 + 1 := ⟨_, rfl⟩
      have hF := hF z13 ez13
      refine mg_iinc (pc := 55) (v := z13) (lv2 := [(5, .int z13), (0, .ref (mg_ad X 0)), (2, .int x2), (3, .int x3), (4, .int y4)]) C dX12_duel_55 4 rfl (by rw [ez13]; rfl) 7 hnL (by decide) rfl ?_
      refine mg_goto (pc := 58) 34 C dX12_duel_58 (by decide) ?_
      refine mg_sub (lv2 := [(0, .ref (mg_ad X 0)), (2, .int x2), (3, .int x3), (4, .int y4), (5, .int z13)]) [1, 2, 3, 4, 0] rfl ?_
      exact hF
  · intro y4 y5 h hF
    refine mg_iload (pc := 71) C dX12_duel_71 3 rfl ?_
    refine mg_if_lt (pc := 73) 133 C dX12_duel_73 (by decide) (fun hc => ?_) (fun hc => ?_)
    · have hF := hF.1 hc
      refine mg_iload_n (pc := 133) C dX12_duel_133 1 rfl ?_
      refine mg_if_eq (pc := 134) 144 C dX12_duel_134 (by decide) (fun hc => ?_) (fun hc => ?_)
      · have hF := hF.1 hc
        refine mg_aload_n (pc := 144) C dX12_duel_144 0 rfl ?_
        refine mg_getr (pc := 145) C inm_duel 50 (by decide) (by decide) dX12_duel_145 (List.mem_of_getElem? (i := 2) rfl) ?_
        refine mg_iconst (pc := 148) (v := 0) C dX12_duel_148 (by decide) ?_
        obtain ⟨hi, hF⟩ := hF
        refine mg_iald (pc := 149) C (by decide) rfl hi dX12_duel_149 ?_
        exact mg_retI (pc := 150) C E dX12_duel_150 hF
      · have hF := hF.2 hc
        refine mg_aload_n (pc := 137) C dX12_duel_137 0 rfl ?_
        refine mg_geti (pc := 138) C inm_duel 51 (by decide) rfl (by decide) dX12_duel_138 (List.mem_of_getElem? (i := 3) rfl) ?_
        refine mg_goto (pc := 141) 150 C dX12_duel_141 (by decide) ?_
        exact mg_retI (pc := 150) C E dX12_duel_150 hF
    · have hF := hF.2 hc
      refine mg_iload (pc := 76) C dX12_duel_76 2 rfl ?_
      refine mg_bipush (pc := 78) (v := 16) C dX12_duel_78 (by decide) ?_
      refine mg_idiv (pc := 80) C dX12_duel_80 (by decide) ?_
      refine mg_topi (pc := 81) (fun z14 ez14 => ?_)
      have hF := hF z14 ez14
      refine mg_istore (pc := 81) (lv2 := [(4, .int z14), (0, .ref (mg_ad X 0)), (3, .int x3), (5, .int y5)]) C dX12_duel_81 7 hnL (by decide) rfl ?_
      refine mg_iconst (pc := 83) (v := 0) C dX12_duel_83 (by decide) ?_
      refine mg_istore (pc := 84) (lv2 := [(6, .int 0), (4, .int z14), (0, .ref (mg_ad X 0)), (3, .int x3), (5, .int y5)]) C dX12_duel_84 7 hnL (by decide) rfl ?_
      refine mg_sub (lv2 := [(0, .ref (mg_ad X 0)), (3, .int x3), (4, .int z14), (5, .int y5), (6, .int 0)]) [2, 3, 1, 4, 0] rfl ?_
      exact hF
  · intro y4 y5 y6 h hF
    refine mg_iload (pc := 86) C dX12_duel_86 4 rfl ?_
    refine mg_iload (pc := 88) C dX12_duel_88 2 rfl ?_
    refine mg_icmp_ge (pc := 90) 127 C dX12_duel_90 (by decide) (fun hc => ?_) (fun hc => ?_)
    · have hF := hF.1 hc
      obtain ⟨z15, ez15⟩ : ∃ y : Int32, y = y5 + (-1) := ⟨_, rfl⟩
      have hF := hF z15 ez15
      refine mg_iinc (pc := 127) (v := z15) (lv2 := [(5, .int z15), (0, .ref (mg_ad X 0)), (3, .int x3), (4, .int y4), (6, .int y6)]) C dX12_duel_127 3 rfl (by rw [ez15]; rfl) 7 hnL (by decide) rfl ?_
      refine mg_goto (pc := 130) 71 C dX12_duel_130 (by decide) ?_
      refine mg_sub (lv2 := [(0, .ref (mg_ad X 0)), (3, .int x3), (4, .int y4), (5, .int z15)]) [1, 2, 3, 0] rfl ?_
      exact hF
    · have hF := hF.2 hc
      refine mg_aload_n (pc := 93) C dX12_duel_93 0 rfl ?_
      refine mg_getr (pc := 94) C inm_duel 50 (by decide) (by decide) dX12_duel_94 (List.mem_of_getElem? (i := 2) rfl) ?_
      refine mg_iload (pc := 97) C dX12_duel_97 4 rfl ?_
      refine mg_aload_n (pc := 99) C dX12_duel_99 0 rfl ?_
      refine mg_bipush (pc := 100) (v := 16) C dX12_duel_100 (by decide) ?_
      refine mg_iload (pc := 102) C dX12_duel_102 4 rfl ?_
      refine mg_imul (pc := 104) C dX12_duel_104 ?_
      refine mg_iload (pc := 105) C dX12_duel_105 3 rfl ?_
      refine mg_iconst (pc := 107) (v := 2) C dX12_duel_107 (by decide) ?_
      refine mg_irem (pc := 108) C dX12_duel_108 (by decide) ?_
      refine mg_if_ne (pc := 109) 116 C dX12_duel_109 (by decide) (fun hc => ?_) (fun hc => ?_)
      · have hF := hF.1 hc
        refine mg_iconst (pc := 116) (v := 0) C dX12_duel_116 (by decide) ?_
        exact hF
      · have hF := hF.2 hc
        refine mg_iconst (pc := 112) (v := 1) C dX12_duel_112 (by decide) ?_
        refine mg_goto (pc := 113) 117 C dX12_duel_113 (by decide) ?_
        exact hF
  · intro y4 y5 y6 s0 s1 s3 h hF
    refine mg_cvI (pc := 117) C (fun ad => [.int s1, .int s0]) (met_fold s1 s0) gX12_duel_X12_fold rfl ⟨rfl, rfl⟩ nd_fold ⟨Nat.le_of_ble_eq_true rfl, Nat.le_of_ble_eq_true rfl⟩ rfl rfl (Nat.le_of_ble_eq_true rfl) dX12_duel_117 hF (fun r17 h16 hF => ?_)
    obtain ⟨hi, hF⟩ := hF
    refine mg_iast (pc := 120) C (by decide) rfl hi dX12_duel_120 (fun h18 eh18 => ?_)
    have hF := hF h18 eh18
    obtain ⟨z19, ez19⟩ : ∃ y : Int32, y = y6 + 1 := ⟨_, rfl⟩
    have hF := hF z19 ez19
    refine mg_iinc (pc := 121) (v := z19) (lv2 := [(6, .int z19), (0, .ref (mg_ad X 0)), (3, .int x3), (4, .int y4), (5, .int y5)]) C dX12_duel_121 4 rfl (by rw [ez19]; rfl) 7 hnL (by decide) rfl ?_
    refine mg_goto (pc := 124) 86 C dX12_duel_124 (by decide) ?_
    refine mg_sub (lv2 := [(0, .ref (mg_ad X 0)), (3, .int x3), (4, .int y4), (5, .int y5), (6, .int z19)]) [1, 2, 3, 4, 0] rfl ?_
    exact hF
  · skip
    refine mg_aload_n (pc := 0) C dX12_duel_0 0 rfl ?_
    refine mg_iconst (pc := 1) (v := 0) C dX12_duel_1 (by decide) ?_
    refine mg_puti (pc := 2) C inm_duel 0 (by decide) rfl (by decide) dX12_duel_2 (List.mem_of_getElem? (i := 1) rfl) rfl (tyX12_ok 0 (by decide)) (fun h1 eh1 => ?_)
    have hF := hF h1 eh1
    refine mg_iload_n (pc := 5) C dX12_duel_5 2 rfl ?_
    refine mg_iconst (pc := 6) (v := 0) C dX12_duel_6 (by decide) ?_
    refine mg_iconst (pc := 7) (v := 4) C dX12_duel_7 (by decide) ?_
    refine mg_csI (pc := 8) C (fun ad => [.int x2, .int 0, .int 4]) (met_in x2 0 4) gX12_duel_X12_in rfl ⟨rfl, rfl⟩ nd_in.2 ⟨Nat.le_of_ble_eq_true rfl, Nat.le_of_ble_eq_true rfl⟩ rfl rfl (Nat.le_of_ble_eq_true rfl) dX12_duel_8 hF (fun r3 h2 hF => ?_)
    refine mg_if_eq (pc := 11) 22 C dX12_duel_11 (by decide) (fun hc => ?_) (fun hc => ?_)
    · have hF := hF.1 hc
      refine mg_bipush (pc := 22) (v := (-9)) C dX12_duel_22 (by decide) ?_
      exact mg_retI (pc := 24) C E dX12_duel_24 hF
    · have hF := hF.2 hc
      refine mg_aload_n (pc := 14) C dX12_duel_14 0 rfl ?_
      refine mg_iload_n (pc := 15) C dX12_duel_15 1 rfl ?_
      refine mg_cvI (pc := 16) C (fun ad => [.int x1]) (met_hand x1) gX12_duel_X12_hand rfl ⟨rfl, rfl⟩ nd_hand ⟨Nat.le_of_ble_eq_true rfl, Nat.le_of_ble_eq_true rfl⟩ rfl rfl (Nat.le_of_ble_eq_true rfl) dX12_duel_16 hF (fun r5 h4 hF => ?_)
      refine mg_if_ne (pc := 19) 25 C dX12_duel_19 (by decide) (fun hc => ?_) (fun hc => ?_)
      · have hF := hF.1 hc
        refine mg_iload_n (pc := 25) C dX12_duel_25 2 rfl ?_
        refine mg_csI (pc := 26) C (fun ad => [.int x2]) (met_sixteens x2) gX12_duel_X12_sixteens rfl ⟨rfl, rfl⟩ nd_sixteens.2 ⟨Nat.le_of_ble_eq_true rfl, Nat.le_of_ble_eq_true rfl⟩ rfl rfl (Nat.le_of_ble_eq_true rfl) dX12_duel_26 hF (fun r7 h6 hF => ?_)
        refine mg_istore (pc := 29) (lv2 := [(4, .int r7), (0, .ref (mg_ad X 0)), (1, .int x1), (2, .int x2), (3, .int x3)]) C dX12_duel_29 7 hnL (by decide) rfl ?_
        refine mg_iconst (pc := 31) (v := 0) C dX12_duel_31 (by decide) ?_
        refine mg_istore (pc := 32) (lv2 := [(5, .int 0), (4, .int r7), (0, .ref (mg_ad X 0)), (1, .int x1), (2, .int x2), (3, .int x3)]) C dX12_duel_32 7 hnL (by decide) rfl ?_
        refine mg_sub (lv2 := [(0, .ref (mg_ad X 0)), (2, .int x2), (3, .int x3), (4, .int r7), (5, .int 0)]) [2, 4, 5, 1, 0] rfl ?_
        exact hF
      · have hF := hF.2 hc
        refine mg_bipush (pc := 22) (v := (-9)) C dX12_duel_22 (by decide) ?_
        exact mg_retI (pc := 24) C E dX12_duel_24 hF
def rm_chance : Room := { frames := 3, cells := 0, slots := 0, locals := 65 }
theorem nd_chance : yX12_chance.cls = RX12 ∧ yX12_chance.cls ≠ "java/lang/invoke/MethodHandle" ∧ yX12_chance.cls ≠ "java/lang/invoke/VarHandle" ∧ (parseMethodDescriptor yX12_chance.desc).map (fun d => d.parameters.length) = some 4 := by decide +kernel
theorem inm_chance : ∀ w ∈ wsX120, w ∈ wsX12_chance := fun _ h9 => List.mem_cons_of_mem _ (List.mem_append_right _ h9)
set_option maxHeartbeats 4000000 in
set_option maxRecDepth 100000 in
theorem met_chance (x1 : Int32) (x2 : Int32) (x3 : Int32) (x4 : Int32) : mg_MI yX12_chance wsX12_chance rm_chance (fun ad => [.ref (ad 0), .int x1, .int x2, .int x3, .int x4]) (fun Q h => wp_chance Q x1 x2 x3 x4 h) := by
  refine mg_startI (cc := cX12_chance) (maxL := 10) (by decide) rfl rfl (fun ad => Nat.le_of_ble_eq_true rfl) (fun X Q h C hnL E hw => ?_)
  unfold wp_chance at hw
  refine mg_sub (lv2 := [(0, .ref (mg_ad X 0)), (1, .int x1), (2, .int x2), (3, .int x3), (4, .int x4)]) [0, 1, 2, 3, 4] rfl ?_
  refine mg_use (hw (fun (y5 : Int32) (y6 : Int32) (y7 : Int32) (h : mg_H) => mg_W X 44 [(0, .ref (mg_ad X 0)), (2, .int x2), (3, .int x3), (4, .int x4), (5, .int y5), (6, .int y6), (7, .int y7)] [] h) (fun (y5 : Int32) (y6 : Int32) (y7 : Int32) (y8 : Int32) (y9 : Int32) (h : mg_H) => mg_W X 62 [(0, .ref (mg_ad X 0)), (2, .int x2), (3, .int x3), (4, .int x4), (5, .int y5), (6, .int y6), (7, .int y7), (8, .int y8), (9, .int y9)] [] h) (fun (y6 : Int32) (y7 : Int32) (s0 : Int32) (s1 : Int32) (h : mg_H) => mg_W X 129 [(0, .ref (mg_ad X 0)), (2, .int x2), (3, .int x3), (4, .int x4), (6, .int y6), (7, .int y7)] [.int s0, .int s1] h) (fun (y5 : Int32) (y6 : Int32) (y7 : Int32) (y9 : Int32) (s0 : Int32) (s1 : Int32) (h : mg_H) => mg_W X 91 [(0, .ref (mg_ad X 0)), (2, .int x2), (3, .int x3), (4, .int x4), (5, .int y5), (6, .int y6), (7, .int y7), (9, .int y9)] [.int s0, .int s1] h) ?_ ?_ ?_ ?_) (fun hF => ?_)
  · intro y5 y6 y7 h hF
    refine mg_iload (pc := 44) C dX12_chance_44 6 rfl ?_
    refine mg_aload_n (pc := 46) C dX12_chance_46 0 rfl ?_
    refine mg_geti (pc := 47) C inm_chance 25 (by decide) rfl (by decide) dX12_chance_47 (List.mem_of_getElem? (i := 2) rfl) ?_
    refine mg_icmp_gt (pc := 50) 138 C dX12_chance_50 (by decide) (fun hc => ?_) (fun hc => ?_)
    · have hF := hF.1 hc
      refine mg_iload (pc := 138) C dX12_chance_138 4 rfl ?_
      refine mg_i2l (pc := 140) C dX12_chance_140 ?_
      refine mg_iload (pc := 141) C dX12_chance_141 5 rfl ?_
      refine mg_i2l (pc := 143) C dX12_chance_143 ?_
      refine mg_iload (pc := 144) C dX12_chance_144 3 rfl ?_
      refine mg_csL (pc := 146) C (fun ad => [.long (y5.toInt64), .long (y6.toInt64), .int x4]) (met_partL (y5.toInt64) (y6.toInt64) x4) gX12_chance_X12_partL rfl ⟨rfl, rfl⟩ nd_partL.2 ⟨Nat.le_of_ble_eq_true rfl, Nat.le_of_ble_eq_true rfl⟩ rfl rfl (Nat.le_of_ble_eq_true rfl) dX12_chance_146 hF (fun r9 h8 hF => ?_)
      refine mg_l2i (pc := 149) C dX12_chance_149 ?_
      exact mg_retI (pc := 150) C E dX12_chance_150 hF
    · have hF := hF.2 hc
      refine mg_iconst (pc := 53) (v := 1) C dX12_chance_53 (by decide) ?_
      refine mg_istore (pc := 54) (lv2 := [(8, .int 1), (0, .ref (mg_ad X 0)), (2, .int x2), (3, .int x3), (4, .int x4), (5, .int y5), (6, .int y6), (7, .int y7)]) C dX12_chance_54 10 hnL (by decide) rfl ?_
      refine mg_iconst (pc := 56) (v := 1) C dX12_chance_56 (by decide) ?_
      refine mg_istore (pc := 57) (lv2 := [(6, .int 1), (8, .int 1), (0, .ref (mg_ad X 0)), (2, .int x2), (3, .int x3), (4, .int x4), (5, .int y5), (7, .int y7)]) C dX12_chance_57 10 hnL (by decide) rfl ?_
      refine mg_iconst (pc := 59) (v := 0) C dX12_chance_59 (by decide) ?_
      refine mg_istore (pc := 60) (lv2 := [(9, .int 0), (6, .int 1), (8, .int 1), (0, .ref (mg_ad X 0)), (2, .int x2), (3, .int x3), (4, .int x4), (5, .int y5), (7, .int y7)]) C dX12_chance_60 10 hnL (by decide) rfl ?_
      refine mg_sub (lv2 := [(0, .ref (mg_ad X 0)), (2, .int x2), (3, .int x3), (4, .int x4), (5, .int y5), (6, .int 1), (7, .int y7), (8, .int 1), (9, .int 0)]) [3, 4, 5, 6, 7, 1, 8, 2, 0] rfl ?_
      exact hF
  · intro y5 y6 y7 y8 y9 h hF
    refine mg_iload (pc := 62) C dX12_chance_62 8 rfl ?_
    refine mg_aload_n (pc := 64) C dX12_chance_64 0 rfl ?_
    refine mg_geti (pc := 65) C inm_chance 24 (by decide) rfl (by decide) dX12_chance_65 (List.mem_of_getElem? (i := 3) rfl) ?_
    refine mg_icmp_ge (pc := 68) 107 C dX12_chance_68 (by decide) (fun hc => ?_) (fun hc => ?_)
    · have hF := hF.1 hc
      refine mg_iload (pc := 107) C dX12_chance_107 4 rfl ?_
      refine mg_aload_n (pc := 109) C dX12_chance_109 0 rfl ?_
      refine mg_aload_n (pc := 110) C dX12_chance_110 0 rfl ?_
      refine mg_geti (pc := 111) C inm_chance 26 (by decide) rfl (by decide) dX12_chance_111 (List.mem_of_getElem? (i := 4) rfl) ?_
      refine mg_iload (pc := 114) C dX12_chance_114 6 rfl ?_
      refine mg_cvI (pc := 116) C (fun ad => [.int (mg_i h 0 26), .int y7]) (met_next (mg_i h 0 26) y7) gX12_chance_X12_next rfl ⟨rfl, rfl⟩ nd_next ⟨Nat.le_of_ble_eq_true rfl, Nat.le_of_ble_eq_true rfl⟩ rfl rfl (Nat.le_of_ble_eq_true rfl) dX12_chance_116 hF (fun r11 h10 hF => ?_)
      refine mg_iload_n (pc := 119) C dX12_chance_119 2 rfl ?_
      refine mg_icmp_ne (pc := 120) 128 C dX12_chance_120 (by decide) (fun hc => ?_) (fun hc => ?_)
      · have hF := hF.1 hc
        refine mg_iconst (pc := 128) (v := 0) C dX12_chance_128 (by decide) ?_
        refine mg_sub (lv2 := [(0, .ref (mg_ad X 0)), (2, .int x2), (3, .int x3), (4, .int x4), (6, .int y6), (7, .int y7)]) [0, 1, 2, 3, 5, 6] rfl ?_
        exact hF
      · have hF := hF.2 hc
        refine mg_iload (pc := 123) C dX12_chance_123 7 rfl ?_
        refine mg_goto (pc := 125) 129 C dX12_chance_125 (by decide) ?_
        refine mg_sub (lv2 := [(0, .ref (mg_ad X 0)), (2, .int x2), (3, .int x3), (4, .int x4), (6, .int y6), (7, .int y7)]) [0, 1, 2, 3, 5, 6] rfl ?_
        exact hF
    · have hF := hF.2 hc
      refine mg_iload (pc := 71) C dX12_chance_71 7 rfl ?_
      refine mg_iload (pc := 73) C dX12_chance_73 6 rfl ?_
      refine mg_iload (pc := 75) C dX12_chance_75 8 rfl ?_
      refine mg_csI (pc := 77) C (fun ad => [.int y7, .int y9]) (met_has y7 y9) gX12_chance_X12_has rfl ⟨rfl, rfl⟩ nd_has.2 ⟨Nat.le_of_ble_eq_true rfl, Nat.le_of_ble_eq_true rfl⟩ rfl rfl (Nat.le_of_ble_eq_true rfl) dX12_chance_77 hF (fun r13 h12 hF => ?_)
      refine mg_if_eq (pc := 80) 87 C dX12_chance_80 (by decide) (fun hc => ?_) (fun hc => ?_)
      · have hF := hF.1 hc
        refine mg_bipush (pc := 87) (v := 10) C dX12_chance_87 (by decide) ?_
        refine mg_iload_n (pc := 89) C dX12_chance_89 1 rfl ?_
        refine mg_isub (pc := 90) C dX12_chance_90 ?_
        refine mg_sub (lv2 := [(0, .ref (mg_ad X 0)), (2, .int x2), (3, .int x3), (4, .int x4), (5, .int y5), (6, .int y6), (7, .int y7), (9, .int y9)]) [0, 1, 2, 3, 4, 5, 6, 8] rfl ?_
        exact hF
      · have hF := hF.2 hc
        refine mg_iload_n (pc := 83) C dX12_chance_83 1 rfl ?_
        refine mg_goto (pc := 84) 91 C dX12_chance_84 (by decide) ?_
        refine mg_sub (lv2 := [(0, .ref (mg_ad X 0)), (2, .int x2), (3, .int x3), (4, .int x4), (5, .int y5), (6, .int y6), (7, .int y7), (9, .int y9)]) [0, 1, 2, 3, 4, 5, 6, 8] rfl ?_
        exact hF
  · intro y6 y7 s0 s1 h hF
    refine mg_iadd (pc := 129) C dX12_chance_129 ?_
    refine mg_topi (pc := 130) (fun z14 ez14 => ?_)
    have hF := hF z14 ez14
    refine mg_istore (pc := 130) (lv2 := [(5, .int z14), (0, .ref (mg_ad X 0)), (2, .int x2), (3, .int x3), (4, .int x4), (6, .int y6), (7, .int y7)]) C dX12_chance_130 10 hnL (by decide) rfl ?_
    obtain ⟨z15, ez15⟩ : ∃ y : Int32, y = y7 + 1 := ⟨_, rfl⟩
    have hF := hF z15 ez15
    refine mg_iinc (pc := 132) (v := z15) (lv2 := [(7, .int z15), (5, .int z14), (0, .ref (mg_ad X 0)), (2, .int x2), (3, .int x3), (4, .int x4), (6, .int y6)]) C dX12_chance_132 6 rfl (by rw [ez15]; rfl) 10 hnL (by decide) rfl ?_
    refine mg_goto (pc := 135) 44 C dX12_chance_135 (by decide) ?_
    refine mg_sub (lv2 := [(0, .ref (mg_ad X 0)), (2, .int x2), (3, .int x3), (4, .int x4), (5, .int z14), (6, .int y6), (7, .int z15)]) [2, 3, 4, 5, 1, 6, 0] rfl ?_
    exact hF
  · intro y5 y6 y7 y9 s0 s1 h hF
    refine mg_imul (pc := 91) C dX12_chance_91 ?_
    refine mg_topi (pc := 92) (fun z16 ez16 => ?_)
    have hF := hF z16 ez16
    refine mg_istore (pc := 92) (lv2 := [(8, .int z16), (0, .ref (mg_ad X 0)), (2, .int x2), (3, .int x3), (4, .int x4), (5, .int y5), (6, .int y6), (7, .int y7), (9, .int y9)]) C dX12_chance_92 10 hnL (by decide) rfl ?_
    refine mg_iload (pc := 94) C dX12_chance_94 6 rfl ?_
    refine mg_bipush (pc := 96) (v := 10) C dX12_chance_96 (by decide) ?_
    refine mg_imul (pc := 98) C dX12_chance_98 ?_
    refine mg_topi (pc := 99) (fun z17 ez17 => ?_)
    have hF := hF z17 ez17
    refine mg_istore (pc := 99) (lv2 := [(6, .int z17), (8, .int z16), (0, .ref (mg_ad X 0)), (2, .int x2), (3, .int x3), (4, .int x4), (5, .int y5), (7, .int y7), (9, .int y9)]) C dX12_chance_99 10 hnL (by decide) rfl ?_
    obtain ⟨z18, ez18⟩ : ∃ y : Int32, y = y9 + 1 := ⟨_, rfl⟩
    have hF := hF z18 ez18
    refine mg_iinc (pc := 101) (v := z18) (lv2 := [(9, .int z18), (6, .int z17), (8, .int z16), (0, .ref (mg_ad X 0)), (2, .int x2), (3, .int x3), (4, .int x4), (5, .int y5), (7, .int y7)]) C dX12_chance_101 8 rfl (by rw [ez18]; rfl) 10 hnL (by decide) rfl ?_
    refine mg_goto (pc := 104) 62 C dX12_chance_104 (by decide) ?_
    refine mg_sub (lv2 := [(0, .ref (mg_ad X 0)), (2, .int x2), (3, .int x3), (4, .int x4), (5, .int y5), (6, .int z17), (7, .int y7), (8, .int z16), (9, .int z18)]) [3, 4, 5, 6, 7, 1, 8, 2, 0] rfl ?_
    exact hF
  · skip
    refine mg_aload_n (pc := 0) C dX12_chance_0 0 rfl ?_
    refine mg_iconst (pc := 1) (v := 0) C dX12_chance_1 (by decide) ?_
    refine mg_puti (pc := 2) C inm_chance 0 (by decide) rfl (by decide) dX12_chance_2 (List.mem_of_getElem? (i := 1) rfl) rfl (tyX12_ok 0 (by decide)) (fun h1 eh1 => ?_)
    have hF := hF h1 eh1
    refine mg_iload_n (pc := 5) C dX12_chance_5 2 rfl ?_
    refine mg_iconst (pc := 6) (v := 0) C dX12_chance_6 (by decide) ?_
    refine mg_bipush (pc := 7) (v := 10) C dX12_chance_7 (by decide) ?_
    refine mg_csI (pc := 9) C (fun ad => [.int x2, .int 0, .int 10]) (met_in x2 0 10) gX12_chance_X12_in rfl ⟨rfl, rfl⟩ nd_in.2 ⟨Nat.le_of_ble_eq_true rfl, Nat.le_of_ble_eq_true rfl⟩ rfl rfl (Nat.le_of_ble_eq_true rfl) dX12_chance_9 hF (fun r3 h2 hF => ?_)
    refine mg_if_eq (pc := 12) 33 C dX12_chance_12 (by decide) (fun hc => ?_) (fun hc => ?_)
    · have hF := hF.1 hc
      refine mg_iconst (pc := 33) (v := (-1)) C dX12_chance_33 (by decide) ?_
      exact mg_retI (pc := 34) C E dX12_chance_34 hF
    · have hF := hF.2 hc
      refine mg_iload_n (pc := 15) C dX12_chance_15 3 rfl ?_
      refine mg_iconst (pc := 16) (v := 0) C dX12_chance_16 (by decide) ?_
      refine mg_bipush (pc := 17) (v := 7) C dX12_chance_17 (by decide) ?_
      refine mg_csI (pc := 19) C (fun ad => [.int x3, .int 0, .int 7]) (met_in x3 0 7) gX12_chance_X12_in rfl ⟨rfl, rfl⟩ nd_in.2 ⟨Nat.le_of_ble_eq_true rfl, Nat.le_of_ble_eq_true rfl⟩ rfl rfl (Nat.le_of_ble_eq_true rfl) dX12_chance_19 hF (fun r5 h4 hF => ?_)
      refine mg_if_eq (pc := 22) 33 C dX12_chance_22 (by decide) (fun hc => ?_) (fun hc => ?_)
      · have hF := hF.1 hc
        refine mg_iconst (pc := 33) (v := (-1)) C dX12_chance_33 (by decide) ?_
        exact mg_retI (pc := 34) C E dX12_chance_34 hF
      · have hF := hF.2 hc
        refine mg_aload_n (pc := 25) C dX12_chance_25 0 rfl ?_
        refine mg_iload_n (pc := 26) C dX12_chance_26 1 rfl ?_
        refine mg_cvI (pc := 27) C (fun ad => [.int x1]) (met_hand x1) gX12_chance_X12_hand rfl ⟨rfl, rfl⟩ nd_hand ⟨Nat.le_of_ble_eq_true rfl, Nat.le_of_ble_eq_true rfl⟩ rfl rfl (Nat.le_of_ble_eq_true rfl) dX12_chance_27 hF (fun r7 h6 hF => ?_)
        refine mg_if_ne (pc := 30) 35 C dX12_chance_30 (by decide) (fun hc => ?_) (fun hc => ?_)
        · have hF := hF.1 hc
          refine mg_iconst (pc := 35) (v := 0) C dX12_chance_35 (by decide) ?_
          refine mg_istore (pc := 36) (lv2 := [(5, .int 0), (0, .ref (mg_ad X 0)), (1, .int x1), (2, .int x2), (3, .int x3), (4, .int x4)]) C dX12_chance_36 10 hnL (by decide) rfl ?_
          refine mg_iconst (pc := 38) (v := 1) C dX12_chance_38 (by decide) ?_
          refine mg_istore (pc := 39) (lv2 := [(6, .int 1), (5, .int 0), (0, .ref (mg_ad X 0)), (1, .int x1), (2, .int x2), (3, .int x3), (4, .int x4)]) C dX12_chance_39 10 hnL (by decide) rfl ?_
          refine mg_iconst (pc := 41) (v := 0) C dX12_chance_41 (by decide) ?_
          refine mg_istore (pc := 42) (lv2 := [(7, .int 0), (6, .int 1), (5, .int 0), (0, .ref (mg_ad X 0)), (1, .int x1), (2, .int x2), (3, .int x3), (4, .int x4)]) C dX12_chance_42 10 hnL (by decide) rfl ?_
          refine mg_sub (lv2 := [(0, .ref (mg_ad X 0)), (2, .int x2), (3, .int x3), (4, .int x4), (5, .int 0), (6, .int 1), (7, .int 0)]) [3, 5, 6, 7, 2, 1, 0] rfl ?_
          exact hF
        · have hF := hF.2 hc
          refine mg_iconst (pc := 33) (v := (-1)) C dX12_chance_33 (by decide) ?_
          exact mg_retI (pc := 34) C E dX12_chance_34 hF
def rm_facts : Room := { frames := 0, cells := 0, slots := 0, locals := 0 }
theorem nd_facts : yX12_facts.cls = RX12 ∧ yX12_facts.cls ≠ "java/lang/invoke/MethodHandle" ∧ yX12_facts.cls ≠ "java/lang/invoke/VarHandle" ∧ (parseMethodDescriptor yX12_facts.desc).map (fun d => d.parameters.length) = some 0 := by decide +kernel
theorem inm_facts : ∀ w ∈ wsX120, w ∈ wsX12_facts := fun _ h9 => List.mem_cons_of_mem _ (List.mem_append_right _ h9)
set_option maxHeartbeats 4000000 in
set_option maxRecDepth 100000 in
theorem met_facts : mg_MI yX12_facts wsX12_facts rm_facts (fun ad => [.ref (ad 0)]) (fun Q h => wp_facts Q h) := by
  refine mg_startI (cc := cX12_facts) (maxL := 1) (by decide) rfl rfl (fun ad => Nat.le_of_ble_eq_true rfl) (fun X Q h C hnL E hw => ?_)
  unfold wp_facts at hw
  refine mg_sub (lv2 := [(0, .ref (mg_ad X 0))]) [0] rfl ?_
  have hF := hw
  refine mg_aload_n (pc := 0) C dX12_facts_0 0 rfl ?_
  refine mg_getr (pc := 1) C inm_facts 8 (by decide) (by decide) dX12_facts_1 (List.mem_of_getElem? (i := 1) rfl) ?_
  refine mg_bipush (pc := 4) (v := 17) C dX12_facts_4 (by decide) ?_
  refine mg_aload_n (pc := 6) C dX12_facts_6 0 rfl ?_
  refine mg_geti (pc := 7) C inm_facts 52 (by decide) rfl (by decide) dX12_facts_7 (List.mem_of_getElem? (i := 2) rfl) ?_
  refine mg_imul (pc := 10) C dX12_facts_10 ?_
  obtain ⟨hi, hF⟩ := hF
  refine mg_iald (pc := 11) C (by decide) rfl hi dX12_facts_11 ?_
  exact mg_retI (pc := 12) C E dX12_facts_12 hF
def rm_factOf : Room := { frames := 0, cells := 0, slots := 0, locals := 0 }
theorem nd_factOf : yX12_factOf.cls = RX12 ∧ yX12_factOf.cls ≠ "java/lang/invoke/MethodHandle" ∧ yX12_factOf.cls ≠ "java/lang/invoke/VarHandle" ∧ (parseMethodDescriptor yX12_factOf.desc).map (fun d => d.parameters.length) = some 2 := by decide +kernel
theorem inm_factOf : ∀ w ∈ wsX120, w ∈ wsX12_factOf := fun _ h9 => List.mem_cons_of_mem _ (List.mem_append_right _ h9)
set_option maxHeartbeats 4000000 in
set_option maxRecDepth 100000 in
theorem met_factOf (x1 : Int32) (x2 : Int32) : mg_MI yX12_factOf wsX12_factOf rm_factOf (fun ad => [.ref (ad 0), .int x1, .int x2]) (fun Q h => wp_factOf Q x1 x2 h) := by
  refine mg_startI (cc := cX12_factOf) (maxL := 3) (by decide) rfl rfl (fun ad => Nat.le_of_ble_eq_true rfl) (fun X Q h C hnL E hw => ?_)
  unfold wp_factOf at hw
  refine mg_sub (lv2 := [(0, .ref (mg_ad X 0)), (1, .int x1), (2, .int x2)]) [0, 1, 2] rfl ?_
  have hF := hw
  refine mg_aload_n (pc := 0) C dX12_factOf_0 0 rfl ?_
  refine mg_getr (pc := 1) C inm_factOf 8 (by decide) (by decide) dX12_factOf_1 (List.mem_of_getElem? (i := 1) rfl) ?_
  refine mg_bipush (pc := 4) (v := 17) C dX12_factOf_4 (by decide) ?_
  refine mg_aload_n (pc := 6) C dX12_factOf_6 0 rfl ?_
  refine mg_geti (pc := 7) C inm_factOf 52 (by decide) rfl (by decide) dX12_factOf_7 (List.mem_of_getElem? (i := 2) rfl) ?_
  refine mg_imul (pc := 10) C dX12_factOf_10 ?_
  refine mg_iconst (pc := 11) (v := 1) C dX12_factOf_11 (by decide) ?_
  refine mg_iadd (pc := 12) C dX12_factOf_12 ?_
  refine mg_iconst (pc := 13) (v := 2) C dX12_factOf_13 (by decide) ?_
  refine mg_iload_n (pc := 14) C dX12_factOf_14 1 rfl ?_
  refine mg_imul (pc := 15) C dX12_factOf_15 ?_
  refine mg_iadd (pc := 16) C dX12_factOf_16 ?_
  refine mg_iload_n (pc := 17) C dX12_factOf_17 2 rfl ?_
  refine mg_iadd (pc := 18) C dX12_factOf_18 ?_
  obtain ⟨hi, hF⟩ := hF
  refine mg_iald (pc := 19) C (by decide) rfl hi dX12_factOf_19 ?_
  exact mg_retI (pc := 20) C E dX12_factOf_20 hF
def rm_hasLog : Room := { frames := 2, cells := 0, slots := 0, locals := 44 }
theorem nd_hasLog : yX12_hasLog.cls = RX12 ∧ yX12_hasLog.cls ≠ "java/lang/invoke/MethodHandle" ∧ yX12_hasLog.cls ≠ "java/lang/invoke/VarHandle" ∧ (parseMethodDescriptor yX12_hasLog.desc).map (fun d => d.parameters.length) = some 1 := by decide +kernel
theorem inm_hasLog : ∀ w ∈ wsX120, w ∈ wsX12_hasLog := fun _ h9 => List.mem_cons_of_mem _ (List.mem_append_right _ h9)
set_option maxHeartbeats 4000000 in
set_option maxRecDepth 100000 in
theorem met_hasLog (x1 : Int32) : mg_MI yX12_hasLog wsX12_hasLog rm_hasLog (fun ad => [.ref (ad 0), .int x1]) (fun Q h => wp_hasLog Q x1 h) := by
  refine mg_startI (cc := cX12_hasLog) (maxL := 2) (by decide) rfl rfl (fun ad => Nat.le_of_ble_eq_true rfl) (fun X Q h C hnL E hw => ?_)
  unfold wp_hasLog at hw
  refine mg_sub (lv2 := [(0, .ref (mg_ad X 0)), (1, .int x1)]) [0, 1] rfl ?_
  have hF := hw
  refine mg_aload_n (pc := 0) C dX12_hasLog_0 0 rfl ?_
  refine mg_iload_n (pc := 1) C dX12_hasLog_1 1 rfl ?_
  refine mg_puti (pc := 2) C inm_hasLog 52 (by decide) rfl (by decide) dX12_hasLog_2 (List.mem_of_getElem? (i := 1) rfl) rfl (tyX12_ok 52 (by decide)) (fun h1 eh1 => ?_)
  have hF := hF h1 eh1
  refine mg_aload_n (pc := 5) C dX12_hasLog_5 0 rfl ?_
  refine mg_iconst (pc := 6) (v := 2) C dX12_hasLog_6 (by decide) ?_
  refine mg_iload_n (pc := 7) C dX12_hasLog_7 1 rfl ?_
  refine mg_cvI (pc := 8) C (fun ad => [.int 2, .int x1]) (met_is 2 x1) gX12_hasLog_X12_is rfl ⟨rfl, rfl⟩ nd_is ⟨Nat.le_of_ble_eq_true rfl, Nat.le_of_ble_eq_true rfl⟩ rfl rfl (Nat.le_of_ble_eq_true rfl) dX12_hasLog_8 hF (fun r3 h2 hF => ?_)
  exact mg_retZ (pc := 11) C E hF.1 dX12_hasLog_11 hF.2
def rm_fact : Room := { frames := 3, cells := 0, slots := 0, locals := 65 }
theorem nd_fact : yX12_fact.cls = RX12 ∧ yX12_fact.cls ≠ "java/lang/invoke/MethodHandle" ∧ yX12_fact.cls ≠ "java/lang/invoke/VarHandle" ∧ (parseMethodDescriptor yX12_fact.desc).map (fun d => d.parameters.length) = some 3 := by decide +kernel
theorem inm_fact : ∀ w ∈ wsX120, w ∈ wsX12_fact := fun _ h9 => List.mem_cons_of_mem _ (List.mem_append_right _ h9)
set_option maxHeartbeats 4000000 in
set_option maxRecDepth 100000 in
theorem met_fact (x1 : Int32) (x2 : Int32) (x3 : Int32) : mg_MI yX12_fact wsX12_fact rm_fact (fun ad => [.ref (ad 0), .int x1, .int x2, .int x3]) (fun Q h => wp_fact Q x1 x2 x3 h) := by
  refine mg_startI (cc := cX12_fact) (maxL := 4) (by decide) rfl rfl (fun ad => Nat.le_of_ble_eq_true rfl) (fun X Q h C hnL E hw => ?_)
  unfold wp_fact at hw
  refine mg_sub (lv2 := [(0, .ref (mg_ad X 0)), (1, .int x1), (2, .int x2), (3, .int x3)]) [0, 1, 2, 3] rfl ?_
  have hF := hw
  refine mg_aload_n (pc := 0) C dX12_fact_0 0 rfl ?_
  refine mg_iconst (pc := 1) (v := 0) C dX12_fact_1 (by decide) ?_
  refine mg_puti (pc := 2) C inm_fact 0 (by decide) rfl (by decide) dX12_fact_2 (List.mem_of_getElem? (i := 1) rfl) rfl (tyX12_ok 0 (by decide)) (fun h1 eh1 => ?_)
  have hF := hF h1 eh1
  refine mg_aload_n (pc := 5) C dX12_fact_5 0 rfl ?_
  refine mg_iload_n (pc := 6) C dX12_fact_6 1 rfl ?_
  refine mg_cvI (pc := 7) C (fun ad => [.int x1]) (met_hasLog x1) gX12_fact_X12_hasLog rfl ⟨rfl, rfl⟩ nd_hasLog ⟨Nat.le_of_ble_eq_true rfl, Nat.le_of_ble_eq_true rfl⟩ rfl rfl (Nat.le_of_ble_eq_true rfl) dX12_fact_7 hF (fun r3 h2 hF => ?_)
  refine mg_if_ne (pc := 10) 16 C dX12_fact_10 (by decide) (fun hc => ?_) (fun hc => ?_)
  · have hF := hF.1 hc
    refine mg_iload_n (pc := 16) C dX12_fact_16 2 rfl ?_
    refine mg_iconst (pc := 17) (v := (-1)) C dX12_fact_17 (by decide) ?_
    refine mg_icmp_ne (pc := 18) 35 C dX12_fact_18 (by decide) (fun hc => ?_) (fun hc => ?_)
    · have hF := hF.1 hc
      refine mg_iload_n (pc := 35) C dX12_fact_35 2 rfl ?_
      refine mg_iconst (pc := 36) (v := 0) C dX12_fact_36 (by decide) ?_
      refine mg_aload_n (pc := 37) C dX12_fact_37 0 rfl ?_
      refine mg_cvI (pc := 38) C (fun ad => []) (met_facts) gX12_fact_X12_facts rfl ⟨rfl, rfl⟩ nd_facts ⟨Nat.le_of_ble_eq_true rfl, Nat.le_of_ble_eq_true rfl⟩ rfl rfl (Nat.le_of_ble_eq_true rfl) dX12_fact_38 hF (fun r5 h4 hF => ?_)
      refine mg_iconst (pc := 41) (v := 1) C dX12_fact_41 (by decide) ?_
      refine mg_isub (pc := 42) C dX12_fact_42 ?_
      refine mg_csI (pc := 43) C (fun ad => [.int x2, .int 0, .int (r5 - 1)]) (met_in x2 0 (r5 - 1)) gX12_fact_X12_in rfl ⟨rfl, rfl⟩ nd_in.2 ⟨Nat.le_of_ble_eq_true rfl, Nat.le_of_ble_eq_true rfl⟩ rfl rfl (Nat.le_of_ble_eq_true rfl) dX12_fact_43 hF (fun r7 h6 hF => ?_)
      refine mg_if_eq (pc := 46) 67 C dX12_fact_46 (by decide) (fun hc => ?_) (fun hc => ?_)
      · have hF := hF.1 hc
        refine mg_bipush (pc := 67) (v := (-2)) C dX12_fact_67 (by decide) ?_
        exact mg_retI (pc := 69) C E dX12_fact_69 hF
      · have hF := hF.2 hc
        refine mg_iload_n (pc := 49) C dX12_fact_49 3 rfl ?_
        refine mg_iconst (pc := 50) (v := 0) C dX12_fact_50 (by decide) ?_
        refine mg_iconst (pc := 51) (v := 1) C dX12_fact_51 (by decide) ?_
        refine mg_csI (pc := 52) C (fun ad => [.int x3, .int 0, .int 1]) (met_in x3 0 1) gX12_fact_X12_in rfl ⟨rfl, rfl⟩ nd_in.2 ⟨Nat.le_of_ble_eq_true rfl, Nat.le_of_ble_eq_true rfl⟩ rfl rfl (Nat.le_of_ble_eq_true rfl) dX12_fact_52 hF (fun r9 h8 hF => ?_)
        refine mg_if_eq (pc := 55) 67 C dX12_fact_55 (by decide) (fun hc => ?_) (fun hc => ?_)
        · have hF := hF.1 hc
          refine mg_bipush (pc := 67) (v := (-2)) C dX12_fact_67 (by decide) ?_
          exact mg_retI (pc := 69) C E dX12_fact_69 hF
        · have hF := hF.2 hc
          refine mg_aload_n (pc := 58) C dX12_fact_58 0 rfl ?_
          refine mg_iload_n (pc := 59) C dX12_fact_59 2 rfl ?_
          refine mg_iload_n (pc := 60) C dX12_fact_60 3 rfl ?_
          refine mg_cvI (pc := 61) C (fun ad => [.int x2, .int x3]) (met_factOf x2 x3) gX12_fact_X12_factOf rfl ⟨rfl, rfl⟩ nd_factOf ⟨Nat.le_of_ble_eq_true rfl, Nat.le_of_ble_eq_true rfl⟩ rfl rfl (Nat.le_of_ble_eq_true rfl) dX12_fact_61 hF (fun r11 h10 hF => ?_)
          refine mg_goto (pc := 64) 69 C dX12_fact_64 (by decide) ?_
          exact mg_retI (pc := 69) C E dX12_fact_69 hF
    · have hF := hF.2 hc
      refine mg_iload_n (pc := 21) C dX12_fact_21 3 rfl ?_
      refine mg_if_ne (pc := 22) 32 C dX12_fact_22 (by decide) (fun hc => ?_) (fun hc => ?_)
      · have hF := hF.1 hc
        refine mg_bipush (pc := 32) (v := (-2)) C dX12_fact_32 (by decide) ?_
        exact mg_retI (pc := 34) C E dX12_fact_34 hF
      · have hF := hF.2 hc
        refine mg_aload_n (pc := 25) C dX12_fact_25 0 rfl ?_
        refine mg_cvI (pc := 26) C (fun ad => []) (met_facts) gX12_fact_X12_facts rfl ⟨rfl, rfl⟩ nd_facts ⟨Nat.le_of_ble_eq_true rfl, Nat.le_of_ble_eq_true rfl⟩ rfl rfl (Nat.le_of_ble_eq_true rfl) dX12_fact_26 hF (fun r13 h12 hF => ?_)
        refine mg_goto (pc := 29) 34 C dX12_fact_29 (by decide) ?_
        exact mg_retI (pc := 34) C E dX12_fact_34 hF
  · have hF := hF.2 hc
    refine mg_bipush (pc := 13) (v := (-2)) C dX12_fact_13 (by decide) ?_
    exact mg_retI (pc := 15) C E dX12_fact_15 hF
