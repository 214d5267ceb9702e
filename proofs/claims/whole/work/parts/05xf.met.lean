def rm_X6_take : Room := { frames := 0, cells := 0, slots := 0, locals := 0 }
theorem nd_X6_take : yX6_take.cls = RX6 ∧ yX6_take.cls ≠ "java/lang/invoke/MethodHandle" ∧ yX6_take.cls ≠ "java/lang/invoke/VarHandle" ∧ (parseMethodDescriptor yX6_take.desc).map (fun d => d.parameters.length) = some 1 := by decide +kernel
theorem inm_X6_take_6 : ∀ w ∈ u_ws RX6 TX6 (xg_N 6), w ∈ wsX6_take := fun _ h9 => List.mem_cons_of_mem _ (List.mem_append_left _ (List.mem_append_right _ h9))
theorem inm_X6_take_8 : ∀ w ∈ u_ws RX8 TX8 (xg_N 8), w ∈ wsX6_take := fun _ h9 => List.mem_cons_of_mem _ (List.mem_append_right _ h9)
set_option maxHeartbeats 4000000 in
set_option maxRecDepth 100000 in
theorem met_X6_take (Y : xg_Y) (this : Nat) (x1 : Int32) : xg_MV yX6_take wsX6_take rm_X6_take Y (fun zs => [va_rf (some this), .int x1]) (fun Q h => wp_X6_take Y Q this x1 h) := by
  refine xg_startV (cc := cX6_take) (maxL := 4) (own := RX6) (by decide) rfl rfl (fun zs => Nat.le_of_ble_eq_true rfl) (fun X Q h C hnL E hw => ?_)
  unfold wp_X6_take at hw
  obtain ⟨hthis, hw⟩ := hw
  refine xg_sub (lv2 := [(0, va_rf (some this)), (1, .int x1)]) [0, 1] rfl ?_
  refine mg_use (hw (fun (y2 : Int32) (y3 : Option Nat) (s0 : Int32) (s1 : Int32) (s2 : Option Nat) (h : xg_H) => xg_W X 0 0 Y 154 [(0, va_rf (some this)), (1, .int x1), (2, .int y2), (3, va_rf y3)] [.int s0, .int s1, va_rf s2] h) (fun (s0 : Int32) (s1 : Int32) (s2 : Option Nat) (h : xg_H) => xg_W X 0 0 Y 211 [] [.int s0, .int s1, va_rf s2] h) (fun (s0 : Int32) (s1 : Int32) (s2 : Option Nat) (h : xg_H) => xg_W X 0 0 Y 176 [] [.int s0, .int s1, va_rf s2] h) ?_ ?_ ?_) (fun hF => ?_)
  · intro y2 y3 s0 s1 s2 h hF
    obtain ⟨a21, ha21, hka21, hF⟩ := hF
    obtain ⟨hi, hF⟩ := hF
    refine xg_iast (pc := 154) C ha21 hka21 hi dX6_take_154 (fun h22 eh22 => ?_)
    have hF := hF h22 eh22
    refine xg_aload_n (pc := 155) C dX6_take_155 3 rfl ?_
    obtain ⟨a23, ha23, hka23, hF⟩ := hF
    refine xg_getr (pc := 156) (C1 := RX8) (T1 := TX8) (ci := 8) (ref := "SandGlasses$Text") C inm_X6_take_8 rfl (by decide) 2 (by decide) rfl dX6_take_156 (List.mem_of_getElem? (i := 8) rfl) rfl ha23 hka23 ?_
    refine xg_iload_n (pc := 159) C dX6_take_159 2 rfl ?_
    refine xg_iload_n (pc := 160) C dX6_take_160 1 rfl ?_
    refine xg_bipush (pc := 161) (v := 7) C dX6_take_161 (by decide) ?_
    refine xg_icmp_ne (pc := 163) 175 C dX6_take_163 (by decide) (fun hc => ?_) (fun hc => ?_)
    · have hF := hF.1 hc
      refine xg_iconst (pc := 175) (v := (-1)) C dX6_take_175 (by decide) ?_
      refine xg_sub (lv2 := []) [] rfl ?_
      exact hF
    · have hF := hF.2 hc
      refine xg_aload_n (pc := 166) C dX6_take_166 0 rfl ?_
      refine xg_getr (pc := 167) (C1 := RX6) (T1 := TX6) (ci := 6) (ref := "SandGlasses$Reader") C inm_X6_take_6 rfl (by decide) 4 (by decide) rfl dX6_take_167 (List.mem_of_getElem? (i := 2) rfl) rfl rfl hthis ?_
      refine xg_iconst (pc := 170) (v := 0) C dX6_take_170 (by decide) ?_
      obtain ⟨a24, ha24, hka24, hF⟩ := hF
      obtain ⟨hi, hF⟩ := hF
      refine xg_iald (pc := 171) C ha24 hka24 hi dX6_take_171 ?_
      refine xg_goto (pc := 172) 176 C dX6_take_172 (by decide) ?_
      refine xg_sub (lv2 := []) [] rfl ?_
      exact hF
  · intro s0 s1 s2 h hF
    obtain ⟨a25, ha25, hka25, hF⟩ := hF
    obtain ⟨hi, hF⟩ := hF
    refine xg_iast (pc := 211) C ha25 hka25 hi dX6_take_211 (fun h26 eh26 => ?_)
    have hF := hF h26 eh26
    exact xg_retV (pc := 212) C E dX6_take_212 hF
  · intro s0 s1 s2 h hF
    obtain ⟨a27, ha27, hka27, hF⟩ := hF
    obtain ⟨hi, hF⟩ := hF
    refine xg_iast (pc := 176) C ha27 hka27 hi dX6_take_176 (fun h28 eh28 => ?_)
    have hF := hF h28 eh28
    refine xg_goto (pc := 177) 212 C dX6_take_177 (by decide) ?_
    exact xg_retV (pc := 212) C E dX6_take_212 hF
  · skip
    refine xg_iload_n (pc := 0) C dX6_take_0 1 rfl ?_
    refine xg_iconst (pc := 1) (v := 1) C dX6_take_1 (by decide) ?_
    refine xg_icmp_ne (pc := 2) 44 C dX6_take_2 (by decide) (fun hc => ?_) (fun hc => ?_)
    · have hF := hF.1 hc
      refine xg_aload_n (pc := 44) C dX6_take_44 0 rfl ?_
      refine xg_geti (pc := 45) (C1 := RX6) (T1 := TX6) (ci := 6) (ref := "SandGlasses$Reader") C inm_X6_take_6 rfl (by decide) 9 (by decide) rfl dX6_take_45 (List.mem_of_getElem? (i := 4) rfl) rfl rfl hthis ?_
      refine xg_iconst (pc := 48) (v := 1) C dX6_take_48 (by decide) ?_
      refine xg_isub (pc := 49) C dX6_take_49 ?_
      refine xg_topi (pc := 50) (fun z1 ez1 => ?_)
      have hF := hF z1 ez1
      refine xg_istore_n (pc := 50) (lv2 := [(2, .int z1), (0, va_rf (some this)), (1, .int x1)]) C dX6_take_50 4 hnL (by decide) rfl ?_
      refine xg_aload_n (pc := 51) C dX6_take_51 1 rfl ?_
      refine xg_getr (pc := 52) (C1 := RX6) (T1 := TX6) (ci := 6) (ref := "SandGlasses$Reader") C inm_X6_take_6 rfl (by decide) 2 (by decide) rfl dX6_take_52 (List.mem_of_getElem? (i := 5) rfl) rfl rfl hthis ?_
      refine xg_aload_n (pc := 55) C dX6_take_55 1 rfl ?_
      refine xg_geti (pc := 56) (C1 := RX6) (T1 := TX6) (ci := 6) (ref := "SandGlasses$Reader") C inm_X6_take_6 rfl (by decide) 8 (by decide) rfl dX6_take_56 (List.mem_of_getElem? (i := 6) rfl) rfl rfl hthis ?_
      obtain ⟨a2, ha2, hka2, hF⟩ := hF
      obtain ⟨hi, hF⟩ := hF
      refine xg_aald (pc := 59) (c9 := 27) (C9 := "SandGlasses$Text") C ha2 hka2 (by decide) rfl hi dX6_take_59 ?_
      refine xg_topr (pc := 60) (fun z3 ez3 => ?_)
      have hF := hF z3 ez3
      refine xg_astore_n (pc := 60) (lv2 := [(3, va_rf z3), (2, .int z1), (0, va_rf (some this)), (1, .int x1)]) C dX6_take_60 4 hnL (by decide) rfl ?_
      refine xg_iload_n (pc := 61) C dX6_take_61 1 rfl ?_
      refine xg_if_lt (pc := 62) 74 C dX6_take_62 (by decide) (fun hc => ?_) (fun hc => ?_)
      · have hF := hF.1 hc
        exact xg_retV (pc := 74) C E dX6_take_74 hF
      · have hF := hF.2 hc
        refine xg_iload_n (pc := 65) C dX6_take_65 1 rfl ?_
        refine xg_aload_n (pc := 66) C dX6_take_66 0 rfl ?_
        obtain ⟨a4, ha4, hka4, hF⟩ := hF
        refine xg_getr (pc := 67) (C1 := RX8) (T1 := TX8) (ci := 8) (ref := "SandGlasses$Text") C inm_X6_take_8 rfl (by decide) 1 (by decide) rfl dX6_take_67 (List.mem_of_getElem? (i := 7) rfl) rfl ha4 hka4 ?_
        obtain ⟨a5, ha5, hka5, hF⟩ := hF
        refine xg_alen (pc := 70) (c9 := 22) C ha5 hka5 (by decide) dX6_take_70 ?_
        refine xg_icmp_lt (pc := 71) 75 C dX6_take_71 (by decide) (fun hc => ?_) (fun hc => ?_)
        · have hF := hF.1 hc
          refine xg_aload_n (pc := 75) C dX6_take_75 2 rfl ?_
          refine xg_geti (pc := 76) (C1 := RX6) (T1 := TX6) (ci := 6) (ref := "SandGlasses$Reader") C inm_X6_take_6 rfl (by decide) 8 (by decide) rfl dX6_take_76 (List.mem_of_getElem? (i := 6) rfl) rfl rfl hthis ?_
          refine xg_topi (pc := 79) (fun z6 ez6 => ?_)
          have hF := hF z6 ez6
          by_cases hs0 : z6 = 1
          · have hF := hF.1 hs0
            refine xg_look (pc := 79) 104 C dX6_take_79 (by decide) (off := 25) (by rw [hs0]; rfl) (by decide) ?_
            refine xg_aload_n (pc := 104) C dX6_take_104 0 rfl ?_
            refine xg_getr (pc := 105) (C1 := RX8) (T1 := TX8) (ci := 8) (ref := "SandGlasses$Text") C inm_X6_take_8 rfl (by decide) 1 (by decide) rfl dX6_take_105 (List.mem_of_getElem? (i := 7) rfl) rfl ha4 hka4 ?_
            refine xg_iload_n (pc := 108) C dX6_take_108 1 rfl ?_
            refine xg_iload_n (pc := 109) C dX6_take_109 3 rfl ?_
            refine xg_iconst (pc := 110) (v := 2) C dX6_take_110 (by decide) ?_
            refine xg_isub (pc := 111) C dX6_take_111 ?_
            obtain ⟨hi, hF⟩ := hF
            refine xg_iast (pc := 112) C ha5 hka5 hi dX6_take_112 (fun h7 eh7 => ?_)
            have hF := hF h7 eh7
            refine xg_aload_n (pc := 113) C dX6_take_113 0 rfl ?_
            refine xg_getr (pc := 114) (C1 := RX8) (T1 := TX8) (ci := 8) (ref := "SandGlasses$Text") C inm_X6_take_8 rfl (by decide) 2 (by decide) rfl dX6_take_114 (List.mem_of_getElem? (i := 8) rfl) rfl ha4 hka4 ?_
            refine xg_iload_n (pc := 117) C dX6_take_117 1 rfl ?_
            refine xg_aload_n (pc := 118) C dX6_take_118 2 rfl ?_
            refine xg_getr (pc := 119) (C1 := RX6) (T1 := TX6) (ci := 6) (ref := "SandGlasses$Reader") C inm_X6_take_6 rfl (by decide) 4 (by decide) rfl dX6_take_119 (List.mem_of_getElem? (i := 2) rfl) rfl rfl hthis ?_
            refine xg_iconst (pc := 122) (v := 0) C dX6_take_122 (by decide) ?_
            obtain ⟨a8, ha8, hka8, hF⟩ := hF
            obtain ⟨hi, hF⟩ := hF
            refine xg_iald (pc := 123) C ha8 hka8 hi dX6_take_123 ?_
            obtain ⟨a9, ha9, hka9, hF⟩ := hF
            obtain ⟨hi, hF⟩ := hF
            refine xg_iast (pc := 124) C ha9 hka9 hi dX6_take_124 (fun h10 eh10 => ?_)
            have hF := hF h10 eh10
            refine xg_goto (pc := 125) 212 C dX6_take_125 (by decide) ?_
            exact xg_retV (pc := 212) C E dX6_take_212 hF
          have hF := hF.2
          by_cases hs1 : z6 = 2
          · have hF := hF.1 hs1
            refine xg_look (pc := 79) 128 C dX6_take_79 (by decide) (off := 49) (by rw [hs1]; rfl) (by decide) ?_
            refine xg_aload_n (pc := 128) C dX6_take_128 0 rfl ?_
            refine xg_getr (pc := 129) (C1 := RX8) (T1 := TX8) (ci := 8) (ref := "SandGlasses$Text") C inm_X6_take_8 rfl (by decide) 1 (by decide) rfl dX6_take_129 (List.mem_of_getElem? (i := 7) rfl) rfl ha4 hka4 ?_
            refine xg_iload_n (pc := 132) C dX6_take_132 1 rfl ?_
            refine xg_iload_n (pc := 133) C dX6_take_133 3 rfl ?_
            refine xg_bipush (pc := 134) (v := 7) C dX6_take_134 (by decide) ?_
            refine xg_icmp_ne (pc := 136) 148 C dX6_take_136 (by decide) (fun hc => ?_) (fun hc => ?_)
            · have hF := hF.1 hc
              refine xg_aload_n (pc := 148) C dX6_take_148 2 rfl ?_
              refine xg_getr (pc := 149) (C1 := RX6) (T1 := TX6) (ci := 6) (ref := "SandGlasses$Reader") C inm_X6_take_6 rfl (by decide) 4 (by decide) rfl dX6_take_149 (List.mem_of_getElem? (i := 2) rfl) rfl rfl hthis ?_
              refine xg_iconst (pc := 152) (v := 0) C dX6_take_152 (by decide) ?_
              obtain ⟨a11, ha11, hka11, hF⟩ := hF
              obtain ⟨hi, hF⟩ := hF
              refine xg_iald (pc := 153) C ha11 hka11 hi dX6_take_153 ?_
              refine xg_sub (lv2 := [(0, va_rf (some this)), (1, .int x1), (2, .int z1), (3, va_rf z3)]) [2, 3, 1, 0] rfl ?_
              exact hF
            · have hF := hF.2 hc
              refine xg_aload_n (pc := 139) C dX6_take_139 2 rfl ?_
              refine xg_getr (pc := 140) (C1 := RX6) (T1 := TX6) (ci := 6) (ref := "SandGlasses$Reader") C inm_X6_take_6 rfl (by decide) 4 (by decide) rfl dX6_take_140 (List.mem_of_getElem? (i := 2) rfl) rfl rfl hthis ?_
              refine xg_iconst (pc := 143) (v := 1) C dX6_take_143 (by decide) ?_
              obtain ⟨a12, ha12, hka12, hF⟩ := hF
              obtain ⟨hi, hF⟩ := hF
              refine xg_iald (pc := 144) C ha12 hka12 hi dX6_take_144 ?_
              refine xg_goto (pc := 145) 154 C dX6_take_145 (by decide) ?_
              refine xg_sub (lv2 := [(0, va_rf (some this)), (1, .int x1), (2, .int z1), (3, va_rf z3)]) [2, 3, 1, 0] rfl ?_
              exact hF
          have hF := hF.2
          have hF := hF hs0 hs1
          refine xg_look (pc := 79) 180 C dX6_take_79 (by decide) (off := 101) (xg_lkd hs0 hs1) (by decide) ?_
          refine xg_aload_n (pc := 180) C dX6_take_180 0 rfl ?_
          refine xg_getr (pc := 181) (C1 := RX8) (T1 := TX8) (ci := 8) (ref := "SandGlasses$Text") C inm_X6_take_8 rfl (by decide) 1 (by decide) rfl dX6_take_181 (List.mem_of_getElem? (i := 7) rfl) rfl ha4 hka4 ?_
          refine xg_iload_n (pc := 184) C dX6_take_184 1 rfl ?_
          refine xg_aload_n (pc := 185) C dX6_take_185 2 rfl ?_
          refine xg_getr (pc := 186) (C1 := RX6) (T1 := TX6) (ci := 6) (ref := "SandGlasses$Reader") C inm_X6_take_6 rfl (by decide) 4 (by decide) rfl dX6_take_186 (List.mem_of_getElem? (i := 2) rfl) rfl rfl hthis ?_
          refine xg_iconst (pc := 189) (v := 0) C dX6_take_189 (by decide) ?_
          obtain ⟨a13, ha13, hka13, hF⟩ := hF
          obtain ⟨hi, hF⟩ := hF
          refine xg_iald (pc := 190) C ha13 hka13 hi dX6_take_190 ?_
          obtain ⟨hi, hF⟩ := hF
          refine xg_iast (pc := 191) C ha5 hka5 hi dX6_take_191 (fun h14 eh14 => ?_)
          have hF := hF h14 eh14
          refine xg_aload_n (pc := 192) C dX6_take_192 0 rfl ?_
          refine xg_getr (pc := 193) (C1 := RX8) (T1 := TX8) (ci := 8) (ref := "SandGlasses$Text") C inm_X6_take_8 rfl (by decide) 2 (by decide) rfl dX6_take_193 (List.mem_of_getElem? (i := 8) rfl) rfl ha4 hka4 ?_
          refine xg_iload_n (pc := 196) C dX6_take_196 1 rfl ?_
          refine xg_iload_n (pc := 197) C dX6_take_197 3 rfl ?_
          refine xg_if_ne (pc := 198) 210 C dX6_take_198 (by decide) (fun hc => ?_) (fun hc => ?_)
          · have hF := hF.1 hc
            refine xg_iconst (pc := 210) (v := 0) C dX6_take_210 (by decide) ?_
            refine xg_sub (lv2 := []) [] rfl ?_
            exact hF
          · have hF := hF.2 hc
            refine xg_aload_n (pc := 201) C dX6_take_201 2 rfl ?_
            refine xg_getr (pc := 202) (C1 := RX6) (T1 := TX6) (ci := 6) (ref := "SandGlasses$Reader") C inm_X6_take_6 rfl (by decide) 4 (by decide) rfl dX6_take_202 (List.mem_of_getElem? (i := 2) rfl) rfl rfl hthis ?_
            refine xg_iconst (pc := 205) (v := 1) C dX6_take_205 (by decide) ?_
            obtain ⟨a15, ha15, hka15, hF⟩ := hF
            obtain ⟨hi, hF⟩ := hF
            refine xg_iald (pc := 206) C ha15 hka15 hi dX6_take_206 ?_
            refine xg_goto (pc := 207) 211 C dX6_take_207 (by decide) ?_
            refine xg_sub (lv2 := []) [] rfl ?_
            exact hF
        · have hF := hF.2 hc
          exact xg_retV (pc := 74) C E dX6_take_74 hF
    · have hF := hF.2 hc
      refine xg_aload_n (pc := 5) C dX6_take_5 0 rfl ?_
      refine xg_getr (pc := 6) (C1 := RX6) (T1 := TX6) (ci := 6) (ref := "SandGlasses$Reader") C inm_X6_take_6 rfl (by decide) 3 (by decide) rfl dX6_take_6 (List.mem_of_getElem? (i := 1) rfl) rfl rfl hthis ?_
      refine xg_aload_n (pc := 9) C dX6_take_9 0 rfl ?_
      refine xg_getr (pc := 10) (C1 := RX6) (T1 := TX6) (ci := 6) (ref := "SandGlasses$Reader") C inm_X6_take_6 rfl (by decide) 4 (by decide) rfl dX6_take_10 (List.mem_of_getElem? (i := 2) rfl) rfl rfl hthis ?_
      refine xg_iconst (pc := 13) (v := 0) C dX6_take_13 (by decide) ?_
      obtain ⟨a16, ha16, hka16, hF⟩ := hF
      obtain ⟨hi, hF⟩ := hF
      refine xg_iald (pc := 14) C ha16 hka16 hi dX6_take_14 ?_
      refine xg_iconst (pc := 15) (v := 3) C dX6_take_15 (by decide) ?_
      refine xg_iand (pc := 16) C dX6_take_16 ?_
      refine xg_aload_n (pc := 17) C dX6_take_17 0 rfl ?_
      refine xg_getr (pc := 18) (C1 := RX6) (T1 := TX6) (ci := 6) (ref := "SandGlasses$Reader") C inm_X6_take_6 rfl (by decide) 4 (by decide) rfl dX6_take_18 (List.mem_of_getElem? (i := 2) rfl) rfl rfl hthis ?_
      refine xg_iconst (pc := 21) (v := 1) C dX6_take_21 (by decide) ?_
      obtain ⟨hi, hF⟩ := hF
      refine xg_iald (pc := 22) C ha16 hka16 hi dX6_take_22 ?_
      obtain ⟨a17, ha17, hka17, hF⟩ := hF
      obtain ⟨hi, hF⟩ := hF
      refine xg_iast (pc := 23) C ha17 hka17 hi dX6_take_23 (fun h18 eh18 => ?_)
      have hF := hF h18 eh18
      refine xg_aload_n (pc := 24) C dX6_take_24 0 rfl ?_
      refine xg_dup (pc := 25) C dX6_take_25 (xg_rf_cat _) ?_
      refine xg_geti (pc := 26) (C1 := RX6) (T1 := TX6) (ci := 6) (ref := "SandGlasses$Reader") C inm_X6_take_6 rfl (by decide) 10 (by decide) rfl dX6_take_26 (List.mem_of_getElem? (i := 3) rfl) rfl rfl hthis ?_
      refine xg_iconst (pc := 29) (v := 1) C dX6_take_29 (by decide) ?_
      refine xg_aload_n (pc := 30) C dX6_take_30 0 rfl ?_
      refine xg_getr (pc := 31) (C1 := RX6) (T1 := TX6) (ci := 6) (ref := "SandGlasses$Reader") C inm_X6_take_6 rfl (by decide) 4 (by decide) rfl dX6_take_31 (List.mem_of_getElem? (i := 2) rfl) rfl rfl hthis ?_
      refine xg_iconst (pc := 34) (v := 0) C dX6_take_34 (by decide) ?_
      obtain ⟨a19, ha19, hka19, hF⟩ := hF
      obtain ⟨hi, hF⟩ := hF
      refine xg_iald (pc := 35) C ha19 hka19 hi dX6_take_35 ?_
      refine xg_iconst (pc := 36) (v := 3) C dX6_take_36 (by decide) ?_
      refine xg_iand (pc := 37) C dX6_take_37 ?_
      refine xg_ishl (pc := 38) C dX6_take_38 ?_
      refine xg_ior (pc := 39) C dX6_take_39 ?_
      refine xg_puti (pc := 40) (C1 := RX6) (T1 := TX6) (ci := 6) (ref := "SandGlasses$Reader") C inm_X6_take_6 rfl (by decide) tyX6 tyX6_ok nmX6 10 (by decide) rfl dX6_take_40 (List.mem_of_getElem? (i := 3) rfl) rfl rfl (tyX6_ok 10 (by decide)) rfl hthis (fun h20 eh20 => ?_)
      have hF := hF h20 eh20
      exact xg_retV (pc := 43) C E dX6_take_43 hF
def rm_X6_readLine : Room := { frames := 6, cells := 0, slots := 0, locals := 130 }
theorem nd_X6_readLine : yX6_readLine.cls = RX6 ∧ yX6_readLine.cls ≠ "java/lang/invoke/MethodHandle" ∧ yX6_readLine.cls ≠ "java/lang/invoke/VarHandle" ∧ (parseMethodDescriptor yX6_readLine.desc).map (fun d => d.parameters.length) = some 0 := by decide +kernel
theorem inm_X6_readLine_6 : ∀ w ∈ u_ws RX6 TX6 (xg_N 6), w ∈ wsX6_readLine := fun _ h9 => List.mem_cons_of_mem _ (List.mem_append_left _ (List.mem_append_right _ h9))
set_option maxHeartbeats 4000000 in
set_option maxRecDepth 100000 in
theorem met_X6_readLine (Y : xg_Y) (this : Nat) : xg_MV yX6_readLine wsX6_readLine rm_X6_readLine Y (fun zs => [va_rf (some this)]) (fun Q h => wp_X6_readLine Y Q this h) := by
  refine xg_startV (cc := cX6_readLine) (maxL := 3) (own := RX6) (by decide) rfl rfl (fun zs => Nat.le_of_ble_eq_true rfl) (fun X Q h C hnL E hw => ?_)
  unfold wp_X6_readLine at hw
  obtain ⟨hthis, hw⟩ := hw
  refine xg_sub (lv2 := [(0, va_rf (some this))]) [0] rfl ?_
  refine mg_use (hw (fun (y1 : Int32) (h : xg_H) => xg_W X 0 0 Y 54 [(0, va_rf (some this)), (1, .int y1)] [] h) (fun (y1 : Int32) (y2 : Int32) (h : xg_H) => xg_W X 0 0 Y 68 [(0, va_rf (some this)), (1, .int y1), (2, .int y2)] [] h) (fun (h : xg_H) => xg_W X 0 0 Y 126 [(0, va_rf (some this))] [] h) ?_ ?_ ?_) (fun hF => ?_)
  · intro y1 h hF
    refine xg_aload_n (pc := 54) C dX6_readLine_54 0 rfl ?_
    refine xg_aload_n (pc := 55) C dX6_readLine_55 0 rfl ?_
    refine xg_bipush (pc := 56) (v := 97) C dX6_readLine_56 (by decide) ?_
    refine xg_bipush (pc := 58) (v := 122) C dX6_readLine_58 (by decide) ?_
    refine xg_cvI (pc := 60) (C1 := RX6) (T1 := TX6) (ci := 6) C (fun zs => [.int 97, .int 122]) rfl hthis (by decide) rfl (met_X6_rowEnd Y this 97 122) gX6_readLine_X6_rowEnd rfl ⟨rfl, rfl⟩ nd_X6_rowEnd ⟨Nat.le_of_ble_eq_true rfl, Nat.le_of_ble_eq_true rfl⟩ rfl rfl (Nat.le_of_ble_eq_true rfl) ⟨Nat.zero_le _, Nat.zero_le _⟩ dX6_readLine_60 hF (fun r7 h6 hF => ?_)
    refine xg_puti (pc := 63) (C1 := RX6) (T1 := TX6) (ci := 6) (ref := "SandGlasses$Reader") C inm_X6_readLine_6 rfl (by decide) tyX6 tyX6_ok nmX6 7 (by decide) rfl dX6_readLine_63 (List.mem_of_getElem? (i := 3) rfl) rfl rfl (tyX6_ok 7 (by decide)) rfl hthis (fun h8 eh8 => ?_)
    have hF := hF h8 eh8
    refine xg_iconst (pc := 66) (v := 0) C dX6_readLine_66 (by decide) ?_
    refine xg_istore_n (pc := 67) (lv2 := [(2, .int 0), (0, va_rf (some this)), (1, .int y1)]) C dX6_readLine_67 3 hnL (by decide) rfl ?_
    refine xg_sub (lv2 := [(0, va_rf (some this)), (1, .int y1), (2, .int 0)]) [1, 2, 0] rfl ?_
    exact hF
  · intro y1 y2 h hF
    refine xg_iload_n (pc := 68) C dX6_readLine_68 2 rfl ?_
    refine xg_gets (pc := 69) (ref := "SandGlasses$Reader") C 4 (by decide) dX6_readLine_69 (List.mem_of_getElem? (i := 4) rfl) rfl ?_
    refine xg_iload_n (pc := 72) C dX6_readLine_72 1 rfl ?_
    obtain ⟨hi, hF⟩ := hF
    refine xg_sld (pc := 73) C 4 (by decide) hi dX6_readLine_73 ?_
    refine xg_icmp_ge (pc := 74) 97 C dX6_readLine_74 (by decide) (fun hc => ?_) (fun hc => ?_)
    · have hF := hF.1 hc
      refine xg_aload_n (pc := 97) C dX6_readLine_97 0 rfl ?_
      refine xg_cvV (pc := 98) (C1 := RX6) (T1 := TX6) (ci := 6) C (fun zs => []) rfl hthis (by decide) rfl (met_X6_skipBlanks Y this) gX6_readLine_X6_skipBlanks rfl ⟨rfl, rfl⟩ nd_X6_skipBlanks ⟨Nat.le_of_ble_eq_true rfl, Nat.le_of_ble_eq_true rfl⟩ rfl rfl (Nat.le_of_ble_eq_true rfl) ⟨Nat.zero_le _, Nat.zero_le _⟩ dX6_readLine_98 hF (fun h9 hF => ?_)
      refine xg_aload_n (pc := 101) C dX6_readLine_101 0 rfl ?_
      refine xg_geti (pc := 102) (C1 := RX6) (T1 := TX6) (ci := 6) (ref := "SandGlasses$Reader") C inm_X6_readLine_6 rfl (by decide) 7 (by decide) rfl dX6_readLine_102 (List.mem_of_getElem? (i := 3) rfl) rfl rfl hthis ?_
      refine xg_aload_n (pc := 105) C dX6_readLine_105 0 rfl ?_
      refine xg_geti (pc := 106) (C1 := RX6) (T1 := TX6) (ci := 6) (ref := "SandGlasses$Reader") C inm_X6_readLine_6 rfl (by decide) 6 (by decide) rfl dX6_readLine_106 (List.mem_of_getElem? (i := 5) rfl) rfl rfl hthis ?_
      refine xg_icmp_ge (pc := 109) 126 C dX6_readLine_109 (by decide) (fun hc => ?_) (fun hc => ?_)
      · have hF := hF.1 hc
        refine xg_sub (lv2 := [(0, va_rf (some this))]) [0] rfl ?_
        exact hF
      · have hF := hF.2 hc
        refine xg_aload_n (pc := 112) C dX6_readLine_112 0 rfl ?_
        refine xg_getr (pc := 113) (C1 := RX6) (T1 := TX6) (ci := 6) (ref := "SandGlasses$Reader") C inm_X6_readLine_6 rfl (by decide) 5 (by decide) rfl dX6_readLine_113 (List.mem_of_getElem? (i := 6) rfl) rfl rfl hthis ?_
        refine xg_aload_n (pc := 116) C dX6_readLine_116 0 rfl ?_
        refine xg_geti (pc := 117) (C1 := RX6) (T1 := TX6) (ci := 6) (ref := "SandGlasses$Reader") C inm_X6_readLine_6 rfl (by decide) 7 (by decide) rfl dX6_readLine_117 (List.mem_of_getElem? (i := 3) rfl) rfl rfl hthis ?_
        obtain ⟨a10, ha10, hka10, hF⟩ := hF
        obtain ⟨hi, hF⟩ := hF
        refine xg_iald (pc := 120) C ha10 hka10 hi dX6_readLine_120 ?_
        refine xg_bipush (pc := 121) (v := 59) C dX6_readLine_121 (by decide) ?_
        refine xg_icmp_eq (pc := 123) 131 C dX6_readLine_123 (by decide) (fun hc => ?_) (fun hc => ?_)
        · have hF := hF.1 hc
          refine xg_aload_n (pc := 131) C dX6_readLine_131 0 rfl ?_
          refine xg_dup (pc := 132) C dX6_readLine_132 (xg_rf_cat _) ?_
          refine xg_geti (pc := 133) (C1 := RX6) (T1 := TX6) (ci := 6) (ref := "SandGlasses$Reader") C inm_X6_readLine_6 rfl (by decide) 7 (by decide) rfl dX6_readLine_133 (List.mem_of_getElem? (i := 3) rfl) rfl rfl hthis ?_
          refine xg_iconst (pc := 136) (v := 1) C dX6_readLine_136 (by decide) ?_
          refine xg_iadd (pc := 137) C dX6_readLine_137 ?_
          refine xg_puti (pc := 138) (C1 := RX6) (T1 := TX6) (ci := 6) (ref := "SandGlasses$Reader") C inm_X6_readLine_6 rfl (by decide) tyX6 tyX6_ok nmX6 7 (by decide) rfl dX6_readLine_138 (List.mem_of_getElem? (i := 3) rfl) rfl rfl (tyX6_ok 7 (by decide)) rfl hthis (fun h11 eh11 => ?_)
          have hF := hF h11 eh11
          refine xg_aload_n (pc := 141) C dX6_readLine_141 0 rfl ?_
          refine xg_geti (pc := 142) (C1 := RX6) (T1 := TX6) (ci := 6) (ref := "SandGlasses$Reader") C inm_X6_readLine_6 rfl (by decide) 0 (by decide) rfl dX6_readLine_142 (List.mem_of_getElem? (i := 7) rfl) rfl rfl hthis ?_
          refine xg_if_ne (pc := 145) 153 C dX6_readLine_145 (by decide) (fun hc => ?_) (fun hc => ?_)
          · have hF := hF.1 hc
            exact xg_retV (pc := 153) C E dX6_readLine_153 hF
          · have hF := hF.2 hc
            refine xg_aload_n (pc := 148) C dX6_readLine_148 0 rfl ?_
            refine xg_iload_n (pc := 149) C dX6_readLine_149 1 rfl ?_
            refine xg_cvV (pc := 150) (C1 := RX6) (T1 := TX6) (ci := 6) C (fun zs => [.int y1]) rfl hthis (by decide) rfl (met_X6_take Y this y1) gX6_readLine_X6_take rfl ⟨rfl, rfl⟩ nd_X6_take ⟨Nat.le_of_ble_eq_true rfl, Nat.le_of_ble_eq_true rfl⟩ rfl rfl (Nat.le_of_ble_eq_true rfl) ⟨Nat.zero_le _, Nat.zero_le _⟩ dX6_readLine_150 hF (fun h12 hF => ?_)
            exact xg_retV (pc := 153) C E dX6_readLine_153 hF
        · have hF := hF.2 hc
          refine xg_sub (lv2 := [(0, va_rf (some this))]) [0] rfl ?_
          exact hF
    · have hF := hF.2 hc
      refine xg_aload_n (pc := 77) C dX6_readLine_77 0 rfl ?_
      refine xg_iload_n (pc := 78) C dX6_readLine_78 1 rfl ?_
      refine xg_iload_n (pc := 79) C dX6_readLine_79 2 rfl ?_
      refine xg_cvI (pc := 80) (C1 := RX6) (T1 := TX6) (ci := 6) C (fun zs => [.int y1, .int y2]) rfl hthis (by decide) rfl (met_X6_readNumber Y this y1 y2) gX6_readLine_X6_readNumber rfl ⟨rfl, rfl⟩ nd_X6_readNumber ⟨Nat.le_of_ble_eq_true rfl, Nat.le_of_ble_eq_true rfl⟩ rfl rfl (Nat.le_of_ble_eq_true rfl) ⟨Nat.zero_le _, Nat.zero_le _⟩ dX6_readLine_80 hF (fun r14 h13 hF => ?_)
      refine xg_if_ne (pc := 83) 91 C dX6_readLine_83 (by decide) (fun hc => ?_) (fun hc => ?_)
      · have hF := hF.1 hc
        obtain ⟨z15, ez15⟩ : ∃ y : Int32, y = y2 + 1 := ⟨_, rfl⟩
        have hF := hF z15 ez15
        refine xg_iinc (pc := 91) (v := z15) (lv2 := [(2, .int z15), (0, va_rf (some this)), (1, .int y1)]) C dX6_readLine_91 2 rfl (by rw [ez15]; rfl) 3 hnL (by decide) rfl ?_
        refine xg_goto (pc := 94) 68 C dX6_readLine_94 (by decide) ?_
        refine xg_sub (lv2 := [(0, va_rf (some this)), (1, .int y1), (2, .int z15)]) [1, 2, 0] rfl ?_
        exact hF
      · have hF := hF.2 hc
        refine xg_aload_n (pc := 86) C dX6_readLine_86 0 rfl ?_
        refine xg_cvV (pc := 87) (C1 := RX6) (T1 := TX6) (ci := 6) C (fun zs => []) rfl hthis (by decide) rfl (met_X6_breakOff Y this) gX6_readLine_X6_breakOff rfl ⟨rfl, rfl⟩ nd_X6_breakOff ⟨Nat.le_of_ble_eq_true rfl, Nat.le_of_ble_eq_true rfl⟩ rfl rfl (Nat.le_of_ble_eq_true rfl) ⟨Nat.zero_le _, Nat.zero_le _⟩ dX6_readLine_87 hF (fun h16 hF => ?_)
        exact xg_retV (pc := 90) C E dX6_readLine_90 hF
  · intro h hF
    refine xg_aload_n (pc := 126) C dX6_readLine_126 0 rfl ?_
    refine xg_cvV (pc := 127) (C1 := RX6) (T1 := TX6) (ci := 6) C (fun zs => []) rfl hthis (by decide) rfl (met_X6_breakOff Y this) gX6_readLine_X6_breakOff rfl ⟨rfl, rfl⟩ nd_X6_breakOff ⟨Nat.le_of_ble_eq_true rfl, Nat.le_of_ble_eq_true rfl⟩ rfl rfl (Nat.le_of_ble_eq_true rfl) ⟨Nat.zero_le _, Nat.zero_le _⟩ dX6_readLine_127 hF (fun h17 hF => ?_)
    exact xg_retV (pc := 130) C E dX6_readLine_130 hF
  · skip
    refine xg_aload_n (pc := 0) C dX6_readLine_0 0 rfl ?_
    refine xg_cvI (pc := 1) (C1 := RX6) (T1 := TX6) (ci := 6) C (fun zs => []) rfl hthis (by decide) rfl (met_X6_wordHere Y this) gX6_readLine_X6_wordHere rfl ⟨rfl, rfl⟩ nd_X6_wordHere ⟨Nat.le_of_ble_eq_true rfl, Nat.le_of_ble_eq_true rfl⟩ rfl rfl (Nat.le_of_ble_eq_true rfl) ⟨Nat.zero_le _, Nat.zero_le _⟩ dX6_readLine_1 hF (fun r2 h1 hF => ?_)
    refine xg_istore_n (pc := 4) (lv2 := [(1, .int r2), (0, va_rf (some this))]) C dX6_readLine_4 3 hnL (by decide) rfl ?_
    refine xg_iload_n (pc := 5) C dX6_readLine_5 0 rfl ?_
    refine xg_iconst (pc := 6) (v := (-1)) C dX6_readLine_6 (by decide) ?_
    refine xg_icmp_ne (pc := 7) 15 C dX6_readLine_7 (by decide) (fun hc => ?_) (fun hc => ?_)
    · have hF := hF.1 hc
      refine xg_iload_n (pc := 15) C dX6_readLine_15 0 rfl ?_
      refine xg_iconst (pc := 16) (v := 1) C dX6_readLine_16 (by decide) ?_
      refine xg_icmp_eq (pc := 17) 54 C dX6_readLine_17 (by decide) (fun hc => ?_) (fun hc => ?_)
      · have hF := hF.1 hc
        refine xg_sub (lv2 := [(0, va_rf (some this)), (1, .int r2)]) [1, 0] rfl ?_
        exact hF
      · have hF := hF.2 hc
        refine xg_aload_n (pc := 20) C dX6_readLine_20 1 rfl ?_
        refine xg_dup (pc := 21) C dX6_readLine_21 (xg_rf_cat _) ?_
        refine xg_geti (pc := 22) (C1 := RX6) (T1 := TX6) (ci := 6) (ref := "SandGlasses$Reader") C inm_X6_readLine_6 rfl (by decide) 9 (by decide) rfl dX6_readLine_22 (List.mem_of_getElem? (i := 1) rfl) rfl rfl hthis ?_
        refine xg_iconst (pc := 25) (v := 1) C dX6_readLine_25 (by decide) ?_
        refine xg_iadd (pc := 26) C dX6_readLine_26 ?_
        refine xg_puti (pc := 27) (C1 := RX6) (T1 := TX6) (ci := 6) (ref := "SandGlasses$Reader") C inm_X6_readLine_6 rfl (by decide) tyX6 tyX6_ok nmX6 9 (by decide) rfl dX6_readLine_27 (List.mem_of_getElem? (i := 1) rfl) rfl rfl (tyX6_ok 9 (by decide)) rfl hthis (fun h3 eh3 => ?_)
        have hF := hF h3 eh3
        refine xg_aload_n (pc := 30) C dX6_readLine_30 1 rfl ?_
        refine xg_geti (pc := 31) (C1 := RX6) (T1 := TX6) (ci := 6) (ref := "SandGlasses$Reader") C inm_X6_readLine_6 rfl (by decide) 9 (by decide) rfl dX6_readLine_31 (List.mem_of_getElem? (i := 1) rfl) rfl rfl hthis ?_
        refine xg_getsN (pc := 34) (ref := "SandGlasses") (host := "SandGlasses") C 0 (by decide) dX6_readLine_34 (by decide +kernel) rfl ?_
        refine xg_aload_n (pc := 37) C dX6_readLine_37 1 rfl ?_
        refine xg_geti (pc := 38) (C1 := RX6) (T1 := TX6) (ci := 6) (ref := "SandGlasses$Reader") C inm_X6_readLine_6 rfl (by decide) 8 (by decide) rfl dX6_readLine_38 (List.mem_of_getElem? (i := 2) rfl) rfl rfl hthis ?_
        obtain ⟨hi, hF⟩ := hF
        refine xg_sld (pc := 41) C 0 (by decide) hi dX6_readLine_41 ?_
        refine xg_icmp_le (pc := 42) 54 C dX6_readLine_42 (by decide) (fun hc => ?_) (fun hc => ?_)
        · have hF := hF.1 hc
          refine xg_sub (lv2 := [(0, va_rf (some this)), (1, .int r2)]) [1, 0] rfl ?_
          exact hF
        · have hF := hF.2 hc
          refine xg_aload_n (pc := 45) C dX6_readLine_45 1 rfl ?_
          refine xg_iconst (pc := 46) (v := 3) C dX6_readLine_46 (by decide) ?_
          refine xg_aload_n (pc := 47) C dX6_readLine_47 1 rfl ?_
          refine xg_geti (pc := 48) (C1 := RX6) (T1 := TX6) (ci := 6) (ref := "SandGlasses$Reader") C inm_X6_readLine_6 rfl (by decide) 7 (by decide) rfl dX6_readLine_48 (List.mem_of_getElem? (i := 3) rfl) rfl rfl hthis ?_
          refine xg_cvV (pc := 51) (C1 := RX6) (T1 := TX6) (ci := 6) C (fun zs => [.int 3, .int (xg_i h3 this 7)]) rfl hthis (by decide) rfl (met_X6_note Y this 3 (xg_i h3 this 7)) gX6_readLine_X6_note rfl ⟨rfl, rfl⟩ nd_X6_note ⟨Nat.le_of_ble_eq_true rfl, Nat.le_of_ble_eq_true rfl⟩ rfl rfl (Nat.le_of_ble_eq_true rfl) ⟨Nat.zero_le _, Nat.zero_le _⟩ dX6_readLine_51 hF (fun h4 hF => ?_)
          refine xg_sub (lv2 := [(0, va_rf (some this)), (1, .int r2)]) [1, 0] rfl ?_
          exact hF
    · have hF := hF.2 hc
      refine xg_aload_n (pc := 10) C dX6_readLine_10 1 rfl ?_
      refine xg_cvV (pc := 11) (C1 := RX6) (T1 := TX6) (ci := 6) C (fun zs => []) rfl hthis (by decide) rfl (met_X6_breakOff Y this) gX6_readLine_X6_breakOff rfl ⟨rfl, rfl⟩ nd_X6_breakOff ⟨Nat.le_of_ble_eq_true rfl, Nat.le_of_ble_eq_true rfl⟩ rfl rfl (Nat.le_of_ble_eq_true rfl) ⟨Nat.zero_le _, Nat.zero_le _⟩ dX6_readLine_11 hF (fun h5 hF => ?_)
      exact xg_retV (pc := 14) C E dX6_readLine_14 hF
def rm_X6_finish : Room := { frames := 1, cells := 0, slots := 0, locals := 24 }
theorem nd_X6_finish : yX6_finish.cls = RX6 ∧ yX6_finish.cls ≠ "java/lang/invoke/MethodHandle" ∧ yX6_finish.cls ≠ "java/lang/invoke/VarHandle" ∧ (parseMethodDescriptor yX6_finish.desc).map (fun d => d.parameters.length) = some 0 := by decide +kernel
theorem inm_X6_finish_6 : ∀ w ∈ u_ws RX6 TX6 (xg_N 6), w ∈ wsX6_finish := fun _ h9 => List.mem_cons_of_mem _ (List.mem_append_left _ (List.mem_append_right _ h9))
theorem inm_X6_finish_8 : ∀ w ∈ u_ws RX8 TX8 (xg_N 8), w ∈ wsX6_finish := fun _ h9 => List.mem_cons_of_mem _ (List.mem_append_right _ h9)
set_option maxHeartbeats 4000000 in
set_option maxRecDepth 100000 in
theorem met_X6_finish (Y : xg_Y) (this : Nat) : xg_MV yX6_finish wsX6_finish rm_X6_finish Y (fun zs => [va_rf (some this)]) (fun Q h => wp_X6_finish Y Q this h) := by
  refine xg_startV (cc := cX6_finish) (maxL := 3) (own := RX6) (by decide) rfl rfl (fun zs => Nat.le_of_ble_eq_true rfl) (fun X Q h C hnL E hw => ?_)
  unfold wp_X6_finish at hw
  obtain ⟨hthis, hw⟩ := hw
  refine xg_sub (lv2 := [(0, va_rf (some this))]) [0] rfl ?_
  refine mg_use (hw (fun (y1 : Option Nat) (h : xg_H) => xg_W X 0 0 Y 55 [(0, va_rf (some this)), (1, va_rf y1)] [] h) (fun (y1 : Option Nat) (y2 : Int32) (h : xg_H) => xg_W X 0 0 Y 57 [(0, va_rf (some this)), (1, va_rf y1), (2, .int y2)] [] h) ?_ ?_) (fun hF => ?_)
  · intro y1 h hF
    refine xg_iconst (pc := 55) (v := 0) C dX6_finish_55 (by decide) ?_
    refine xg_istore_n (pc := 56) (lv2 := [(2, .int 0), (0, va_rf (some this)), (1, va_rf y1)]) C dX6_finish_56 3 hnL (by decide) (by cases y1 <;> rfl) ?_
    refine xg_sub (lv2 := [(0, va_rf (some this)), (1, va_rf y1), (2, .int 0)]) [1, 2, 0] rfl ?_
    exact hF
  · intro y1 y2 h hF
    refine xg_iload_n (pc := 57) C dX6_finish_57 2 rfl ?_
    refine xg_aload_n (pc := 58) C dX6_finish_58 1 rfl ?_
    obtain ⟨a8, ha8, hka8, hF⟩ := hF
    refine xg_getr (pc := 59) (C1 := RX8) (T1 := TX8) (ci := 8) (ref := "SandGlasses$Text") C inm_X6_finish_8 rfl (by decide) 3 (by decide) rfl dX6_finish_59 (List.mem_of_getElem? (i := 12) rfl) rfl ha8 hka8 ?_
    obtain ⟨a9, ha9, hka9, hF⟩ := hF
    refine xg_alen (pc := 62) (c9 := 22) C ha9 hka9 (by decide) dX6_finish_62 ?_
    refine xg_icmp_ge (pc := 63) 84 C dX6_finish_63 (by decide) (fun hc => ?_) (fun hc => ?_)
    · have hF := hF.1 hc
      exact xg_retV (pc := 84) C E dX6_finish_84 hF
    · have hF := hF.2 hc
      refine xg_aload_n (pc := 66) C dX6_finish_66 1 rfl ?_
      refine xg_getr (pc := 67) (C1 := RX8) (T1 := TX8) (ci := 8) (ref := "SandGlasses$Text") C inm_X6_finish_8 rfl (by decide) 3 (by decide) rfl dX6_finish_67 (List.mem_of_getElem? (i := 12) rfl) rfl ha8 hka8 ?_
      refine xg_iload_n (pc := 70) C dX6_finish_70 2 rfl ?_
      refine xg_aload_n (pc := 71) C dX6_finish_71 0 rfl ?_
      refine xg_getr (pc := 72) (C1 := RX6) (T1 := TX6) (ci := 6) (ref := "SandGlasses$Reader") C inm_X6_finish_6 rfl (by decide) 3 (by decide) rfl dX6_finish_72 (List.mem_of_getElem? (i := 13) rfl) rfl rfl hthis ?_
      refine xg_iload_n (pc := 75) C dX6_finish_75 2 rfl ?_
      obtain ⟨a10, ha10, hka10, hF⟩ := hF
      obtain ⟨hi, hF⟩ := hF
      refine xg_iald (pc := 76) C ha10 hka10 hi dX6_finish_76 ?_
      obtain ⟨hi, hF⟩ := hF
      refine xg_iast (pc := 77) C ha9 hka9 hi dX6_finish_77 (fun h11 eh11 => ?_)
      have hF := hF h11 eh11
      obtain ⟨z12, ez12⟩ : ∃ y : Int32, y = y2 + 1 := ⟨_, rfl⟩
      have hF := hF z12 ez12
      refine xg_iinc (pc := 78) (v := z12) (lv2 := [(2, .int z12), (0, va_rf (some this)), (1, va_rf y1)]) C dX6_finish_78 2 rfl (by rw [ez12]; rfl) 3 hnL (by decide) (by cases y1 <;> rfl) ?_
      refine xg_goto (pc := 81) 57 C dX6_finish_81 (by decide) ?_
      refine xg_sub (lv2 := [(0, va_rf (some this)), (1, va_rf y1), (2, .int z12)]) [1, 2, 0] rfl ?_
      exact hF
  · skip
    refine xg_aload_n (pc := 0) C dX6_finish_0 0 rfl ?_
    refine xg_getr (pc := 1) (C1 := RX6) (T1 := TX6) (ci := 6) (ref := "SandGlasses$Reader") C inm_X6_finish_6 rfl (by decide) 2 (by decide) rfl dX6_finish_1 (List.mem_of_getElem? (i := 1) rfl) rfl rfl hthis ?_
    refine xg_aload_n (pc := 4) C dX6_finish_4 0 rfl ?_
    refine xg_geti (pc := 5) (C1 := RX6) (T1 := TX6) (ci := 6) (ref := "SandGlasses$Reader") C inm_X6_finish_6 rfl (by decide) 8 (by decide) rfl dX6_finish_5 (List.mem_of_getElem? (i := 2) rfl) rfl rfl hthis ?_
    obtain ⟨a1, ha1, hka1, hF⟩ := hF
    obtain ⟨hi, hF⟩ := hF
    refine xg_aald (pc := 8) (c9 := 27) (C9 := "SandGlasses$Text") C ha1 hka1 (by decide) rfl hi dX6_finish_8 ?_
    refine xg_topr (pc := 9) (fun z2 ez2 => ?_)
    have hF := hF z2 ez2
    refine xg_astore_n (pc := 9) (lv2 := [(1, va_rf z2), (0, va_rf (some this))]) C dX6_finish_9 3 hnL (by decide) rfl ?_
    refine xg_aload_n (pc := 10) C dX6_finish_10 0 rfl ?_
    refine xg_aload_n (pc := 11) C dX6_finish_11 1 rfl ?_
    refine xg_geti (pc := 12) (C1 := RX6) (T1 := TX6) (ci := 6) (ref := "SandGlasses$Reader") C inm_X6_finish_6 rfl (by decide) 9 (by decide) rfl dX6_finish_12 (List.mem_of_getElem? (i := 3) rfl) rfl rfl hthis ?_
    refine xg_aload_n (pc := 15) C dX6_finish_15 0 rfl ?_
    obtain ⟨a3, ha3, hka3, hF⟩ := hF
    refine xg_getr (pc := 16) (C1 := RX8) (T1 := TX8) (ci := 8) (ref := "SandGlasses$Text") C inm_X6_finish_8 rfl (by decide) 1 (by decide) rfl dX6_finish_16 (List.mem_of_getElem? (i := 4) rfl) rfl ha3 hka3 ?_
    obtain ⟨a4, ha4, hka4, hF⟩ := hF
    refine xg_alen (pc := 19) (c9 := 22) C ha4 hka4 (by decide) dX6_finish_19 ?_
    refine xg_mmin (pc := 20) C (List.mem_of_getElem? (i := 5) rfl) (List.mem_of_getElem? (i := 6) rfl) (List.mem_of_getElem? (i := 7) rfl) (List.mem_of_getElem? (i := 8) rfl) (Nat.le_of_ble_eq_true rfl) (by simp [xg_rf_cat, xg_cat_i, xg_cat_l, xg_cat_a, rm_X6_finish]) (Nat.zero_le _) (Nat.zero_le _) dX6_finish_20 ?_
    refine xg_topi (pc := 23) (fun z5 ez5 => ?_)
    have hF := hF z5 ez5
    refine xg_puti (pc := 23) (C1 := RX8) (T1 := TX8) (ci := 8) (ref := "SandGlasses$Text") C inm_X6_finish_8 rfl (by decide) tyX8 tyX8_ok nmX8 0 (by decide) rfl dX6_finish_23 (List.mem_of_getElem? (i := 9) rfl) rfl rfl (tyX8_ok 0 (by decide)) ha3 hka3 (fun h6 eh6 => ?_)
    have hF := hF h6 eh6
    refine xg_aload_n (pc := 26) C dX6_finish_26 1 rfl ?_
    refine xg_geti (pc := 27) (C1 := RX6) (T1 := TX6) (ci := 6) (ref := "SandGlasses$Reader") C inm_X6_finish_6 rfl (by decide) 9 (by decide) rfl dX6_finish_27 (List.mem_of_getElem? (i := 3) rfl) rfl rfl hthis ?_
    refine xg_iconst (pc := 30) (v := 4) C dX6_finish_30 (by decide) ?_
    refine xg_icmp_ge (pc := 31) 55 C dX6_finish_31 (by decide) (fun hc => ?_) (fun hc => ?_)
    · have hF := hF.1 hc
      refine xg_sub (lv2 := [(0, va_rf (some this)), (1, va_rf z2)]) [1, 0] rfl ?_
      exact hF
    · have hF := hF.2 hc
      refine xg_aload_n (pc := 34) C dX6_finish_34 1 rfl ?_
      refine xg_geti (pc := 35) (C1 := RX6) (T1 := TX6) (ci := 6) (ref := "SandGlasses$Reader") C inm_X6_finish_6 rfl (by decide) 10 (by decide) rfl dX6_finish_35 (List.mem_of_getElem? (i := 10) rfl) rfl rfl hthis ?_
      refine xg_aload_n (pc := 38) C dX6_finish_38 1 rfl ?_
      refine xg_geti (pc := 39) (C1 := RX6) (T1 := TX6) (ci := 6) (ref := "SandGlasses$Reader") C inm_X6_finish_6 rfl (by decide) 9 (by decide) rfl dX6_finish_39 (List.mem_of_getElem? (i := 3) rfl) rfl rfl hthis ?_
      refine xg_ishr (pc := 42) C dX6_finish_42 ?_
      refine xg_if_eq (pc := 43) 55 C dX6_finish_43 (by decide) (fun hc => ?_) (fun hc => ?_)
      · have hF := hF.1 hc
        refine xg_sub (lv2 := [(0, va_rf (some this)), (1, va_rf z2)]) [1, 0] rfl ?_
        exact hF
      · have hF := hF.2 hc
        refine xg_aload_n (pc := 46) C dX6_finish_46 1 rfl ?_
        refine xg_iconst (pc := 47) (v := 4) C dX6_finish_47 (by decide) ?_
        refine xg_aload_n (pc := 48) C dX6_finish_48 1 rfl ?_
        refine xg_geti (pc := 49) (C1 := RX6) (T1 := TX6) (ci := 6) (ref := "SandGlasses$Reader") C inm_X6_finish_6 rfl (by decide) 6 (by decide) rfl dX6_finish_49 (List.mem_of_getElem? (i := 11) rfl) rfl rfl hthis ?_
        refine xg_cvV (pc := 52) (C1 := RX6) (T1 := TX6) (ci := 6) C (fun zs => [.int 4, .int (xg_i h6 this 6)]) rfl hthis (by decide) rfl (met_X6_note Y this 4 (xg_i h6 this 6)) gX6_finish_X6_note rfl ⟨rfl, rfl⟩ nd_X6_note ⟨Nat.le_of_ble_eq_true rfl, Nat.le_of_ble_eq_true rfl⟩ rfl rfl (Nat.le_of_ble_eq_true rfl) ⟨Nat.zero_le _, Nat.zero_le _⟩ dX6_finish_52 hF (fun h7 hF => ?_)
        refine xg_sub (lv2 := [(0, va_rf (some this)), (1, va_rf z2)]) [1, 0] rfl ?_
        exact hF
def rm_X6_read : Room := { frames := 7, cells := 0, slots := 0, locals := 152 }
theorem nd_X6_read : yX6_read.cls = RX6 ∧ yX6_read.cls ≠ "java/lang/invoke/MethodHandle" ∧ yX6_read.cls ≠ "java/lang/invoke/VarHandle" ∧ (parseMethodDescriptor yX6_read.desc).map (fun d => d.parameters.length) = some 3 := by decide +kernel
theorem inm_X6_read_6 : ∀ w ∈ u_ws RX6 TX6 (xg_N 6), w ∈ wsX6_read := fun _ h9 => List.mem_cons_of_mem _ (List.mem_append_left _ (List.mem_append_right _ h9))
set_option maxHeartbeats 4000000 in
set_option maxRecDepth 100000 in
theorem met_X6_read (Y : xg_Y) (this : Nat) (x1 : Int32) (x2 : Option Nat) (x3 : Int32) : xg_MV yX6_read wsX6_read rm_X6_read Y (fun zs => [va_rf (some this), .int x1, va_rf x2, .int x3]) (fun Q h => wp_X6_read Y Q this x1 x2 x3 h) := by
  refine xg_startV (cc := cX6_read) (maxL := 5) (own := RX6) (by decide) rfl rfl (fun zs => by cases x2 <;> exact Nat.le_of_ble_eq_true rfl) (fun X Q h C hnL E hw => ?_)
  unfold wp_X6_read at hw
  obtain ⟨hthis, hw⟩ := hw
  refine xg_sub (lv2 := [(0, va_rf (some this)), (1, .int x1), (2, va_rf x2), (3, .int x3)]) [0, 1, 2, 3] (by cases x2 <;> rfl) ?_
  refine mg_use (hw (fun (y4 : Int32) (h : xg_H) => xg_W X 0 0 Y 62 [(0, va_rf (some this)), (4, .int y4)] [] h) (fun (h : xg_H) => xg_W X 0 0 Y 103 [(0, va_rf (some this))] [] h) ?_ ?_) (fun hF => ?_)
  · intro y4 h hF
    refine xg_iload (pc := 62) C dX6_read_62 1 rfl ?_
    refine xg_sipush (pc := 64) (v := 600) C dX6_read_64 (by decide) ?_
    refine xg_icmp_gt (pc := 67) 103 C dX6_read_67 (by decide) (fun hc => ?_) (fun hc => ?_)
    · have hF := hF.1 hc
      refine xg_sub (lv2 := [(0, va_rf (some this))]) [0] rfl ?_
      exact hF
    · have hF := hF.2 hc
      refine xg_aload_n (pc := 70) C dX6_read_70 0 rfl ?_
      refine xg_geti (pc := 71) (C1 := RX6) (T1 := TX6) (ci := 6) (ref := "SandGlasses$Reader") C inm_X6_read_6 rfl (by decide) 7 (by decide) rfl dX6_read_71 (List.mem_of_getElem? (i := 10) rfl) rfl rfl hthis ?_
      refine xg_aload_n (pc := 74) C dX6_read_74 0 rfl ?_
      refine xg_geti (pc := 75) (C1 := RX6) (T1 := TX6) (ci := 6) (ref := "SandGlasses$Reader") C inm_X6_read_6 rfl (by decide) 6 (by decide) rfl dX6_read_75 (List.mem_of_getElem? (i := 7) rfl) rfl rfl hthis ?_
      refine xg_icmp_ge (pc := 78) 103 C dX6_read_78 (by decide) (fun hc => ?_) (fun hc => ?_)
      · have hF := hF.1 hc
        refine xg_sub (lv2 := [(0, va_rf (some this))]) [0] rfl ?_
        exact hF
      · have hF := hF.2 hc
        refine xg_aload_n (pc := 81) C dX6_read_81 0 rfl ?_
        refine xg_geti (pc := 82) (C1 := RX6) (T1 := TX6) (ci := 6) (ref := "SandGlasses$Reader") C inm_X6_read_6 rfl (by decide) 0 (by decide) rfl dX6_read_82 (List.mem_of_getElem? (i := 8) rfl) rfl rfl hthis ?_
        refine xg_iconst (pc := 85) (v := 1) C dX6_read_85 (by decide) ?_
        refine xg_icmp_eq (pc := 86) 103 C dX6_read_86 (by decide) (fun hc => ?_) (fun hc => ?_)
        · have hF := hF.1 hc
          refine xg_sub (lv2 := [(0, va_rf (some this))]) [0] rfl ?_
          exact hF
        · have hF := hF.2 hc
          refine xg_aload_n (pc := 89) C dX6_read_89 0 rfl ?_
          refine xg_cvV (pc := 90) (C1 := RX6) (T1 := TX6) (ci := 6) C (fun zs => []) rfl hthis (by decide) rfl (met_X6_readLine Y this) gX6_read_X6_readLine rfl ⟨rfl, rfl⟩ nd_X6_readLine ⟨Nat.le_of_ble_eq_true rfl, Nat.le_of_ble_eq_true rfl⟩ rfl rfl (Nat.le_of_ble_eq_true rfl) ⟨Nat.zero_le _, Nat.zero_le _⟩ dX6_read_90 hF (fun h13 hF => ?_)
          refine xg_aload_n (pc := 93) C dX6_read_93 0 rfl ?_
          refine xg_cvV (pc := 94) (C1 := RX6) (T1 := TX6) (ci := 6) C (fun zs => []) rfl hthis (by decide) rfl (met_X6_skipBlanks Y this) gX6_read_X6_skipBlanks rfl ⟨rfl, rfl⟩ nd_X6_skipBlanks ⟨Nat.le_of_ble_eq_true rfl, Nat.le_of_ble_eq_true rfl⟩ rfl rfl (Nat.le_of_ble_eq_true rfl) ⟨Nat.zero_le _, Nat.zero_le _⟩ dX6_read_94 hF (fun h14 hF => ?_)
          obtain ⟨z15, ez15⟩ : ∃ y : Int32, y = y4 + 1 := ⟨_, rfl⟩
          have hF := hF z15 ez15
          refine xg_iinc (pc := 97) (v := z15) (lv2 := [(4, .int z15), (0, va_rf (some this))]) C dX6_read_97 1 rfl (by rw [ez15]; rfl) 5 hnL (by decide) rfl ?_
          refine xg_goto (pc := 100) 62 C dX6_read_100 (by decide) ?_
          refine xg_sub (lv2 := [(0, va_rf (some this)), (4, .int z15)]) [1, 0] rfl ?_
          exact hF
  · intro h hF
    refine xg_aload_n (pc := 103) C dX6_read_103 0 rfl ?_
    refine xg_cvV (pc := 104) (C1 := RX6) (T1 := TX6) (ci := 6) C (fun zs => []) rfl hthis (by decide) rfl (met_X6_finish Y this) gX6_read_X6_finish rfl ⟨rfl, rfl⟩ nd_X6_finish ⟨Nat.le_of_ble_eq_true rfl, Nat.le_of_ble_eq_true rfl⟩ rfl rfl (Nat.le_of_ble_eq_true rfl) ⟨Nat.zero_le _, Nat.zero_le _⟩ dX6_read_104 hF (fun h16 hF => ?_)
    exact xg_retV (pc := 107) C E dX6_read_107 hF
  · skip
    refine xg_aload_n (pc := 0) C dX6_read_0 0 rfl ?_
    refine xg_iload_n (pc := 1) C dX6_read_1 1 rfl ?_
    refine xg_iconst (pc := 2) (v := 3) C dX6_read_2 (by decide) ?_
    refine xg_iand (pc := 3) C dX6_read_3 ?_
    refine xg_puti (pc := 4) (C1 := RX6) (T1 := TX6) (ci := 6) (ref := "SandGlasses$Reader") C inm_X6_read_6 rfl (by decide) tyX6 tyX6_ok nmX6 8 (by decide) rfl dX6_read_4 (List.mem_of_getElem? (i := 1) rfl) rfl rfl (tyX6_ok 8 (by decide)) rfl hthis (fun h1 eh1 => ?_)
    have hF := hF h1 eh1
    refine xg_aload_n (pc := 7) C dX6_read_7 0 rfl ?_
    refine xg_aload_n (pc := 8) C dX6_read_8 2 rfl ?_
    refine xg_putr (pc := 9) (C1 := RX6) (T1 := TX6) (ci := 6) (ref := "SandGlasses$Reader") C inm_X6_read_6 rfl (by decide) tyX6 tyX6_ok nmX6 5 (by decide) rfl (ty1 := .array .int) (xg_rta _) dX6_read_9 (List.mem_of_getElem? (i := 2) rfl) rfl rfl (tyX6_ok 5 (by decide)) rfl hthis (fun h2 eh2 => ?_)
    have hF := hF h2 eh2
    refine xg_aload_n (pc := 12) C dX6_read_12 0 rfl ?_
    refine xg_iload_n (pc := 13) C dX6_read_13 3 rfl ?_
    refine xg_aload_n (pc := 14) C dX6_read_14 2 rfl ?_
    obtain ⟨a3, ha3, hka3, hF⟩ := hF
    refine xg_alen (pc := 15) (c9 := 22) C ha3 hka3 (by decide) dX6_read_15 ?_
    refine xg_mmin (pc := 16) C (List.mem_of_getElem? (i := 3) rfl) (List.mem_of_getElem? (i := 4) rfl) (List.mem_of_getElem? (i := 5) rfl) (List.mem_of_getElem? (i := 6) rfl) (Nat.le_of_ble_eq_true rfl) (Nat.le_of_ble_eq_true rfl) (Nat.zero_le _) (Nat.zero_le _) dX6_read_16 ?_
    refine xg_topi (pc := 19) (fun z4 ez4 => ?_)
    have hF := hF z4 ez4
    refine xg_puti (pc := 19) (C1 := RX6) (T1 := TX6) (ci := 6) (ref := "SandGlasses$Reader") C inm_X6_read_6 rfl (by decide) tyX6 tyX6_ok nmX6 6 (by decide) rfl dX6_read_19 (List.mem_of_getElem? (i := 7) rfl) rfl rfl (tyX6_ok 6 (by decide)) rfl hthis (fun h5 eh5 => ?_)
    have hF := hF h5 eh5
    refine xg_aload_n (pc := 22) C dX6_read_22 0 rfl ?_
    refine xg_iconst (pc := 23) (v := 0) C dX6_read_23 (by decide) ?_
    refine xg_puti (pc := 24) (C1 := RX6) (T1 := TX6) (ci := 6) (ref := "SandGlasses$Reader") C inm_X6_read_6 rfl (by decide) tyX6 tyX6_ok nmX6 0 (by decide) rfl dX6_read_24 (List.mem_of_getElem? (i := 8) rfl) rfl rfl (tyX6_ok 0 (by decide)) rfl hthis (fun h6 eh6 => ?_)
    have hF := hF h6 eh6
    refine xg_aload_n (pc := 27) C dX6_read_27 0 rfl ?_
    refine xg_iconst (pc := 28) (v := (-1)) C dX6_read_28 (by decide) ?_
    refine xg_puti (pc := 29) (C1 := RX6) (T1 := TX6) (ci := 6) (ref := "SandGlasses$Reader") C inm_X6_read_6 rfl (by decide) tyX6 tyX6_ok nmX6 1 (by decide) rfl dX6_read_29 (List.mem_of_getElem? (i := 9) rfl) rfl rfl (tyX6_ok 1 (by decide)) rfl hthis (fun h7 eh7 => ?_)
    have hF := hF h7 eh7
    refine xg_aload_n (pc := 32) C dX6_read_32 0 rfl ?_
    refine xg_iconst (pc := 33) (v := 0) C dX6_read_33 (by decide) ?_
    refine xg_puti (pc := 34) (C1 := RX6) (T1 := TX6) (ci := 6) (ref := "SandGlasses$Reader") C inm_X6_read_6 rfl (by decide) tyX6 tyX6_ok nmX6 7 (by decide) rfl dX6_read_34 (List.mem_of_getElem? (i := 10) rfl) rfl rfl (tyX6_ok 7 (by decide)) rfl hthis (fun h8 eh8 => ?_)
    have hF := hF h8 eh8
    refine xg_aload_n (pc := 37) C dX6_read_37 0 rfl ?_
    refine xg_iconst (pc := 38) (v := 0) C dX6_read_38 (by decide) ?_
    refine xg_puti (pc := 39) (C1 := RX6) (T1 := TX6) (ci := 6) (ref := "SandGlasses$Reader") C inm_X6_read_6 rfl (by decide) tyX6 tyX6_ok nmX6 9 (by decide) rfl dX6_read_39 (List.mem_of_getElem? (i := 11) rfl) rfl rfl (tyX6_ok 9 (by decide)) rfl hthis (fun h9 eh9 => ?_)
    have hF := hF h9 eh9
    refine xg_aload_n (pc := 42) C dX6_read_42 0 rfl ?_
    refine xg_iconst (pc := 43) (v := 0) C dX6_read_43 (by decide) ?_
    refine xg_puti (pc := 44) (C1 := RX6) (T1 := TX6) (ci := 6) (ref := "SandGlasses$Reader") C inm_X6_read_6 rfl (by decide) tyX6 tyX6_ok nmX6 10 (by decide) rfl dX6_read_44 (List.mem_of_getElem? (i := 12) rfl) rfl rfl (tyX6_ok 10 (by decide)) rfl hthis (fun h10 eh10 => ?_)
    have hF := hF h10 eh10
    refine xg_aload_n (pc := 47) C dX6_read_47 0 rfl ?_
    refine xg_getr (pc := 48) (C1 := RX6) (T1 := TX6) (ci := 6) (ref := "SandGlasses$Reader") C inm_X6_read_6 rfl (by decide) 3 (by decide) rfl dX6_read_48 (List.mem_of_getElem? (i := 13) rfl) rfl rfl hthis ?_
    refine xg_iconst (pc := 51) (v := 1) C dX6_read_51 (by decide) ?_
    refine xg_csV (pc := 52) C (fun zs => [va_rf (xg_o h10 this 3), .int 1]) (met_J7_fill_53178 Y (xg_o h10 this 3) 1) gX6_read_J7_fill_53178 rfl ⟨rfl, rfl⟩ nd_J7_fill_53178.2 ⟨Nat.le_of_ble_eq_true rfl, Nat.le_of_ble_eq_true rfl⟩ rfl rfl (Nat.le_of_ble_eq_true rfl) ⟨Nat.zero_le _, Nat.zero_le _⟩ dX6_read_52 hF (fun h11 hF => ?_)
    refine xg_aload_n (pc := 55) C dX6_read_55 0 rfl ?_
    refine xg_cvV (pc := 56) (C1 := RX6) (T1 := TX6) (ci := 6) C (fun zs => []) rfl hthis (by decide) rfl (met_X6_skipBlanks Y this) gX6_read_X6_skipBlanks rfl ⟨rfl, rfl⟩ nd_X6_skipBlanks ⟨Nat.le_of_ble_eq_true rfl, Nat.le_of_ble_eq_true rfl⟩ rfl rfl (Nat.le_of_ble_eq_true rfl) ⟨Nat.zero_le _, Nat.zero_le _⟩ dX6_read_56 hF (fun h12 hF => ?_)
    refine xg_iconst (pc := 59) (v := 0) C dX6_read_59 (by decide) ?_
    refine xg_istore (pc := 60) (lv2 := [(4, .int 0), (0, va_rf (some this)), (1, .int x1), (2, va_rf x2), (3, .int x3)]) C dX6_read_60 5 hnL (by decide) rfl ?_
    refine xg_sub (lv2 := [(0, va_rf (some this)), (4, .int 0)]) [1, 0] rfl ?_
    exact hF
def rm_X6_draft : Room := { frames := 0, cells := 0, slots := 0, locals := 0 }
theorem nd_X6_draft : yX6_draft.cls = RX6 ∧ yX6_draft.cls ≠ "java/lang/invoke/MethodHandle" ∧ yX6_draft.cls ≠ "java/lang/invoke/VarHandle" ∧ (parseMethodDescriptor yX6_draft.desc).map (fun d => d.parameters.length) = some 1 := by decide +kernel
theorem inm_X6_draft_6 : ∀ w ∈ u_ws RX6 TX6 (xg_N 6), w ∈ wsX6_draft := fun _ h9 => List.mem_cons_of_mem _ (List.mem_append_right _ h9)
set_option maxHeartbeats 4000000 in
set_option maxRecDepth 100000 in
theorem met_X6_draft (Y : xg_Y) (this : Nat) (x1 : Int32) : xg_MR yX6_draft wsX6_draft rm_X6_draft Y (fun zs => [va_rf (some this), .int x1]) (fun Q h => wp_X6_draft Y Q this x1 h) := by
  refine xg_startR (cc := cX6_draft) (maxL := 2) (own := RX6) (by decide) rfl rfl (fun zs => Nat.le_of_ble_eq_true rfl) (fun X Q h C hnL E hw => ?_)
  unfold wp_X6_draft at hw
  obtain ⟨hthis, hw⟩ := hw
  refine xg_sub (lv2 := [(0, va_rf (some this)), (1, .int x1)]) [0, 1] rfl ?_
  have hF := hw
  refine xg_aload_n (pc := 0) C dX6_draft_0 0 rfl ?_
  refine xg_getr (pc := 1) (C1 := RX6) (T1 := TX6) (ci := 6) (ref := "SandGlasses$Reader") C inm_X6_draft_6 rfl (by decide) 2 (by decide) rfl dX6_draft_1 (List.mem_of_getElem? (i := 1) rfl) rfl rfl hthis ?_
  refine xg_iload_n (pc := 4) C dX6_draft_4 1 rfl ?_
  refine xg_iconst (pc := 5) (v := 3) C dX6_draft_5 (by decide) ?_
  refine xg_iand (pc := 6) C dX6_draft_6 ?_
  obtain ⟨a1, ha1, hka1, hF⟩ := hF
  obtain ⟨hi, hF⟩ := hF
  refine xg_aald (pc := 7) (c9 := 27) (C9 := "SandGlasses$Text") C ha1 hka1 (by decide) rfl hi dX6_draft_7 ?_
  exact xg_retR (pc := 8) C E (Or.inl ⟨_, rfl⟩) dX6_draft_8 hF
def rm_X9_keep : Room := { frames := 2, cells := 0, slots := 0, locals := 81 }
theorem nd_X9_keep : yX9_keep.cls = RX9 ∧ yX9_keep.cls ≠ "java/lang/invoke/MethodHandle" ∧ yX9_keep.cls ≠ "java/lang/invoke/VarHandle" ∧ (parseMethodDescriptor yX9_keep.desc).map (fun d => d.parameters.length) = some 3 := by decide +kernel
theorem inm_X9_keep_9 : ∀ w ∈ u_ws RX9 TX9 (xg_N 9), w ∈ wsX9_keep := fun _ h9 => List.mem_cons_of_mem _ (List.mem_append_left _ (List.mem_append_right _ h9))
set_option maxHeartbeats 4000000 in
set_option maxRecDepth 100000 in
theorem met_X9_keep (Y : xg_Y) (this : Nat) (x1 : Int32) (x2 : Int32) (x3 : Option Nat) : xg_MV yX9_keep wsX9_keep rm_X9_keep Y (fun zs => [va_rf (some this), .int x1, .int x2, va_rf x3]) (fun Q h => wp_X9_keep Y Q this x1 x2 x3 h) := by
  refine xg_startV (cc := cX9_keep) (maxL := 4) (own := RX9) (by decide) rfl rfl (fun zs => by cases x3 <;> exact Nat.le_of_ble_eq_true rfl) (fun X Q h C hnL E hw => ?_)
  unfold wp_X9_keep at hw
  obtain ⟨hthis, hw⟩ := hw
  refine xg_sub (lv2 := [(0, va_rf (some this)), (1, .int x1), (2, .int x2), (3, va_rf x3)]) [0, 1, 2, 3] (by cases x3 <;> rfl) ?_
  have hF := hw
  refine xg_iload_n (pc := 0) C dX9_keep_0 1 rfl ?_
  refine xg_if_lt (pc := 1) 18 C dX9_keep_1 (by decide) (fun hc => ?_) (fun hc => ?_)
  · have hF := hF.1 hc
    exact xg_retV (pc := 18) C E dX9_keep_18 hF
  · have hF := hF.2 hc
    refine xg_iload_n (pc := 4) C dX9_keep_4 1 rfl ?_
    refine xg_iconst (pc := 5) (v := 4) C dX9_keep_5 (by decide) ?_
    refine xg_icmp_ge (pc := 6) 18 C dX9_keep_6 (by decide) (fun hc => ?_) (fun hc => ?_)
    · have hF := hF.1 hc
      exact xg_retV (pc := 18) C E dX9_keep_18 hF
    · have hF := hF.2 hc
      refine xg_iload_n (pc := 9) C dX9_keep_9 2 rfl ?_
      refine xg_if_lt (pc := 10) 18 C dX9_keep_10 (by decide) (fun hc => ?_) (fun hc => ?_)
      · have hF := hF.1 hc
        exact xg_retV (pc := 18) C E dX9_keep_18 hF
      · have hF := hF.2 hc
        refine xg_iload_n (pc := 13) C dX9_keep_13 2 rfl ?_
        refine xg_iconst (pc := 14) (v := 2) C dX9_keep_14 (by decide) ?_
        refine xg_icmp_lt (pc := 15) 19 C dX9_keep_15 (by decide) (fun hc => ?_) (fun hc => ?_)
        · have hF := hF.1 hc
          refine xg_aload_n (pc := 19) C dX9_keep_19 0 rfl ?_
          refine xg_getr (pc := 20) (C1 := RX9) (T1 := TX9) (ci := 9) (ref := "SandGlasses$Told") C inm_X9_keep_9 rfl (by decide) 5 (by decide) rfl dX9_keep_20 (List.mem_of_getElem? (i := 1) rfl) rfl rfl hthis ?_
          refine xg_iload_n (pc := 23) C dX9_keep_23 1 rfl ?_
          refine xg_iconst (pc := 24) (v := 2) C dX9_keep_24 (by decide) ?_
          refine xg_imul (pc := 25) C dX9_keep_25 ?_
          refine xg_iload_n (pc := 26) C dX9_keep_26 2 rfl ?_
          refine xg_iadd (pc := 27) C dX9_keep_27 ?_
          obtain ⟨a1, ha1, hka1, hF⟩ := hF
          obtain ⟨hi, hF⟩ := hF
          refine xg_aald (pc := 28) (c9 := 27) (C9 := "SandGlasses$Text") C ha1 hka1 (by decide) rfl hi dX9_keep_28 ?_
          refine xg_aload_n (pc := 29) C dX9_keep_29 3 rfl ?_
          obtain ⟨a2, ha2, hka2, hF⟩ := hF
          refine xg_cvV (pc := 30) (C1 := RX8) (T1 := TX8) (ci := 8) C (fun zs => [va_rf x3]) ha2 hka2 (by decide) rfl (met_X8_become Y a2 x3) gX9_keep_X8_become rfl ⟨rfl, rfl⟩ nd_X8_become ⟨Nat.le_of_ble_eq_true rfl, Nat.le_of_ble_eq_true rfl⟩ rfl rfl (Nat.le_of_ble_eq_true rfl) ⟨Nat.zero_le _, Nat.zero_le _⟩ dX9_keep_30 hF (fun h3 hF => ?_)
          refine xg_aload_n (pc := 33) C dX9_keep_33 0 rfl ?_
          refine xg_getr (pc := 34) (C1 := RX9) (T1 := TX9) (ci := 9) (ref := "SandGlasses$Told") C inm_X9_keep_9 rfl (by decide) 4 (by decide) rfl dX9_keep_34 (List.mem_of_getElem? (i := 2) rfl) rfl rfl hthis ?_
          refine xg_iload_n (pc := 37) C dX9_keep_37 1 rfl ?_
          refine xg_aload_n (pc := 38) C dX9_keep_38 0 rfl ?_
          refine xg_getr (pc := 39) (C1 := RX9) (T1 := TX9) (ci := 9) (ref := "SandGlasses$Told") C inm_X9_keep_9 rfl (by decide) 4 (by decide) rfl dX9_keep_39 (List.mem_of_getElem? (i := 2) rfl) rfl rfl hthis ?_
          refine xg_iload_n (pc := 42) C dX9_keep_42 1 rfl ?_
          obtain ⟨a4, ha4, hka4, hF⟩ := hF
          obtain ⟨hi, hF⟩ := hF
          refine xg_iald (pc := 43) C ha4 hka4 hi dX9_keep_43 ?_
          refine xg_iload_n (pc := 44) C dX9_keep_44 2 rfl ?_
          refine xg_iconst (pc := 45) (v := 1) C dX9_keep_45 (by decide) ?_
          refine xg_iadd (pc := 46) C dX9_keep_46 ?_
          refine xg_mmax (pc := 47) C (List.mem_of_getElem? (i := 3) rfl) (List.mem_of_getElem? (i := 4) rfl) (List.mem_of_getElem? (i := 5) rfl) (List.mem_of_getElem? (i := 6) rfl) (Nat.le_of_ble_eq_true rfl) (by simp [xg_rf_cat, xg_cat_i, xg_cat_l, xg_cat_a, rm_X9_keep]) (Nat.zero_le _) (Nat.zero_le _) dX9_keep_47 ?_
          refine xg_topi (pc := 50) (fun z5 ez5 => ?_)
          have hF := hF z5 ez5
          obtain ⟨hi, hF⟩ := hF
          refine xg_iast (pc := 50) C ha4 hka4 hi dX9_keep_50 (fun h6 eh6 => ?_)
          have hF := hF h6 eh6
          exact xg_retV (pc := 51) C E dX9_keep_51 hF
        · have hF := hF.2 hc
          exact xg_retV (pc := 18) C E dX9_keep_18 hF
def rm_X11_text : Room := { frames := 8, cells := 0, slots := 0, locals := 176 }
theorem nd_X11_text : yX11_text.cls = RX11 ∧ yX11_text.cls ≠ "java/lang/invoke/MethodHandle" ∧ yX11_text.cls ≠ "java/lang/invoke/VarHandle" ∧ (parseMethodDescriptor yX11_text.desc).map (fun d => d.parameters.length) = some 2 := by decide +kernel
theorem inm_X11_text_6 : ∀ w ∈ u_ws RX6 TX6 (xg_N 6), w ∈ wsX11_text := fun _ h9 => List.mem_cons_of_mem _ (List.mem_append_left _ (List.mem_append_right _ h9))
theorem inm_X11_text_9 : ∀ w ∈ u_ws RX9 TX9 (xg_N 9), w ∈ wsX11_text := fun _ h9 => List.mem_cons_of_mem _ (List.mem_append_left _ (List.mem_append_left _ (List.mem_append_right _ h9)))
theorem inm_X11_text_11 : ∀ w ∈ u_ws RX11 TX11 (xg_N 11), w ∈ wsX11_text := fun _ h9 => List.mem_cons_of_mem _ (List.mem_append_left _ (List.mem_append_left _ (List.mem_append_left _ (List.mem_append_right _ h9))))
set_option maxHeartbeats 4000000 in
set_option maxRecDepth 100000 in
theorem met_X11_text (Y : xg_Y) (this : Nat) (x1 : Int32) (x2 : Int32) : xg_MI yX11_text wsX11_text rm_X11_text Y (fun zs => [va_rf (some this), .int x1, .int x2]) (fun Q h => wp_X11_text Y Q this x1 x2 h) := by
  refine xg_startI (cc := cX11_text) (maxL := 5) (own := RX11) (by decide) rfl rfl (fun zs => Nat.le_of_ble_eq_true rfl) (fun X Q h C hnL E hw => ?_)
  unfold wp_X11_text at hw
  obtain ⟨hthis, hw⟩ := hw
  refine xg_sub (lv2 := [(0, va_rf (some this)), (1, .int x1), (2, .int x2)]) [0, 1, 2] rfl ?_
  have hF := hw
  refine xg_aload_n (pc := 0) C dX11_text_0 0 rfl ?_
  refine xg_getr (pc := 1) (C1 := RX11) (T1 := TX11) (ci := 11) (ref := "SandGlasses") C inm_X11_text_11 rfl (by decide) 0 (by decide) rfl dX11_text_1 (List.mem_of_getElem? (i := 1) rfl) rfl rfl hthis ?_
  obtain ⟨a1, ha1, hka1, hF⟩ := hF
  refine xg_geti (pc := 4) (C1 := RX9) (T1 := TX9) (ci := 9) (ref := "SandGlasses$Told") C inm_X11_text_9 rfl (by decide) 1 (by decide) rfl dX11_text_4 (List.mem_of_getElem? (i := 2) rfl) rfl ha1 hka1 ?_
  refine xg_topi (pc := 7) (fun z2 ez2 => ?_)
  have hF := hF z2 ez2
  refine xg_istore_n (pc := 7) (lv2 := [(3, .int z2), (0, va_rf (some this)), (1, .int x1), (2, .int x2)]) C dX11_text_7 5 hnL (by decide) rfl ?_
  refine xg_aload_n (pc := 8) C dX11_text_8 1 rfl ?_
  refine xg_getr (pc := 9) (C1 := RX11) (T1 := TX11) (ci := 11) (ref := "SandGlasses") C inm_X11_text_11 rfl (by decide) 0 (by decide) rfl dX11_text_9 (List.mem_of_getElem? (i := 1) rfl) rfl rfl hthis ?_
  refine xg_iconst (pc := 12) (v := 0) C dX11_text_12 (by decide) ?_
  refine xg_puti (pc := 13) (C1 := RX9) (T1 := TX9) (ci := 9) (ref := "SandGlasses$Told") C inm_X11_text_9 rfl (by decide) tyX9 tyX9_ok nmX9 1 (by decide) rfl dX11_text_13 (List.mem_of_getElem? (i := 2) rfl) rfl rfl (tyX9_ok 1 (by decide)) ha1 hka1 (fun h3 eh3 => ?_)
  have hF := hF h3 eh3
  refine xg_aload_n (pc := 16) C dX11_text_16 1 rfl ?_
  refine xg_getr (pc := 17) (C1 := RX11) (T1 := TX11) (ci := 11) (ref := "SandGlasses") C inm_X11_text_11 rfl (by decide) 0 (by decide) rfl dX11_text_17 (List.mem_of_getElem? (i := 1) rfl) rfl rfl hthis ?_
  refine xg_iconst (pc := 20) (v := 0) C dX11_text_20 (by decide) ?_
  obtain ⟨a4, ha4, hka4, hF⟩ := hF
  refine xg_puti (pc := 21) (C1 := RX9) (T1 := TX9) (ci := 9) (ref := "SandGlasses$Told") C inm_X11_text_9 rfl (by decide) tyX9 tyX9_ok nmX9 2 (by decide) rfl dX11_text_21 (List.mem_of_getElem? (i := 3) rfl) rfl rfl (tyX9_ok 2 (by decide)) ha4 hka4 (fun h5 eh5 => ?_)
  have hF := hF h5 eh5
  refine xg_aload_n (pc := 24) C dX11_text_24 1 rfl ?_
  refine xg_getr (pc := 25) (C1 := RX11) (T1 := TX11) (ci := 11) (ref := "SandGlasses") C inm_X11_text_11 rfl (by decide) 0 (by decide) rfl dX11_text_25 (List.mem_of_getElem? (i := 1) rfl) rfl rfl hthis ?_
  refine xg_iconst (pc := 28) (v := (-1)) C dX11_text_28 (by decide) ?_
  obtain ⟨a6, ha6, hka6, hF⟩ := hF
  refine xg_puti (pc := 29) (C1 := RX9) (T1 := TX9) (ci := 9) (ref := "SandGlasses$Told") C inm_X11_text_9 rfl (by decide) tyX9 tyX9_ok nmX9 3 (by decide) rfl dX11_text_29 (List.mem_of_getElem? (i := 4) rfl) rfl rfl (tyX9_ok 3 (by decide)) ha6 hka6 (fun h7 eh7 => ?_)
  have hF := hF h7 eh7
  refine xg_aload_n (pc := 32) C dX11_text_32 1 rfl ?_
  refine xg_getr (pc := 33) (C1 := RX11) (T1 := TX11) (ci := 11) (ref := "SandGlasses") C inm_X11_text_11 rfl (by decide) 0 (by decide) rfl dX11_text_33 (List.mem_of_getElem? (i := 1) rfl) rfl rfl hthis ?_
  refine xg_iload_n (pc := 36) C dX11_text_36 2 rfl ?_
  refine xg_iload_n (pc := 37) C dX11_text_37 3 rfl ?_
  obtain ⟨a8, ha8, hka8, hF⟩ := hF
  refine xg_cvI (pc := 38) (C1 := RX9) (T1 := TX9) (ci := 9) C (fun zs => [.int x1, .int x2]) ha8 hka8 (by decide) rfl (met_X9_numberFor Y a8 x1 x2) gX11_text_X9_numberFor rfl ⟨rfl, rfl⟩ nd_X9_numberFor ⟨Nat.le_of_ble_eq_true rfl, Nat.le_of_ble_eq_true rfl⟩ rfl rfl (Nat.le_of_ble_eq_true rfl) ⟨Nat.zero_le _, Nat.zero_le _⟩ dX11_text_38 hF (fun r10 h9 hF => ?_)
  refine xg_istore (pc := 41) (lv2 := [(4, .int r10), (3, .int z2), (0, va_rf (some this)), (1, .int x1), (2, .int x2)]) C dX11_text_41 5 hnL (by decide) rfl ?_
  refine xg_iload (pc := 43) C dX11_text_43 0 rfl ?_
  refine xg_iconst (pc := 45) (v := (-1)) C dX11_text_45 (by decide) ?_
  refine xg_icmp_ne (pc := 46) 52 C dX11_text_46 (by decide) (fun hc => ?_) (fun hc => ?_)
  · have hF := hF.1 hc
    refine xg_aload_n (pc := 52) C dX11_text_52 2 rfl ?_
    refine xg_getr (pc := 53) (C1 := RX11) (T1 := TX11) (ci := 11) (ref := "SandGlasses") C inm_X11_text_11 rfl (by decide) 2 (by decide) rfl dX11_text_53 (List.mem_of_getElem? (i := 5) rfl) rfl rfl hthis ?_
    refine xg_iload_n (pc := 56) C dX11_text_56 3 rfl ?_
    refine xg_aload_n (pc := 57) C dX11_text_57 2 rfl ?_
    refine xg_getr (pc := 58) (C1 := RX11) (T1 := TX11) (ci := 11) (ref := "SandGlasses") C inm_X11_text_11 rfl (by decide) 0 (by decide) rfl dX11_text_58 (List.mem_of_getElem? (i := 1) rfl) rfl rfl hthis ?_
    obtain ⟨a11, ha11, hka11, hF⟩ := hF
    refine xg_getr (pc := 61) (C1 := RX9) (T1 := TX9) (ci := 9) (ref := "SandGlasses$Told") C inm_X11_text_9 rfl (by decide) 0 (by decide) rfl dX11_text_61 (List.mem_of_getElem? (i := 6) rfl) rfl ha11 hka11 ?_
    refine xg_iload_n (pc := 64) C dX11_text_64 1 rfl ?_
    obtain ⟨a12, ha12, hka12, hF⟩ := hF
    refine xg_cvV (pc := 65) (C1 := RX6) (T1 := TX6) (ci := 6) C (fun zs => [.int x1, va_rf (xg_o h9 a11 0), .int z2]) ha12 hka12 (by decide) rfl (met_X6_read Y a12 x1 (xg_o h9 a11 0) z2) gX11_text_X6_read rfl ⟨rfl, rfl⟩ nd_X6_read ⟨Nat.le_of_ble_eq_true rfl, Nat.le_of_ble_eq_true rfl⟩ rfl rfl (Nat.le_of_ble_eq_true rfl) ⟨Nat.zero_le _, Nat.zero_le _⟩ dX11_text_65 hF (fun h13 hF => ?_)
    refine xg_aload_n (pc := 68) C dX11_text_68 2 rfl ?_
    refine xg_getr (pc := 69) (C1 := RX11) (T1 := TX11) (ci := 11) (ref := "SandGlasses") C inm_X11_text_11 rfl (by decide) 0 (by decide) rfl dX11_text_69 (List.mem_of_getElem? (i := 1) rfl) rfl rfl hthis ?_
    refine xg_aload_n (pc := 72) C dX11_text_72 2 rfl ?_
    refine xg_getr (pc := 73) (C1 := RX11) (T1 := TX11) (ci := 11) (ref := "SandGlasses") C inm_X11_text_11 rfl (by decide) 2 (by decide) rfl dX11_text_73 (List.mem_of_getElem? (i := 5) rfl) rfl rfl hthis ?_
    obtain ⟨a14, ha14, hka14, hF⟩ := hF
    refine xg_geti (pc := 76) (C1 := RX6) (T1 := TX6) (ci := 6) (ref := "SandGlasses$Reader") C inm_X11_text_6 rfl (by decide) 0 (by decide) rfl dX11_text_76 (List.mem_of_getElem? (i := 7) rfl) rfl ha14 hka14 ?_
    obtain ⟨a15, ha15, hka15, hF⟩ := hF
    refine xg_puti (pc := 79) (C1 := RX9) (T1 := TX9) (ci := 9) (ref := "SandGlasses$Told") C inm_X11_text_9 rfl (by decide) tyX9 tyX9_ok nmX9 2 (by decide) rfl dX11_text_79 (List.mem_of_getElem? (i := 3) rfl) rfl rfl (tyX9_ok 2 (by decide)) ha15 hka15 (fun h16 eh16 => ?_)
    have hF := hF h16 eh16
    refine xg_aload_n (pc := 82) C dX11_text_82 2 rfl ?_
    refine xg_getr (pc := 83) (C1 := RX11) (T1 := TX11) (ci := 11) (ref := "SandGlasses") C inm_X11_text_11 rfl (by decide) 0 (by decide) rfl dX11_text_83 (List.mem_of_getElem? (i := 1) rfl) rfl rfl hthis ?_
    refine xg_aload_n (pc := 86) C dX11_text_86 2 rfl ?_
    refine xg_getr (pc := 87) (C1 := RX11) (T1 := TX11) (ci := 11) (ref := "SandGlasses") C inm_X11_text_11 rfl (by decide) 2 (by decide) rfl dX11_text_87 (List.mem_of_getElem? (i := 5) rfl) rfl rfl hthis ?_
    obtain ⟨a17, ha17, hka17, hF⟩ := hF
    refine xg_geti (pc := 90) (C1 := RX6) (T1 := TX6) (ci := 6) (ref := "SandGlasses$Reader") C inm_X11_text_6 rfl (by decide) 1 (by decide) rfl dX11_text_90 (List.mem_of_getElem? (i := 8) rfl) rfl ha17 hka17 ?_
    obtain ⟨a18, ha18, hka18, hF⟩ := hF
    refine xg_puti (pc := 93) (C1 := RX9) (T1 := TX9) (ci := 9) (ref := "SandGlasses$Told") C inm_X11_text_9 rfl (by decide) tyX9 tyX9_ok nmX9 3 (by decide) rfl dX11_text_93 (List.mem_of_getElem? (i := 4) rfl) rfl rfl (tyX9_ok 3 (by decide)) ha18 hka18 (fun h19 eh19 => ?_)
    have hF := hF h19 eh19
    refine xg_aload_n (pc := 96) C dX11_text_96 2 rfl ?_
    refine xg_getr (pc := 97) (C1 := RX11) (T1 := TX11) (ci := 11) (ref := "SandGlasses") C inm_X11_text_11 rfl (by decide) 2 (by decide) rfl dX11_text_97 (List.mem_of_getElem? (i := 5) rfl) rfl rfl hthis ?_
    obtain ⟨a20, ha20, hka20, hF⟩ := hF
    refine xg_geti (pc := 100) (C1 := RX6) (T1 := TX6) (ci := 6) (ref := "SandGlasses$Reader") C inm_X11_text_6 rfl (by decide) 0 (by decide) rfl dX11_text_100 (List.mem_of_getElem? (i := 7) rfl) rfl ha20 hka20 ?_
    refine xg_if_eq (pc := 103) 108 C dX11_text_103 (by decide) (fun hc => ?_) (fun hc => ?_)
    · have hF := hF.1 hc
      refine xg_aload_n (pc := 108) C dX11_text_108 2 rfl ?_
      refine xg_getr (pc := 109) (C1 := RX11) (T1 := TX11) (ci := 11) (ref := "SandGlasses") C inm_X11_text_11 rfl (by decide) 0 (by decide) rfl dX11_text_109 (List.mem_of_getElem? (i := 1) rfl) rfl rfl hthis ?_
      refine xg_iload_n (pc := 112) C dX11_text_112 3 rfl ?_
      refine xg_iload (pc := 113) C dX11_text_113 0 rfl ?_
      refine xg_aload_n (pc := 115) C dX11_text_115 2 rfl ?_
      refine xg_getr (pc := 116) (C1 := RX11) (T1 := TX11) (ci := 11) (ref := "SandGlasses") C inm_X11_text_11 rfl (by decide) 2 (by decide) rfl dX11_text_116 (List.mem_of_getElem? (i := 5) rfl) rfl rfl hthis ?_
      refine xg_iload_n (pc := 119) C dX11_text_119 3 rfl ?_
      refine xg_cvR (pc := 120) (C1 := RX6) (T1 := TX6) (ci := 6) C (fun zs => [.int x1]) ha20 hka20 (by decide) rfl (met_X6_draft Y a20 x1) gX11_text_X6_draft rfl ⟨rfl, rfl⟩ nd_X6_draft ⟨Nat.le_of_ble_eq_true rfl, Nat.le_of_ble_eq_true rfl⟩ rfl rfl (by simp [xg_rf_cat, xg_cat_i, xg_cat_l, xg_cat_a]) ⟨Nat.zero_le _, Nat.zero_le _⟩ dX11_text_120 hF (fun r22 h21 hF => ?_)
      obtain ⟨a23, ha23, hka23, hF⟩ := hF
      refine xg_cvV (pc := 123) (C1 := RX9) (T1 := TX9) (ci := 9) C (fun zs => [.int x1, .int r10, va_rf r22]) ha23 hka23 (by decide) rfl (met_X9_keep Y a23 x1 r10 r22) gX11_text_X9_keep rfl ⟨rfl, rfl⟩ nd_X9_keep ⟨Nat.le_of_ble_eq_true rfl, Nat.le_of_ble_eq_true rfl⟩ rfl rfl (Nat.le_of_ble_eq_true rfl) ⟨Nat.zero_le _, Nat.zero_le _⟩ dX11_text_123 hF (fun h24 hF => ?_)
      refine xg_iload (pc := 126) C dX11_text_126 0 rfl ?_
      exact xg_retI (pc := 128) C E dX11_text_128 hF
    · have hF := hF.2 hc
      refine xg_iconst (pc := 106) (v := (-1)) C dX11_text_106 (by decide) ?_
      exact xg_retI (pc := 107) C E dX11_text_107 hF
  · have hF := hF.2 hc
    refine xg_bipush (pc := 49) (v := (-2)) C dX11_text_49 (by decide) ?_
    exact xg_retI (pc := 51) C E dX11_text_51 hF
def rm_X1_allGlasses : Room := { frames := 0, cells := 0, slots := 0, locals := 0 }
theorem nd_X1_allGlasses : yX1_allGlasses.cls = RX1 ∧ yX1_allGlasses.cls ≠ "java/lang/invoke/MethodHandle" ∧ yX1_allGlasses.cls ≠ "java/lang/invoke/VarHandle" ∧ (parseMethodDescriptor yX1_allGlasses.desc).map (fun d => d.parameters.length) = some 0 := by decide +kernel
theorem inm_X1_allGlasses_1 : ∀ w ∈ u_ws RX1 TX1 (xg_N 1), w ∈ wsX1_allGlasses := fun _ h9 => List.mem_cons_of_mem _ (List.mem_append_right _ h9)
set_option maxHeartbeats 4000000 in
set_option maxRecDepth 100000 in
theorem met_X1_allGlasses (Y : xg_Y) (this : Nat) : xg_MI yX1_allGlasses wsX1_allGlasses rm_X1_allGlasses Y (fun zs => [va_rf (some this)]) (fun Q h => wp_X1_allGlasses Y Q this h) := by
  refine xg_startI (cc := cX1_allGlasses) (maxL := 1) (own := RX1) (by decide) rfl rfl (fun zs => Nat.le_of_ble_eq_true rfl) (fun X Q h C hnL E hw => ?_)
  unfold wp_X1_allGlasses at hw
  obtain ⟨hthis, hw⟩ := hw
  refine xg_sub (lv2 := [(0, va_rf (some this))]) [0] rfl ?_
  have hF := hw
  refine xg_iconst (pc := 0) (v := 1) C dX1_allGlasses_0 (by decide) ?_
  refine xg_aload_n (pc := 1) C dX1_allGlasses_1 0 rfl ?_
  refine xg_geti (pc := 2) (C1 := RX1) (T1 := TX1) (ci := 1) (ref := "SandGlasses$Book") C inm_X1_allGlasses_1 rfl (by decide) 14 (by decide) rfl dX1_allGlasses_2 (List.mem_of_getElem? (i := 1) rfl) rfl rfl hthis ?_
  refine xg_ishl (pc := 5) C dX1_allGlasses_5 ?_
  refine xg_iconst (pc := 6) (v := 1) C dX1_allGlasses_6 (by decide) ?_
  refine xg_isub (pc := 7) C dX1_allGlasses_7 ?_
  exact xg_retI (pc := 8) C E dX1_allGlasses_8 hF
def rm_X1_allAtOnce : Room := { frames := 1, cells := 0, slots := 0, locals := 23 }
theorem nd_X1_allAtOnce : yX1_allAtOnce.cls = RX1 ∧ yX1_allAtOnce.cls ≠ "java/lang/invoke/MethodHandle" ∧ yX1_allAtOnce.cls ≠ "java/lang/invoke/VarHandle" ∧ (parseMethodDescriptor yX1_allAtOnce.desc).map (fun d => d.parameters.length) = some 0 := by decide +kernel
theorem inm_X1_allAtOnce_1 : ∀ w ∈ u_ws RX1 TX1 (xg_N 1), w ∈ wsX1_allAtOnce := fun _ h9 => List.mem_cons_of_mem _ (List.mem_append_left _ (List.mem_append_right _ h9))
theorem inm_X1_allAtOnce_10 : ∀ w ∈ u_ws RX10 TX10 (xg_N 10), w ∈ wsX1_allAtOnce := fun _ h9 => List.mem_cons_of_mem _ (List.mem_append_right _ h9)
set_option maxHeartbeats 4000000 in
set_option maxRecDepth 100000 in
theorem met_X1_allAtOnce (Y : xg_Y) (this : Nat) : xg_MI yX1_allAtOnce wsX1_allAtOnce rm_X1_allAtOnce Y (fun zs => [va_rf (some this)]) (fun Q h => wp_X1_allAtOnce Y Q this h) := by
  refine xg_startI (cc := cX1_allAtOnce) (maxL := 6) (own := RX1) (by decide) rfl rfl (fun zs => Nat.le_of_ble_eq_true rfl) (fun X Q h C hnL E hw => ?_)
  unfold wp_X1_allAtOnce at hw
  obtain ⟨hthis, hw⟩ := hw
  refine xg_sub (lv2 := [(0, va_rf (some this))]) [0] rfl ?_
  refine mg_use (hw (fun (y1 : Int32) (y2 : Int32) (y3 : Int32) (h : xg_H) => xg_W X 0 0 Y 19 [(0, va_rf (some this)), (1, .int y1), (2, .int y2), (3, .int y3)] [] h) (fun (y1 : Int32) (y2 : Int32) (y3 : Int32) (y4 : Int32) (h : xg_H) => xg_W X 0 0 Y 33 [(0, va_rf (some this)), (1, .int y1), (2, .int y2), (3, .int y3), (4, .int y4)] [] h) (fun (y1 : Int32) (y2 : Int32) (y3 : Int32) (h : xg_H) => xg_W X 0 0 Y 131 [(0, va_rf (some this)), (1, .int y1), (2, .int y2), (3, .int y3)] [] h) (fun (y1 : Int32) (y2 : Int32) (y3 : Int32) (y4 : Int32) (h : xg_H) => xg_W X 0 0 Y 125 [(0, va_rf (some this)), (1, .int y1), (2, .int y2), (3, .int y3), (4, .int y4)] [] h) ?_ ?_ ?_ ?_) (fun hF => ?_)
  · intro y1 y2 y3 h hF
    refine xg_iload_n (pc := 19) C dX1_allAtOnce_19 3 rfl ?_
    refine xg_aload_n (pc := 20) C dX1_allAtOnce_20 0 rfl ?_
    refine xg_getr (pc := 21) (C1 := RX1) (T1 := TX1) (ci := 1) (ref := "SandGlasses$Book") C inm_X1_allAtOnce_1 rfl (by decide) 0 (by decide) rfl dX1_allAtOnce_21 (List.mem_of_getElem? (i := 1) rfl) rfl rfl hthis ?_
    obtain ⟨a4, ha4, hka4, hF⟩ := hF
    refine xg_geti (pc := 24) (C1 := RX10) (T1 := TX10) (ci := 10) (ref := "SandGlasses$Walk") C inm_X1_allAtOnce_10 rfl (by decide) 4 (by decide) rfl dX1_allAtOnce_24 (List.mem_of_getElem? (i := 2) rfl) rfl ha4 hka4 ?_
    refine xg_icmp_ge (pc := 27) 137 C dX1_allAtOnce_27 (by decide) (fun hc => ?_) (fun hc => ?_)
    · have hF := hF.1 hc
      refine xg_iload_n (pc := 137) C dX1_allAtOnce_137 2 rfl ?_
      exact xg_retI (pc := 138) C E dX1_allAtOnce_138 hF
    · have hF := hF.2 hc
      refine xg_iconst (pc := 30) (v := 0) C dX1_allAtOnce_30 (by decide) ?_
      refine xg_istore (pc := 31) (lv2 := [(4, .int 0), (0, va_rf (some this)), (1, .int y1), (2, .int y2), (3, .int y3)]) C dX1_allAtOnce_31 6 hnL (by decide) rfl ?_
      refine xg_sub (lv2 := [(0, va_rf (some this)), (1, .int y1), (2, .int y2), (3, .int y3), (4, .int 0)]) [1, 2, 3, 4, 0] rfl ?_
      exact hF
  · intro y1 y2 y3 y4 h hF
    refine xg_iload (pc := 33) C dX1_allAtOnce_33 4 rfl ?_
    refine xg_aload_n (pc := 35) C dX1_allAtOnce_35 0 rfl ?_
    refine xg_getr (pc := 36) (C1 := RX1) (T1 := TX1) (ci := 1) (ref := "SandGlasses$Book") C inm_X1_allAtOnce_1 rfl (by decide) 0 (by decide) rfl dX1_allAtOnce_36 (List.mem_of_getElem? (i := 1) rfl) rfl rfl hthis ?_
    obtain ⟨a5, ha5, hka5, hF⟩ := hF
    refine xg_geti (pc := 39) (C1 := RX10) (T1 := TX10) (ci := 10) (ref := "SandGlasses$Walk") C inm_X1_allAtOnce_10 rfl (by decide) 5 (by decide) rfl dX1_allAtOnce_39 (List.mem_of_getElem? (i := 3) rfl) rfl ha5 hka5 ?_
    refine xg_icmp_ge (pc := 42) 131 C dX1_allAtOnce_42 (by decide) (fun hc => ?_) (fun hc => ?_)
    · have hF := hF.1 hc
      refine xg_sub (lv2 := [(0, va_rf (some this)), (1, .int y1), (2, .int y2), (3, .int y3)]) [0, 1, 2, 3] rfl ?_
      exact hF
    · have hF := hF.2 hc
      refine xg_aload_n (pc := 45) C dX1_allAtOnce_45 0 rfl ?_
      refine xg_getr (pc := 46) (C1 := RX1) (T1 := TX1) (ci := 1) (ref := "SandGlasses$Book") C inm_X1_allAtOnce_1 rfl (by decide) 0 (by decide) rfl dX1_allAtOnce_46 (List.mem_of_getElem? (i := 1) rfl) rfl rfl hthis ?_
      refine xg_getr (pc := 49) (C1 := RX10) (T1 := TX10) (ci := 10) (ref := "SandGlasses$Walk") C inm_X1_allAtOnce_10 rfl (by decide) 1 (by decide) rfl dX1_allAtOnce_49 (List.mem_of_getElem? (i := 4) rfl) rfl ha5 hka5 ?_
      refine xg_iload_n (pc := 52) C dX1_allAtOnce_52 3 rfl ?_
      obtain ⟨a6, ha6, hka6, hF⟩ := hF
      obtain ⟨hi, hF⟩ := hF
      refine xg_iald (pc := 53) C ha6 hka6 hi dX1_allAtOnce_53 ?_
      refine xg_if_eq (pc := 54) 131 C dX1_allAtOnce_54 (by decide) (fun hc => ?_) (fun hc => ?_)
      · have hF := hF.1 hc
        refine xg_sub (lv2 := [(0, va_rf (some this)), (1, .int y1), (2, .int y2), (3, .int y3)]) [0, 1, 2, 3] rfl ?_
        exact hF
      · have hF := hF.2 hc
        refine xg_aload_n (pc := 57) C dX1_allAtOnce_57 0 rfl ?_
        refine xg_getr (pc := 58) (C1 := RX1) (T1 := TX1) (ci := 1) (ref := "SandGlasses$Book") C inm_X1_allAtOnce_1 rfl (by decide) 0 (by decide) rfl dX1_allAtOnce_58 (List.mem_of_getElem? (i := 1) rfl) rfl rfl hthis ?_
        refine xg_getr (pc := 61) (C1 := RX10) (T1 := TX10) (ci := 10) (ref := "SandGlasses$Walk") C inm_X1_allAtOnce_10 rfl (by decide) 3 (by decide) rfl dX1_allAtOnce_61 (List.mem_of_getElem? (i := 5) rfl) rfl ha5 hka5 ?_
        refine xg_iload_n (pc := 64) C dX1_allAtOnce_64 3 rfl ?_
        refine xg_bipush (pc := 65) (v := 16) C dX1_allAtOnce_65 (by decide) ?_
        refine xg_imul (pc := 67) C dX1_allAtOnce_67 ?_
        refine xg_iload (pc := 68) C dX1_allAtOnce_68 4 rfl ?_
        refine xg_iadd (pc := 70) C dX1_allAtOnce_70 ?_
        obtain ⟨a7, ha7, hka7, hF⟩ := hF
        obtain ⟨hi, hF⟩ := hF
        refine xg_iald (pc := 71) C ha7 hka7 hi dX1_allAtOnce_71 ?_
        refine xg_bipush (pc := 72) (v := 12) C dX1_allAtOnce_72 (by decide) ?_
        refine xg_ishr (pc := 74) C dX1_allAtOnce_74 ?_
        refine xg_topi (pc := 75) (fun z8 ez8 => ?_)
        have hF := hF z8 ez8
        refine xg_istore (pc := 75) (lv2 := [(5, .int z8), (0, va_rf (some this)), (1, .int y1), (2, .int y2), (3, .int y3), (4, .int y4)]) C dX1_allAtOnce_75 6 hnL (by decide) rfl ?_
        refine xg_iload (pc := 77) C dX1_allAtOnce_77 0 rfl ?_
        refine xg_if_le (pc := 79) 125 C dX1_allAtOnce_79 (by decide) (fun hc => ?_) (fun hc => ?_)
        · have hF := hF.1 hc
          refine xg_sub (lv2 := [(0, va_rf (some this)), (1, .int y1), (2, .int y2), (3, .int y3), (4, .int y4)]) [1, 2, 3, 4, 5] rfl ?_
          exact hF
        · have hF := hF.2 hc
          refine xg_aload_n (pc := 82) C dX1_allAtOnce_82 1 rfl ?_
          refine xg_geti (pc := 83) (C1 := RX1) (T1 := TX1) (ci := 1) (ref := "SandGlasses$Book") C inm_X1_allAtOnce_1 rfl (by decide) 12 (by decide) rfl dX1_allAtOnce_83 (List.mem_of_getElem? (i := 6) rfl) rfl rfl hthis ?_
          refine xg_aload_n (pc := 86) C dX1_allAtOnce_86 1 rfl ?_
          refine xg_getr (pc := 87) (C1 := RX1) (T1 := TX1) (ci := 1) (ref := "SandGlasses$Book") C inm_X1_allAtOnce_1 rfl (by decide) 0 (by decide) rfl dX1_allAtOnce_87 (List.mem_of_getElem? (i := 1) rfl) rfl rfl hthis ?_
          refine xg_getr (pc := 90) (C1 := RX10) (T1 := TX10) (ci := 10) (ref := "SandGlasses$Walk") C inm_X1_allAtOnce_10 rfl (by decide) 0 (by decide) rfl dX1_allAtOnce_90 (List.mem_of_getElem? (i := 7) rfl) rfl ha5 hka5 ?_
          refine xg_iload_n (pc := 93) C dX1_allAtOnce_93 4 rfl ?_
          obtain ⟨a9, ha9, hka9, hF⟩ := hF
          obtain ⟨hi, hF⟩ := hF
          refine xg_iald (pc := 94) C ha9 hka9 hi dX1_allAtOnce_94 ?_
          refine xg_iload (pc := 95) C dX1_allAtOnce_95 5 rfl ?_
          refine xg_cnI (pc := 97) (host := "SandGlasses") C (fun zs => [.int (xg_i h this 12), .int (xg_i h a9 y3.toNatClampNeg), .int y4]) (by decide +kernel) (List.mem_of_getElem? (i := 16) rfl) (List.mem_of_getElem? (i := 15) rfl) (met_X11_turned Y (xg_i h this 12) (xg_i h a9 y3.toNatClampNeg) y4) gX1_allAtOnce_X11_turned_n162 rfl ⟨rfl, rfl⟩ nd_X11_turned.2 ⟨Nat.le_of_ble_eq_true rfl, Nat.le_of_ble_eq_true rfl⟩ rfl rfl (Nat.le_of_ble_eq_true rfl) ⟨Nat.zero_le _, Nat.zero_le _⟩ dX1_allAtOnce_97 hF (fun r11 h10 hF => ?_)
          refine xg_iload (pc := 100) C dX1_allAtOnce_100 0 rfl ?_
          refine xg_iload_n (pc := 102) C dX1_allAtOnce_102 2 rfl ?_
          refine xg_imul (pc := 103) C dX1_allAtOnce_103 ?_
          refine xg_icmp_ne (pc := 104) 125 C dX1_allAtOnce_104 (by decide) (fun hc => ?_) (fun hc => ?_)
          · have hF := hF.1 hc
            refine xg_sub (lv2 := [(0, va_rf (some this)), (1, .int y1), (2, .int y2), (3, .int y3), (4, .int y4)]) [1, 2, 3, 4, 5] rfl ?_
            exact hF
          · have hF := hF.2 hc
            refine xg_iload_n (pc := 107) C dX1_allAtOnce_107 3 rfl ?_
            refine xg_aload_n (pc := 108) C dX1_allAtOnce_108 1 rfl ?_
            refine xg_getr (pc := 109) (C1 := RX1) (T1 := TX1) (ci := 1) (ref := "SandGlasses$Book") C inm_X1_allAtOnce_1 rfl (by decide) 0 (by decide) rfl dX1_allAtOnce_109 (List.mem_of_getElem? (i := 1) rfl) rfl rfl hthis ?_
            obtain ⟨a12, ha12, hka12, hF⟩ := hF
            refine xg_getr (pc := 112) (C1 := RX10) (T1 := TX10) (ci := 10) (ref := "SandGlasses$Walk") C inm_X1_allAtOnce_10 rfl (by decide) 1 (by decide) rfl dX1_allAtOnce_112 (List.mem_of_getElem? (i := 4) rfl) rfl ha12 hka12 ?_
            refine xg_iload_n (pc := 115) C dX1_allAtOnce_115 4 rfl ?_
            obtain ⟨a13, ha13, hka13, hF⟩ := hF
            obtain ⟨hi, hF⟩ := hF
            refine xg_iald (pc := 116) C ha13 hka13 hi dX1_allAtOnce_116 ?_
            refine xg_iload (pc := 117) C dX1_allAtOnce_117 0 rfl ?_
            refine xg_ishl (pc := 119) C dX1_allAtOnce_119 ?_
            refine xg_ldc (pc := 120) (v := 2147483647) C dX1_allAtOnce_120 (List.mem_of_getElem? (i := 8) rfl) ?_
            refine xg_iand (pc := 122) C dX1_allAtOnce_122 ?_
            refine xg_ior (pc := 123) C dX1_allAtOnce_123 ?_
            refine xg_topi (pc := 124) (fun z14 ez14 => ?_)
            have hF := hF z14 ez14
            refine xg_istore_n (pc := 124) (lv2 := [(2, .int z14), (5, .int z8), (0, va_rf (some this)), (1, .int y1), (3, .int y3), (4, .int y4)]) C dX1_allAtOnce_124 6 hnL (by decide) rfl ?_
            refine xg_sub (lv2 := [(0, va_rf (some this)), (1, .int y1), (2, .int z14), (3, .int y3), (4, .int y4)]) [2, 3, 0, 4, 5] rfl ?_
            exact hF
  · intro y1 y2 y3 h hF
    obtain ⟨z15, ez15⟩ : ∃ y : Int32, y = y3 + 1 := ⟨_, rfl⟩
    have hF := hF z15 ez15
    refine xg_iinc (pc := 131) (v := z15) (lv2 := [(3, .int z15), (0, va_rf (some this)), (1, .int y1), (2, .int y2)]) C dX1_allAtOnce_131 3 rfl (by rw [ez15]; rfl) 6 hnL (by decide) rfl ?_
    refine xg_goto (pc := 134) 19 C dX1_allAtOnce_134 (by decide) ?_
    refine xg_sub (lv2 := [(0, va_rf (some this)), (1, .int y1), (2, .int y2), (3, .int z15)]) [1, 2, 3, 0] rfl ?_
    exact hF
  · intro y1 y2 y3 y4 h hF
    obtain ⟨z16, ez16⟩ : ∃ y : Int32, y = y4 + 1 := ⟨_, rfl⟩
    have hF := hF z16 ez16
    refine xg_iinc (pc := 125) (v := z16) (lv2 := [(4, .int z16), (0, va_rf (some this)), (1, .int y1), (2, .int y2), (3, .int y3)]) C dX1_allAtOnce_125 4 rfl (by rw [ez16]; rfl) 6 hnL (by decide) rfl ?_
    refine xg_goto (pc := 128) 33 C dX1_allAtOnce_128 (by decide) ?_
    refine xg_sub (lv2 := [(0, va_rf (some this)), (1, .int y1), (2, .int y2), (3, .int y3), (4, .int z16)]) [1, 2, 3, 4, 0] rfl ?_
    exact hF
  · skip
    refine xg_getsN (pc := 0) (ref := "SandGlasses") (host := "SandGlasses") C 2 (by decide) dX1_allAtOnce_0 (by decide +kernel) rfl ?_
    refine xg_aload_n (pc := 3) C dX1_allAtOnce_3 0 rfl ?_
    refine xg_cvI (pc := 4) (C1 := RX1) (T1 := TX1) (ci := 1) C (fun zs => []) rfl hthis (by decide) rfl (met_X1_allGlasses Y this) gX1_allAtOnce_X1_allGlasses rfl ⟨rfl, rfl⟩ nd_X1_allGlasses ⟨Nat.le_of_ble_eq_true rfl, Nat.le_of_ble_eq_true rfl⟩ rfl rfl (Nat.le_of_ble_eq_true rfl) ⟨Nat.zero_le _, Nat.zero_le _⟩ dX1_allAtOnce_4 hF (fun r2 h1 hF => ?_)
    refine xg_bipush (pc := 7) (v := 15) C dX1_allAtOnce_7 (by decide) ?_
    refine xg_iand (pc := 9) C dX1_allAtOnce_9 ?_
    obtain ⟨hi, hF⟩ := hF
    refine xg_sld (pc := 10) C 2 (by decide) hi dX1_allAtOnce_10 ?_
    refine xg_bipush (pc := 11) (v := 7) C dX1_allAtOnce_11 (by decide) ?_
    refine xg_idiv (pc := 13) C dX1_allAtOnce_13 (by decide) ?_
    refine xg_topi (pc := 14) (fun z3 ez3 => ?_)
    have hF := hF z3 ez3
    refine xg_istore_n (pc := 14) (lv2 := [(1, .int z3), (0, va_rf (some this))]) C dX1_allAtOnce_14 6 hnL (by decide) rfl ?_
    refine xg_iconst (pc := 15) (v := 0) C dX1_allAtOnce_15 (by decide) ?_
    refine xg_istore_n (pc := 16) (lv2 := [(2, .int 0), (1, .int z3), (0, va_rf (some this))]) C dX1_allAtOnce_16 6 hnL (by decide) rfl ?_
    refine xg_iconst (pc := 17) (v := 0) C dX1_allAtOnce_17 (by decide) ?_
    refine xg_istore_n (pc := 18) (lv2 := [(3, .int 0), (2, .int 0), (1, .int z3), (0, va_rf (some this))]) C dX1_allAtOnce_18 6 hnL (by decide) rfl ?_
    refine xg_sub (lv2 := [(0, va_rf (some this)), (1, .int z3), (2, .int 0), (3, .int 0)]) [3, 2, 1, 0] rfl ?_
    exact hF
def rm_X1_fewestEvents : Room := { frames := 1, cells := 0, slots := 0, locals := 21 }
theorem nd_X1_fewestEvents : yX1_fewestEvents.cls = RX1 ∧ yX1_fewestEvents.cls ≠ "java/lang/invoke/MethodHandle" ∧ yX1_fewestEvents.cls ≠ "java/lang/invoke/VarHandle" ∧ (parseMethodDescriptor yX1_fewestEvents.desc).map (fun d => d.parameters.length) = some 1 := by decide +kernel
theorem inm_X1_fewestEvents_1 : ∀ w ∈ u_ws RX1 TX1 (xg_N 1), w ∈ wsX1_fewestEvents := fun _ h9 => List.mem_cons_of_mem _ (List.mem_append_left _ (List.mem_append_right _ h9))
theorem inm_X1_fewestEvents_10 : ∀ w ∈ u_ws RX10 TX10 (xg_N 10), w ∈ wsX1_fewestEvents := fun _ h9 => List.mem_cons_of_mem _ (List.mem_append_right _ h9)
set_option maxHeartbeats 4000000 in
set_option maxRecDepth 100000 in
theorem met_X1_fewestEvents (Y : xg_Y) (this : Nat) (x1 : Int32) : xg_MI yX1_fewestEvents wsX1_fewestEvents rm_X1_fewestEvents Y (fun zs => [va_rf (some this), .int x1]) (fun Q h => wp_X1_fewestEvents Y Q this x1 h) := by
  refine xg_startI (cc := cX1_fewestEvents) (maxL := 3) (own := RX1) (by decide) rfl rfl (fun zs => Nat.le_of_ble_eq_true rfl) (fun X Q h C hnL E hw => ?_)
  unfold wp_X1_fewestEvents at hw
  obtain ⟨hthis, hw⟩ := hw
  refine xg_sub (lv2 := [(0, va_rf (some this)), (1, .int x1)]) [0, 1] rfl ?_
  refine mg_use (hw (fun (y2 : Int32) (h : xg_H) => xg_W X 0 0 Y 2 [(0, va_rf (some this)), (1, .int x1), (2, .int y2)] [] h) ?_) (fun hF => ?_)
  · intro y2 h hF
    refine xg_iload_n (pc := 2) C dX1_fewestEvents_2 2 rfl ?_
    refine xg_bipush (pc := 3) (v := 30) C dX1_fewestEvents_3 (by decide) ?_
    refine xg_icmp_gt (pc := 5) 32 C dX1_fewestEvents_5 (by decide) (fun hc => ?_) (fun hc => ?_)
    · have hF := hF.1 hc
      refine xg_iconst (pc := 32) (v := (-1)) C dX1_fewestEvents_32 (by decide) ?_
      exact xg_retI (pc := 33) C E dX1_fewestEvents_33 hF
    · have hF := hF.2 hc
      refine xg_aload_n (pc := 8) C dX1_fewestEvents_8 0 rfl ?_
      refine xg_getr (pc := 9) (C1 := RX1) (T1 := TX1) (ci := 1) (ref := "SandGlasses$Book") C inm_X1_fewestEvents_1 rfl (by decide) 0 (by decide) rfl dX1_fewestEvents_9 (List.mem_of_getElem? (i := 1) rfl) rfl rfl hthis ?_
      obtain ⟨a1, ha1, hka1, hF⟩ := hF
      refine xg_getr (pc := 12) (C1 := RX10) (T1 := TX10) (ci := 10) (ref := "SandGlasses$Walk") C inm_X1_fewestEvents_10 rfl (by decide) 2 (by decide) rfl dX1_fewestEvents_12 (List.mem_of_getElem? (i := 2) rfl) rfl ha1 hka1 ?_
      refine xg_iload_n (pc := 15) C dX1_fewestEvents_15 2 rfl ?_
      obtain ⟨a2, ha2, hka2, hF⟩ := hF
      obtain ⟨hi, hF⟩ := hF
      refine xg_iald (pc := 16) C ha2 hka2 hi dX1_fewestEvents_16 ?_
      refine xg_iload_n (pc := 17) C dX1_fewestEvents_17 1 rfl ?_
      refine xg_cnI (pc := 18) (host := "SandGlasses") C (fun zs => [.int (xg_i h a2 y2.toNatClampNeg), .int x1]) (by decide +kernel) (List.mem_of_getElem? (i := 4) rfl) (List.mem_of_getElem? (i := 3) rfl) (met_X11_has Y (xg_i h a2 y2.toNatClampNeg) x1) gX1_fewestEvents_X11_has_n143 rfl ⟨rfl, rfl⟩ nd_X11_has.2 ⟨Nat.le_of_ble_eq_true rfl, Nat.le_of_ble_eq_true rfl⟩ rfl rfl (Nat.le_of_ble_eq_true rfl) ⟨Nat.zero_le _, Nat.zero_le _⟩ dX1_fewestEvents_18 hF (fun r4 h3 hF => ?_)
      refine xg_if_eq (pc := 21) 26 C dX1_fewestEvents_21 (by decide) (fun hc => ?_) (fun hc => ?_)
      · have hF := hF.1 hc
        obtain ⟨z5, ez5⟩ : ∃ y : Int32, y = y2 + 1 := ⟨_, rfl⟩
        have hF := hF z5 ez5
        refine xg_iinc (pc := 26) (v := z5) (lv2 := [(2, .int z5), (0, va_rf (some this)), (1, .int x1)]) C dX1_fewestEvents_26 2 rfl (by rw [ez5]; rfl) 3 hnL (by decide) rfl ?_
        refine xg_goto (pc := 29) 2 C dX1_fewestEvents_29 (by decide) ?_
        refine xg_sub (lv2 := [(0, va_rf (some this)), (1, .int x1), (2, .int z5)]) [1, 2, 0] rfl ?_
        exact hF
      · have hF := hF.2 hc
        refine xg_iload_n (pc := 24) C dX1_fewestEvents_24 2 rfl ?_
        exact xg_retI (pc := 25) C E dX1_fewestEvents_25 hF
  · skip
    refine xg_iconst (pc := 0) (v := 1) C dX1_fewestEvents_0 (by decide) ?_
    refine xg_istore_n (pc := 1) (lv2 := [(2, .int 1), (0, va_rf (some this)), (1, .int x1)]) C dX1_fewestEvents_1 3 hnL (by decide) rfl ?_
    refine xg_sub (lv2 := [(0, va_rf (some this)), (1, .int x1), (2, .int 1)]) [1, 2, 0] rfl ?_
    exact hF
def rm_X1_toldBy : Room := { frames := 4, cells := 0, slots := 0, locals := 96 }
theorem nd_X1_toldBy : yX1_toldBy.cls = RX1 ∧ yX1_toldBy.cls ≠ "java/lang/invoke/MethodHandle" ∧ yX1_toldBy.cls ≠ "java/lang/invoke/VarHandle" ∧ (parseMethodDescriptor yX1_toldBy.desc).map (fun d => d.parameters.length) = some 1 := by decide +kernel
theorem inm_X1_toldBy_1 : ∀ w ∈ u_ws RX1 TX1 (xg_N 1), w ∈ wsX1_toldBy := fun _ h9 => List.mem_cons_of_mem _ (List.mem_append_left _ (List.mem_append_left _ (List.mem_append_right _ h9)))
set_option maxHeartbeats 4000000 in
set_option maxRecDepth 100000 in
theorem met_X1_toldBy (Y : xg_Y) (this : Nat) (x1 : Int32) : xg_MI yX1_toldBy wsX1_toldBy rm_X1_toldBy Y (fun zs => [va_rf (some this), .int x1]) (fun Q h => wp_X1_toldBy Y Q this x1 h) := by
  refine xg_startI (cc := cX1_toldBy) (maxL := 3) (own := RX1) (by decide) rfl rfl (fun zs => Nat.le_of_ble_eq_true rfl) (fun X Q h C hnL E hw => ?_)
  unfold wp_X1_toldBy at hw
  obtain ⟨hthis, hw⟩ := hw
  refine xg_sub (lv2 := [(0, va_rf (some this)), (1, .int x1)]) [0, 1] rfl ?_
  refine mg_use (hw (fun (y2 : Int32) (h : xg_H) => xg_W X 0 0 Y 69 [(0, va_rf (some this)), (2, .int y2)] [] h) ?_) (fun hF => ?_)
  · intro y2 h hF
    refine xg_aload_n (pc := 69) C dX1_toldBy_69 0 rfl ?_
    refine xg_getr (pc := 70) (C1 := RX1) (T1 := TX1) (ci := 1) (ref := "SandGlasses$Book") C inm_X1_toldBy_1 rfl (by decide) 6 (by decide) rfl dX1_toldBy_70 (List.mem_of_getElem? (i := 2) rfl) rfl rfl hthis ?_
    refine xg_iload_n (pc := 73) C dX1_toldBy_73 1 rfl ?_
    obtain ⟨a12, ha12, hka12, hF⟩ := hF
    obtain ⟨hi, hF⟩ := hF
    refine xg_iald (pc := 74) C ha12 hka12 hi dX1_toldBy_74 ?_
    exact xg_retI (pc := 75) C E dX1_toldBy_75 hF
  · skip
    refine xg_iload_n (pc := 0) C dX1_toldBy_0 1 rfl ?_
    refine xg_aload_n (pc := 1) C dX1_toldBy_1 0 rfl ?_
    refine xg_cvI (pc := 2) (C1 := RX1) (T1 := TX1) (ci := 1) C (fun zs => []) rfl hthis (by decide) rfl (met_X1_allGlasses Y this) gX1_toldBy_X1_allGlasses rfl ⟨rfl, rfl⟩ nd_X1_allGlasses ⟨Nat.le_of_ble_eq_true rfl, Nat.le_of_ble_eq_true rfl⟩ rfl rfl (Nat.le_of_ble_eq_true rfl) ⟨Nat.zero_le _, Nat.zero_le _⟩ dX1_toldBy_2 hF (fun r2 h1 hF => ?_)
    refine xg_icmp_ne (pc := 5) 13 C dX1_toldBy_5 (by decide) (fun hc => ?_) (fun hc => ?_)
    · have hF := hF.1 hc
      refine xg_iload_n (pc := 13) C dX1_toldBy_13 1 rfl ?_
      refine xg_bipush (pc := 14) (v := 15) C dX1_toldBy_14 (by decide) ?_
      refine xg_iand (pc := 16) C dX1_toldBy_16 ?_
      refine xg_topi (pc := 17) (fun z3 ez3 => ?_)
      have hF := hF z3 ez3
      refine xg_istore_n (pc := 17) (lv2 := [(2, .int z3), (0, va_rf (some this)), (1, .int x1)]) C dX1_toldBy_17 3 hnL (by decide) rfl ?_
      refine xg_aload_n (pc := 18) C dX1_toldBy_18 1 rfl ?_
      refine xg_getr (pc := 19) (C1 := RX1) (T1 := TX1) (ci := 1) (ref := "SandGlasses$Book") C inm_X1_toldBy_1 rfl (by decide) 6 (by decide) rfl dX1_toldBy_19 (List.mem_of_getElem? (i := 2) rfl) rfl rfl hthis ?_
      refine xg_iload_n (pc := 22) C dX1_toldBy_22 0 rfl ?_
      obtain ⟨a4, ha4, hka4, hF⟩ := hF
      obtain ⟨hi, hF⟩ := hF
      refine xg_iald (pc := 23) C ha4 hka4 hi dX1_toldBy_23 ?_
      refine xg_iconst (pc := 24) (v := (-1)) C dX1_toldBy_24 (by decide) ?_
      refine xg_icmp_ne (pc := 25) 69 C dX1_toldBy_25 (by decide) (fun hc => ?_) (fun hc => ?_)
      · have hF := hF.1 hc
        refine xg_sub (lv2 := [(0, va_rf (some this)), (2, .int z3)]) [1, 0] rfl ?_
        exact hF
      · have hF := hF.2 hc
        refine xg_aload_n (pc := 28) C dX1_toldBy_28 1 rfl ?_
        refine xg_getr (pc := 29) (C1 := RX1) (T1 := TX1) (ci := 1) (ref := "SandGlasses$Book") C inm_X1_toldBy_1 rfl (by decide) 1 (by decide) rfl dX1_toldBy_29 (List.mem_of_getElem? (i := 3) rfl) rfl rfl hthis ?_
        refine xg_aload_n (pc := 32) C dX1_toldBy_32 1 rfl ?_
        refine xg_geti (pc := 33) (C1 := RX1) (T1 := TX1) (ci := 1) (ref := "SandGlasses$Book") C inm_X1_toldBy_1 rfl (by decide) 12 (by decide) rfl dX1_toldBy_33 (List.mem_of_getElem? (i := 4) rfl) rfl rfl hthis ?_
        refine xg_getsN (pc := 36) (ref := "SandGlasses") (host := "SandGlasses") C 2 (by decide) dX1_toldBy_36 (by decide +kernel) rfl ?_
        refine xg_iload_n (pc := 39) C dX1_toldBy_39 0 rfl ?_
        obtain ⟨hi, hF⟩ := hF
        refine xg_sld (pc := 40) C 2 (by decide) hi dX1_toldBy_40 ?_
        refine xg_iand (pc := 41) C dX1_toldBy_41 ?_
        refine xg_aload_n (pc := 42) C dX1_toldBy_42 1 rfl ?_
        refine xg_geti (pc := 43) (C1 := RX1) (T1 := TX1) (ci := 1) (ref := "SandGlasses$Book") C inm_X1_toldBy_1 rfl (by decide) 13 (by decide) rfl dX1_toldBy_43 (List.mem_of_getElem? (i := 5) rfl) rfl rfl hthis ?_
        refine xg_getsN (pc := 46) (ref := "SandGlasses") (host := "SandGlasses") C 2 (by decide) dX1_toldBy_46 (by decide +kernel) rfl ?_
        refine xg_iload_n (pc := 49) C dX1_toldBy_49 0 rfl ?_
        obtain ⟨hi, hF⟩ := hF
        refine xg_sld (pc := 50) C 2 (by decide) hi dX1_toldBy_50 ?_
        refine xg_iand (pc := 51) C dX1_toldBy_51 ?_
        refine xg_iload_n (pc := 52) C dX1_toldBy_52 0 rfl ?_
        obtain ⟨a5, ha5, hka5, hF⟩ := hF
        refine xg_cvV (pc := 53) (C1 := RX10) (T1 := TX10) (ci := 10) C (fun zs => [.int ((xg_i h1 this 12) &&& (xg_sv 2 z3.toNatClampNeg)), .int ((xg_i h1 this 13) &&& (xg_sv 2 z3.toNatClampNeg)), .int z3]) ha5 hka5 (by decide) rfl (met_X10_explore Y a5 ((xg_i h1 this 12) &&& (xg_sv 2 z3.toNatClampNeg)) ((xg_i h1 this 13) &&& (xg_sv 2 z3.toNatClampNeg)) z3) gX1_toldBy_X10_explore rfl ⟨rfl, rfl⟩ nd_X10_explore ⟨Nat.le_of_ble_eq_true rfl, Nat.le_of_ble_eq_true rfl⟩ rfl rfl (Nat.le_of_ble_eq_true rfl) ⟨Nat.zero_le _, Nat.zero_le _⟩ dX1_toldBy_53 hF (fun h6 hF => ?_)
        refine xg_aload_n (pc := 56) C dX1_toldBy_56 1 rfl ?_
        refine xg_getr (pc := 57) (C1 := RX1) (T1 := TX1) (ci := 1) (ref := "SandGlasses$Book") C inm_X1_toldBy_1 rfl (by decide) 6 (by decide) rfl dX1_toldBy_57 (List.mem_of_getElem? (i := 2) rfl) rfl rfl hthis ?_
        refine xg_iload_n (pc := 60) C dX1_toldBy_60 0 rfl ?_
        refine xg_aload_n (pc := 61) C dX1_toldBy_61 1 rfl ?_
        refine xg_getr (pc := 62) (C1 := RX1) (T1 := TX1) (ci := 1) (ref := "SandGlasses$Book") C inm_X1_toldBy_1 rfl (by decide) 1 (by decide) rfl dX1_toldBy_62 (List.mem_of_getElem? (i := 3) rfl) rfl rfl hthis ?_
        obtain ⟨a7, ha7, hka7, hF⟩ := hF
        refine xg_cvI (pc := 65) (C1 := RX10) (T1 := TX10) (ci := 10) C (fun zs => []) ha7 hka7 (by decide) rfl (met_X10_eventMinutes Y a7) gX1_toldBy_X10_eventMinutes rfl ⟨rfl, rfl⟩ nd_X10_eventMinutes ⟨Nat.le_of_ble_eq_true rfl, Nat.le_of_ble_eq_true rfl⟩ rfl rfl (by simp [xg_rf_cat, xg_cat_i, xg_cat_l, xg_cat_a]) ⟨Nat.zero_le _, Nat.zero_le _⟩ dX1_toldBy_65 hF (fun r9 h8 hF => ?_)
        obtain ⟨a10, ha10, hka10, hF⟩ := hF
        obtain ⟨hi, hF⟩ := hF
        refine xg_iast (pc := 68) C ha10 hka10 hi dX1_toldBy_68 (fun h11 eh11 => ?_)
        have hF := hF h11 eh11
        refine xg_sub (lv2 := [(0, va_rf (some this)), (2, .int z3)]) [1, 0] rfl ?_
        exact hF
    · have hF := hF.2 hc
      refine xg_aload_n (pc := 8) C dX1_toldBy_8 0 rfl ?_
      refine xg_geti (pc := 9) (C1 := RX1) (T1 := TX1) (ci := 1) (ref := "SandGlasses$Book") C inm_X1_toldBy_1 rfl (by decide) 16 (by decide) rfl dX1_toldBy_9 (List.mem_of_getElem? (i := 1) rfl) rfl rfl hthis ?_
      exact xg_retI (pc := 12) C E dX1_toldBy_12 hF
def rm_X1_fewestGlasses : Room := { frames := 5, cells := 0, slots := 0, locals := 118 }
theorem nd_X1_fewestGlasses : yX1_fewestGlasses.cls = RX1 ∧ yX1_fewestGlasses.cls ≠ "java/lang/invoke/MethodHandle" ∧ yX1_fewestGlasses.cls ≠ "java/lang/invoke/VarHandle" ∧ (parseMethodDescriptor yX1_fewestGlasses.desc).map (fun d => d.parameters.length) = some 1 := by decide +kernel
set_option maxHeartbeats 4000000 in
set_option maxRecDepth 100000 in
theorem met_X1_fewestGlasses (Y : xg_Y) (this : Nat) (x1 : Int32) : xg_MI yX1_fewestGlasses wsX1_fewestGlasses rm_X1_fewestGlasses Y (fun zs => [va_rf (some this), .int x1]) (fun Q h => wp_X1_fewestGlasses Y Q this x1 h) := by
  refine xg_startI (cc := cX1_fewestGlasses) (maxL := 5) (own := RX1) (by decide) rfl rfl (fun zs => Nat.le_of_ble_eq_true rfl) (fun X Q h C hnL E hw => ?_)
  unfold wp_X1_fewestGlasses at hw
  obtain ⟨hthis, hw⟩ := hw
  refine xg_sub (lv2 := [(0, va_rf (some this)), (1, .int x1)]) [0, 1] rfl ?_
  refine mg_use (hw (fun (y2 : Int32) (y3 : Int32) (h : xg_H) => xg_W X 0 0 Y 4 [(0, va_rf (some this)), (1, .int x1), (2, .int y2), (3, .int y3)] [] h) (fun (y2 : Int32) (y3 : Int32) (h : xg_H) => xg_W X 0 0 Y 28 [(0, va_rf (some this)), (1, .int x1), (2, .int y2), (3, .int y3)] [] h) (fun (y2 : Int32) (y3 : Int32) (s0 : Int32) (h : xg_H) => xg_W X 0 0 Y 33 [(0, va_rf (some this)), (1, .int x1), (2, .int y2), (3, .int y3)] [.int s0] h) (fun (y2 : Int32) (y3 : Int32) (h : xg_H) => xg_W X 0 0 Y 54 [(0, va_rf (some this)), (1, .int x1), (2, .int y2), (3, .int y3)] [] h) ?_ ?_ ?_ ?_) (fun hF => ?_)
  · intro y2 y3 h hF
    refine xg_iload_n (pc := 4) C dX1_fewestGlasses_4 3 rfl ?_
    refine xg_aload_n (pc := 5) C dX1_fewestGlasses_5 0 rfl ?_
    refine xg_cvI (pc := 6) (C1 := RX1) (T1 := TX1) (ci := 1) C (fun zs => []) rfl hthis (by decide) rfl (met_X1_allGlasses Y this) gX1_fewestGlasses_X1_allGlasses rfl ⟨rfl, rfl⟩ nd_X1_allGlasses ⟨Nat.le_of_ble_eq_true rfl, Nat.le_of_ble_eq_true rfl⟩ rfl rfl (Nat.le_of_ble_eq_true rfl) ⟨Nat.zero_le _, Nat.zero_le _⟩ dX1_fewestGlasses_6 hF (fun r2 h1 hF => ?_)
    refine xg_icmp_gt (pc := 9) 60 C dX1_fewestGlasses_9 (by decide) (fun hc => ?_) (fun hc => ?_)
    · have hF := hF.1 hc
      refine xg_iload_n (pc := 60) C dX1_fewestGlasses_60 2 rfl ?_
      exact xg_retI (pc := 61) C E dX1_fewestGlasses_61 hF
    · have hF := hF.2 hc
      refine xg_iload_n (pc := 12) C dX1_fewestGlasses_12 2 rfl ?_
      refine xg_iconst (pc := 13) (v := (-1)) C dX1_fewestGlasses_13 (by decide) ?_
      refine xg_icmp_eq (pc := 14) 28 C dX1_fewestGlasses_14 (by decide) (fun hc => ?_) (fun hc => ?_)
      · have hF := hF.1 hc
        exact hF
      · have hF := hF.2 hc
        refine xg_iload_n (pc := 17) C dX1_fewestGlasses_17 3 rfl ?_
        refine xg_csI (pc := 18) C (fun zs => [.int y3]) (met_J6_bitCount_0f7a4 Y y3) gX1_fewestGlasses_J6_bitCount_0f7a4 rfl ⟨rfl, rfl⟩ nd_J6_bitCount_0f7a4.2 ⟨Nat.le_of_ble_eq_true rfl, Nat.le_of_ble_eq_true rfl⟩ rfl rfl (Nat.le_of_ble_eq_true rfl) ⟨Nat.zero_le _, Nat.zero_le _⟩ dX1_fewestGlasses_18 hF (fun r4 h3 hF => ?_)
        refine xg_iload_n (pc := 21) C dX1_fewestGlasses_21 2 rfl ?_
        refine xg_csI (pc := 22) C (fun zs => [.int y2]) (met_J6_bitCount_0f7a4 Y y2) gX1_fewestGlasses_J6_bitCount_0f7a4 rfl ⟨rfl, rfl⟩ nd_J6_bitCount_0f7a4.2 ⟨Nat.le_of_ble_eq_true rfl, Nat.le_of_ble_eq_true rfl⟩ rfl rfl (Nat.le_of_ble_eq_true rfl) ⟨Nat.zero_le _, Nat.zero_le _⟩ dX1_fewestGlasses_22 hF (fun r6 h5 hF => ?_)
        refine xg_icmp_ge (pc := 25) 32 C dX1_fewestGlasses_25 (by decide) (fun hc => ?_) (fun hc => ?_)
        · have hF := hF.1 hc
          refine xg_iconst (pc := 32) (v := 0) C dX1_fewestGlasses_32 (by decide) ?_
          exact hF
        · have hF := hF.2 hc
          exact hF
  · intro y2 y3 h hF
    refine xg_iconst (pc := 28) (v := 1) C dX1_fewestGlasses_28 (by decide) ?_
    refine xg_goto (pc := 29) 33 C dX1_fewestGlasses_29 (by decide) ?_
    exact hF
  · intro y2 y3 s0 h hF
    refine xg_istore (pc := 33) (lv2 := [(4, .int s0), (0, va_rf (some this)), (1, .int x1), (2, .int y2), (3, .int y3)]) C dX1_fewestGlasses_33 5 hnL (by decide) rfl ?_
    refine xg_iload (pc := 35) C dX1_fewestGlasses_35 0 rfl ?_
    refine xg_if_eq (pc := 37) 54 C dX1_fewestGlasses_37 (by decide) (fun hc => ?_) (fun hc => ?_)
    · have hF := hF.1 hc
      refine xg_sub (lv2 := [(0, va_rf (some this)), (1, .int x1), (2, .int y2), (3, .int y3)]) [1, 2, 3, 4] rfl ?_
      exact hF
    · have hF := hF.2 hc
      refine xg_aload_n (pc := 40) C dX1_fewestGlasses_40 1 rfl ?_
      refine xg_iload_n (pc := 41) C dX1_fewestGlasses_41 4 rfl ?_
      refine xg_cvI (pc := 42) (C1 := RX1) (T1 := TX1) (ci := 1) C (fun zs => [.int y3]) rfl hthis (by decide) rfl (met_X1_toldBy Y this y3) gX1_fewestGlasses_X1_toldBy rfl ⟨rfl, rfl⟩ nd_X1_toldBy ⟨Nat.le_of_ble_eq_true rfl, Nat.le_of_ble_eq_true rfl⟩ rfl rfl (Nat.le_of_ble_eq_true rfl) ⟨Nat.zero_le _, Nat.zero_le _⟩ dX1_fewestGlasses_42 hF (fun r8 h7 hF => ?_)
      refine xg_iload_n (pc := 45) C dX1_fewestGlasses_45 2 rfl ?_
      refine xg_cnI (pc := 46) (host := "SandGlasses") C (fun zs => [.int r8, .int x1]) (by decide +kernel) (List.mem_of_getElem? (i := 46) rfl) (List.mem_of_getElem? (i := 86) rfl) (met_X11_has Y r8 x1) gX1_fewestGlasses_X11_has_n143 rfl ⟨rfl, rfl⟩ nd_X11_has.2 ⟨Nat.le_of_ble_eq_true rfl, Nat.le_of_ble_eq_true rfl⟩ rfl rfl (Nat.le_of_ble_eq_true rfl) ⟨Nat.zero_le _, Nat.zero_le _⟩ dX1_fewestGlasses_46 hF (fun r10 h9 hF => ?_)
      refine xg_if_eq (pc := 49) 54 C dX1_fewestGlasses_49 (by decide) (fun hc => ?_) (fun hc => ?_)
      · have hF := hF.1 hc
        refine xg_sub (lv2 := [(0, va_rf (some this)), (1, .int x1), (2, .int y2), (3, .int y3)]) [1, 2, 3, 4] rfl ?_
        exact hF
      · have hF := hF.2 hc
        refine xg_iload_n (pc := 52) C dX1_fewestGlasses_52 4 rfl ?_
        refine xg_istore_n (pc := 53) (lv2 := [(2, .int y3), (4, .int s0), (0, va_rf (some this)), (1, .int x1), (3, .int y3)]) C dX1_fewestGlasses_53 5 hnL (by decide) rfl ?_
        refine xg_sub (lv2 := [(0, va_rf (some this)), (1, .int x1), (2, .int y3), (3, .int y3)]) [2, 3, 0, 4] rfl ?_
        exact hF
  · intro y2 y3 h hF
    obtain ⟨z11, ez11⟩ : ∃ y : Int32, y = y3 + 1 := ⟨_, rfl⟩
    have hF := hF z11 ez11
    refine xg_iinc (pc := 54) (v := z11) (lv2 := [(3, .int z11), (0, va_rf (some this)), (1, .int x1), (2, .int y2)]) C dX1_fewestGlasses_54 3 rfl (by rw [ez11]; rfl) 5 hnL (by decide) rfl ?_
    refine xg_goto (pc := 57) 4 C dX1_fewestGlasses_57 (by decide) ?_
    refine xg_sub (lv2 := [(0, va_rf (some this)), (1, .int x1), (2, .int y2), (3, .int z11)]) [1, 2, 3, 0] rfl ?_
    exact hF
  · skip
    refine xg_iconst (pc := 0) (v := (-1)) C dX1_fewestGlasses_0 (by decide) ?_
    refine xg_istore_n (pc := 1) (lv2 := [(2, .int (-1)), (0, va_rf (some this)), (1, .int x1)]) C dX1_fewestGlasses_1 5 hnL (by decide) rfl ?_
    refine xg_iconst (pc := 2) (v := 1) C dX1_fewestGlasses_2 (by decide) ?_
    refine xg_istore_n (pc := 3) (lv2 := [(3, .int 1), (2, .int (-1)), (0, va_rf (some this)), (1, .int x1)]) C dX1_fewestGlasses_3 5 hnL (by decide) rfl ?_
    refine xg_sub (lv2 := [(0, va_rf (some this)), (1, .int x1), (2, .int (-1)), (3, .int 1)]) [2, 3, 1, 0] rfl ?_
    exact hF
def rm_X1_findRow : Room := { frames := 3, cells := 0, slots := 0, locals := 74 }
theorem nd_X1_findRow : yX1_findRow.cls = RX1 ∧ yX1_findRow.cls ≠ "java/lang/invoke/MethodHandle" ∧ yX1_findRow.cls ≠ "java/lang/invoke/VarHandle" ∧ (parseMethodDescriptor yX1_findRow.desc).map (fun d => d.parameters.length) = some 1 := by decide +kernel
theorem inm_X1_findRow_1 : ∀ w ∈ u_ws RX1 TX1 (xg_N 1), w ∈ wsX1_findRow := fun _ h9 => List.mem_cons_of_mem _ (List.mem_append_left _ (List.mem_append_left _ (List.mem_append_right _ h9)))
theorem inm_X1_findRow_10 : ∀ w ∈ u_ws RX10 TX10 (xg_N 10), w ∈ wsX1_findRow := fun _ h9 => List.mem_cons_of_mem _ (List.mem_append_left _ (List.mem_append_right _ h9))
set_option maxHeartbeats 4000000 in
set_option maxRecDepth 100000 in
theorem met_X1_findRow (Y : xg_Y) (this : Nat) (x1 : Int32) : xg_MV yX1_findRow wsX1_findRow rm_X1_findRow Y (fun zs => [va_rf (some this), .int x1]) (fun Q h => wp_X1_findRow Y Q this x1 h) := by
  refine xg_startV (cc := cX1_findRow) (maxL := 7) (own := RX1) (by decide) rfl rfl (fun zs => Nat.le_of_ble_eq_true rfl) (fun X Q h C hnL E hw => ?_)
  unfold wp_X1_findRow at hw
  obtain ⟨hthis, hw⟩ := hw
  refine xg_sub (lv2 := [(0, va_rf (some this)), (1, .int x1)]) [0, 1] rfl ?_
  refine mg_use (hw (fun (h : xg_H) => xg_W X 0 0 Y 20 [(0, va_rf (some this)), (1, .int x1)] [] h) (fun (y2 : Int32) (y3 : Int32) (y4 : Int32) (h : xg_H) => xg_W X 0 0 Y 37 [(0, va_rf (some this)), (1, .int x1), (2, .int y2), (3, .int y3), (4, .int y4)] [] h) (fun (y2 : Int32) (y3 : Int32) (y4 : Int32) (y5 : Int32) (h : xg_H) => xg_W X 0 0 Y 63 [(0, va_rf (some this)), (1, .int x1), (2, .int y2), (3, .int y3), (4, .int y4), (5, .int y5)] [] h) (fun (y2 : Int32) (y3 : Int32) (y4 : Int32) (y5 : Int32) (h : xg_H) => xg_W X 0 0 Y 110 [(0, va_rf (some this)), (1, .int x1), (2, .int y2), (3, .int y3), (4, .int y4), (5, .int y5)] [] h) ?_ ?_ ?_ ?_) (fun hF => ?_)
  · intro h hF
    refine xg_aload_n (pc := 20) C dX1_findRow_20 0 rfl ?_
    refine xg_iload_n (pc := 21) C dX1_findRow_21 1 rfl ?_
    refine xg_puti (pc := 22) (C1 := RX1) (T1 := TX1) (ci := 1) (ref := "SandGlasses$Book") C inm_X1_findRow_1 rfl (by decide) tyX1 tyX1_ok nmX1 11 (by decide) rfl dX1_findRow_22 (List.mem_of_getElem? (i := 1) rfl) rfl rfl (tyX1_ok 11 (by decide)) rfl hthis (fun h2 eh2 => ?_)
    have hF := hF h2 eh2
    refine xg_aload_n (pc := 25) C dX1_findRow_25 0 rfl ?_
    refine xg_iconst (pc := 26) (v := 0) C dX1_findRow_26 (by decide) ?_
    refine xg_puti (pc := 27) (C1 := RX1) (T1 := TX1) (ci := 1) (ref := "SandGlasses$Book") C inm_X1_findRow_1 rfl (by decide) tyX1 tyX1_ok nmX1 10 (by decide) rfl dX1_findRow_27 (List.mem_of_getElem? (i := 3) rfl) rfl rfl (tyX1_ok 10 (by decide)) rfl hthis (fun h3 eh3 => ?_)
    have hF := hF h3 eh3
    refine xg_iconst (pc := 30) (v := 0) C dX1_findRow_30 (by decide) ?_
    refine xg_istore_n (pc := 31) (lv2 := [(2, .int 0), (0, va_rf (some this)), (1, .int x1)]) C dX1_findRow_31 7 hnL (by decide) rfl ?_
    refine xg_iconst (pc := 32) (v := 0) C dX1_findRow_32 (by decide) ?_
    refine xg_istore_n (pc := 33) (lv2 := [(3, .int 0), (2, .int 0), (0, va_rf (some this)), (1, .int x1)]) C dX1_findRow_33 7 hnL (by decide) rfl ?_
    refine xg_iconst (pc := 34) (v := 0) C dX1_findRow_34 (by decide) ?_
    refine xg_istore (pc := 35) (lv2 := [(4, .int 0), (3, .int 0), (2, .int 0), (0, va_rf (some this)), (1, .int x1)]) C dX1_findRow_35 7 hnL (by decide) rfl ?_
    refine xg_sub (lv2 := [(0, va_rf (some this)), (1, .int x1), (2, .int 0), (3, .int 0), (4, .int 0)]) [3, 4, 2, 1, 0] rfl ?_
    exact hF
  · intro y2 y3 y4 h hF
    refine xg_iload (pc := 37) C dX1_findRow_37 4 rfl ?_
    refine xg_bipush (pc := 39) (v := 30) C dX1_findRow_39 (by decide) ?_
    refine xg_icmp_ge (pc := 41) 175 C dX1_findRow_41 (by decide) (fun hc => ?_) (fun hc => ?_)
    · have hF := hF.1 hc
      exact xg_retV (pc := 175) C E dX1_findRow_175 hF
    · have hF := hF.2 hc
      refine xg_iload_n (pc := 44) C dX1_findRow_44 3 rfl ?_
      refine xg_iload_n (pc := 45) C dX1_findRow_45 1 rfl ?_
      refine xg_icmp_ge (pc := 46) 175 C dX1_findRow_46 (by decide) (fun hc => ?_) (fun hc => ?_)
      · have hF := hF.1 hc
        exact xg_retV (pc := 175) C E dX1_findRow_175 hF
      · have hF := hF.2 hc
        refine xg_iload_n (pc := 49) C dX1_findRow_49 2 rfl ?_
        refine xg_aload_n (pc := 50) C dX1_findRow_50 0 rfl ?_
        refine xg_getr (pc := 51) (C1 := RX1) (T1 := TX1) (ci := 1) (ref := "SandGlasses$Book") C inm_X1_findRow_1 rfl (by decide) 0 (by decide) rfl dX1_findRow_51 (List.mem_of_getElem? (i := 4) rfl) rfl rfl hthis ?_
        obtain ⟨a4, ha4, hka4, hF⟩ := hF
        refine xg_geti (pc := 54) (C1 := RX10) (T1 := TX10) (ci := 10) (ref := "SandGlasses$Walk") C inm_X1_findRow_10 rfl (by decide) 4 (by decide) rfl dX1_findRow_54 (List.mem_of_getElem? (i := 5) rfl) rfl ha4 hka4 ?_
        refine xg_icmp_ge (pc := 57) 175 C dX1_findRow_57 (by decide) (fun hc => ?_) (fun hc => ?_)
        · have hF := hF.1 hc
          exact xg_retV (pc := 175) C E dX1_findRow_175 hF
        · have hF := hF.2 hc
          refine xg_iconst (pc := 60) (v := 0) C dX1_findRow_60 (by decide) ?_
          refine xg_istore (pc := 61) (lv2 := [(5, .int 0), (0, va_rf (some this)), (1, .int x1), (2, .int y2), (3, .int y3), (4, .int y4)]) C dX1_findRow_61 7 hnL (by decide) rfl ?_
          refine xg_sub (lv2 := [(0, va_rf (some this)), (1, .int x1), (2, .int y2), (3, .int y3), (4, .int y4), (5, .int 0)]) [1, 2, 3, 4, 5, 0] rfl ?_
          exact hF
  · intro y2 y3 y4 y5 h hF
    refine xg_iload (pc := 63) C dX1_findRow_63 5 rfl ?_
    refine xg_aload_n (pc := 65) C dX1_findRow_65 0 rfl ?_
    refine xg_getr (pc := 66) (C1 := RX1) (T1 := TX1) (ci := 1) (ref := "SandGlasses$Book") C inm_X1_findRow_1 rfl (by decide) 0 (by decide) rfl dX1_findRow_66 (List.mem_of_getElem? (i := 4) rfl) rfl rfl hthis ?_
    obtain ⟨a5, ha5, hka5, hF⟩ := hF
    refine xg_geti (pc := 69) (C1 := RX10) (T1 := TX10) (ci := 10) (ref := "SandGlasses$Walk") C inm_X1_findRow_10 rfl (by decide) 5 (by decide) rfl dX1_findRow_69 (List.mem_of_getElem? (i := 6) rfl) rfl ha5 hka5 ?_
    refine xg_iconst (pc := 72) (v := 1) C dX1_findRow_72 (by decide) ?_
    refine xg_isub (pc := 73) C dX1_findRow_73 ?_
    refine xg_icmp_ge (pc := 74) 110 C dX1_findRow_74 (by decide) (fun hc => ?_) (fun hc => ?_)
    · have hF := hF.1 hc
      exact hF
    · have hF := hF.2 hc
      refine xg_aload_n (pc := 77) C dX1_findRow_77 0 rfl ?_
      refine xg_getr (pc := 78) (C1 := RX1) (T1 := TX1) (ci := 1) (ref := "SandGlasses$Book") C inm_X1_findRow_1 rfl (by decide) 2 (by decide) rfl dX1_findRow_78 (List.mem_of_getElem? (i := 7) rfl) rfl rfl hthis ?_
      refine xg_iload_n (pc := 81) C dX1_findRow_81 2 rfl ?_
      refine xg_iload (pc := 82) C dX1_findRow_82 5 rfl ?_
      refine xg_iload_n (pc := 84) C dX1_findRow_84 1 rfl ?_
      refine xg_iload_n (pc := 85) C dX1_findRow_85 3 rfl ?_
      refine xg_isub (pc := 86) C dX1_findRow_86 ?_
      obtain ⟨a6, ha6, hka6, hF⟩ := hF
      refine xg_cvI (pc := 87) (C1 := RX3) (T1 := TX3) (ci := 3) C (fun zs => [.int y2, .int y5, .int (x1 - y3)]) ha6 hka6 (by decide) rfl (met_X3_by Y a6 y2 y5 (x1 - y3)) gX1_findRow_X3_by rfl ⟨rfl, rfl⟩ nd_X3_by ⟨Nat.le_of_ble_eq_true rfl, Nat.le_of_ble_eq_true rfl⟩ rfl rfl (Nat.le_of_ble_eq_true rfl) ⟨Nat.zero_le _, Nat.zero_le _⟩ dX1_findRow_87 hF (fun r8 h7 hF => ?_)
      refine xg_aload_n (pc := 90) C dX1_findRow_90 0 rfl ?_
      refine xg_getr (pc := 91) (C1 := RX1) (T1 := TX1) (ci := 1) (ref := "SandGlasses$Book") C inm_X1_findRow_1 rfl (by decide) 2 (by decide) rfl dX1_findRow_91 (List.mem_of_getElem? (i := 7) rfl) rfl rfl hthis ?_
      refine xg_iload_n (pc := 94) C dX1_findRow_94 2 rfl ?_
      refine xg_iload_n (pc := 95) C dX1_findRow_95 1 rfl ?_
      refine xg_iload_n (pc := 96) C dX1_findRow_96 3 rfl ?_
      refine xg_isub (pc := 97) C dX1_findRow_97 ?_
      obtain ⟨a9, ha9, hka9, hF⟩ := hF
      refine xg_cvI (pc := 98) (C1 := RX3) (T1 := TX3) (ci := 3) C (fun zs => [.int y2, .int (x1 - y3)]) ha9 hka9 (by decide) rfl (met_X3_of Y a9 y2 (x1 - y3)) gX1_findRow_X3_of rfl ⟨rfl, rfl⟩ nd_X3_of ⟨Nat.le_of_ble_eq_true rfl, Nat.le_of_ble_eq_true rfl⟩ rfl rfl (Nat.le_of_ble_eq_true rfl) ⟨Nat.zero_le _, Nat.zero_le _⟩ dX1_findRow_98 hF (fun r11 h10 hF => ?_)
      refine xg_icmp_eq (pc := 101) 110 C dX1_findRow_101 (by decide) (fun hc => ?_) (fun hc => ?_)
      · have hF := hF.1 hc
        exact hF
      · have hF := hF.2 hc
        obtain ⟨z12, ez12⟩ : ∃ y : Int32, y = y5 + 1 := ⟨_, rfl⟩
        have hF := hF z12 ez12
        refine xg_iinc (pc := 104) (v := z12) (lv2 := [(5, .int z12), (0, va_rf (some this)), (1, .int x1), (2, .int y2), (3, .int y3), (4, .int y4)]) C dX1_findRow_104 5 rfl (by rw [ez12]; rfl) 7 hnL (by decide) rfl ?_
        refine xg_goto (pc := 107) 63 C dX1_findRow_107 (by decide) ?_
        refine xg_sub (lv2 := [(0, va_rf (some this)), (1, .int x1), (2, .int y2), (3, .int y3), (4, .int y4), (5, .int z12)]) [1, 2, 3, 4, 5, 0] rfl ?_
        exact hF
  · intro y2 y3 y4 y5 h hF
    refine xg_aload_n (pc := 110) C dX1_findRow_110 0 rfl ?_
    refine xg_getr (pc := 111) (C1 := RX1) (T1 := TX1) (ci := 1) (ref := "SandGlasses$Book") C inm_X1_findRow_1 rfl (by decide) 8 (by decide) rfl dX1_findRow_111 (List.mem_of_getElem? (i := 8) rfl) rfl rfl hthis ?_
    refine xg_iload (pc := 114) C dX1_findRow_114 4 rfl ?_
    refine xg_iload (pc := 116) C dX1_findRow_116 5 rfl ?_
    obtain ⟨a13, ha13, hka13, hF⟩ := hF
    obtain ⟨hi, hF⟩ := hF
    refine xg_iast (pc := 118) C ha13 hka13 hi dX1_findRow_118 (fun h14 eh14 => ?_)
    have hF := hF h14 eh14
    refine xg_aload_n (pc := 119) C dX1_findRow_119 0 rfl ?_
    refine xg_getr (pc := 120) (C1 := RX1) (T1 := TX1) (ci := 1) (ref := "SandGlasses$Book") C inm_X1_findRow_1 rfl (by decide) 9 (by decide) rfl dX1_findRow_120 (List.mem_of_getElem? (i := 9) rfl) rfl rfl hthis ?_
    refine xg_iload (pc := 123) C dX1_findRow_123 4 rfl ?_
    refine xg_iload_n (pc := 125) C dX1_findRow_125 3 rfl ?_
    obtain ⟨a15, ha15, hka15, hF⟩ := hF
    obtain ⟨hi, hF⟩ := hF
    refine xg_iast (pc := 126) C ha15 hka15 hi dX1_findRow_126 (fun h16 eh16 => ?_)
    have hF := hF h16 eh16
    refine xg_aload_n (pc := 127) C dX1_findRow_127 0 rfl ?_
    refine xg_dup (pc := 128) C dX1_findRow_128 (xg_rf_cat _) ?_
    refine xg_geti (pc := 129) (C1 := RX1) (T1 := TX1) (ci := 1) (ref := "SandGlasses$Book") C inm_X1_findRow_1 rfl (by decide) 10 (by decide) rfl dX1_findRow_129 (List.mem_of_getElem? (i := 3) rfl) rfl rfl hthis ?_
    refine xg_iconst (pc := 132) (v := 1) C dX1_findRow_132 (by decide) ?_
    refine xg_iadd (pc := 133) C dX1_findRow_133 ?_
    refine xg_puti (pc := 134) (C1 := RX1) (T1 := TX1) (ci := 1) (ref := "SandGlasses$Book") C inm_X1_findRow_1 rfl (by decide) tyX1 tyX1_ok nmX1 10 (by decide) rfl dX1_findRow_134 (List.mem_of_getElem? (i := 3) rfl) rfl rfl (tyX1_ok 10 (by decide)) rfl hthis (fun h17 eh17 => ?_)
    have hF := hF h17 eh17
    refine xg_aload_n (pc := 137) C dX1_findRow_137 0 rfl ?_
    refine xg_getr (pc := 138) (C1 := RX1) (T1 := TX1) (ci := 1) (ref := "SandGlasses$Book") C inm_X1_findRow_1 rfl (by decide) 0 (by decide) rfl dX1_findRow_138 (List.mem_of_getElem? (i := 4) rfl) rfl rfl hthis ?_
    obtain ⟨a18, ha18, hka18, hF⟩ := hF
    refine xg_getr (pc := 141) (C1 := RX10) (T1 := TX10) (ci := 10) (ref := "SandGlasses$Walk") C inm_X1_findRow_10 rfl (by decide) 3 (by decide) rfl dX1_findRow_141 (List.mem_of_getElem? (i := 10) rfl) rfl ha18 hka18 ?_
    refine xg_iload_n (pc := 144) C dX1_findRow_144 2 rfl ?_
    refine xg_bipush (pc := 145) (v := 16) C dX1_findRow_145 (by decide) ?_
    refine xg_imul (pc := 147) C dX1_findRow_147 ?_
    refine xg_iload (pc := 148) C dX1_findRow_148 5 rfl ?_
    refine xg_iadd (pc := 150) C dX1_findRow_150 ?_
    obtain ⟨a19, ha19, hka19, hF⟩ := hF
    obtain ⟨hi, hF⟩ := hF
    refine xg_iald (pc := 151) C ha19 hka19 hi dX1_findRow_151 ?_
    refine xg_topi (pc := 152) (fun z20 ez20 => ?_)
    have hF := hF z20 ez20
    refine xg_istore (pc := 152) (lv2 := [(6, .int z20), (0, va_rf (some this)), (1, .int x1), (2, .int y2), (3, .int y3), (4, .int y4), (5, .int y5)]) C dX1_findRow_152 7 hnL (by decide) rfl ?_
    refine xg_iload_n (pc := 154) C dX1_findRow_154 4 rfl ?_
    refine xg_iload (pc := 155) C dX1_findRow_155 0 rfl ?_
    refine xg_bipush (pc := 157) (v := 12) C dX1_findRow_157 (by decide) ?_
    refine xg_ishr (pc := 159) C dX1_findRow_159 ?_
    refine xg_iadd (pc := 160) C dX1_findRow_160 ?_
    refine xg_topi (pc := 161) (fun z21 ez21 => ?_)
    have hF := hF z21 ez21
    refine xg_istore_n (pc := 161) (lv2 := [(3, .int z21), (6, .int z20), (0, va_rf (some this)), (1, .int x1), (2, .int y2), (4, .int y4), (5, .int y5)]) C dX1_findRow_161 7 hnL (by decide) rfl ?_
    refine xg_iload (pc := 162) C dX1_findRow_162 1 rfl ?_
    refine xg_sipush (pc := 164) (v := 4095) C dX1_findRow_164 (by decide) ?_
    refine xg_iand (pc := 167) C dX1_findRow_167 ?_
    refine xg_topi (pc := 168) (fun z22 ez22 => ?_)
    have hF := hF z22 ez22
    refine xg_istore_n (pc := 168) (lv2 := [(2, .int z22), (3, .int z21), (6, .int z20), (0, va_rf (some this)), (1, .int x1), (4, .int y4), (5, .int y5)]) C dX1_findRow_168 7 hnL (by decide) rfl ?_
    obtain ⟨z23, ez23⟩ : ∃ y : Int32, y = y4 + 1 := ⟨_, rfl⟩
    have hF := hF z23 ez23
    refine xg_iinc (pc := 169) (v := z23) (lv2 := [(4, .int z23), (2, .int z22), (3, .int z21), (6, .int z20), (0, va_rf (some this)), (1, .int x1), (5, .int y5)]) C dX1_findRow_169 5 rfl (by rw [ez23]; rfl) 7 hnL (by decide) rfl ?_
    refine xg_goto (pc := 172) 37 C dX1_findRow_172 (by decide) ?_
    refine xg_sub (lv2 := [(0, va_rf (some this)), (1, .int x1), (2, .int z22), (3, .int z21), (4, .int z23)]) [4, 5, 1, 2, 0] rfl ?_
    exact hF
  · skip
    refine xg_aload_n (pc := 0) C dX1_findRow_0 0 rfl ?_
    refine xg_geti (pc := 1) (C1 := RX1) (T1 := TX1) (ci := 1) (ref := "SandGlasses$Book") C inm_X1_findRow_1 rfl (by decide) 11 (by decide) rfl dX1_findRow_1 (List.mem_of_getElem? (i := 1) rfl) rfl rfl hthis ?_
    refine xg_iload_n (pc := 4) C dX1_findRow_4 1 rfl ?_
    refine xg_icmp_ne (pc := 5) 9 C dX1_findRow_5 (by decide) (fun hc => ?_) (fun hc => ?_)
    · have hF := hF.1 hc
      refine xg_aload_n (pc := 9) C dX1_findRow_9 0 rfl ?_
      refine xg_geti (pc := 10) (C1 := RX1) (T1 := TX1) (ci := 1) (ref := "SandGlasses$Book") C inm_X1_findRow_1 rfl (by decide) 19 (by decide) rfl dX1_findRow_10 (List.mem_of_getElem? (i := 2) rfl) rfl rfl hthis ?_
      refine xg_if_ne (pc := 13) 20 C dX1_findRow_13 (by decide) (fun hc => ?_) (fun hc => ?_)
      · have hF := hF.1 hc
        exact hF
      · have hF := hF.2 hc
        refine xg_aload_n (pc := 16) C dX1_findRow_16 0 rfl ?_
        refine xg_cvV (pc := 17) (C1 := RX1) (T1 := TX1) (ci := 1) C (fun zs => []) rfl hthis (by decide) rfl (met_X1_knowTurns Y this) gX1_findRow_X1_knowTurns rfl ⟨rfl, rfl⟩ nd_X1_knowTurns ⟨Nat.le_of_ble_eq_true rfl, Nat.le_of_ble_eq_true rfl⟩ rfl rfl (Nat.le_of_ble_eq_true rfl) ⟨Nat.zero_le _, Nat.zero_le _⟩ dX1_findRow_17 hF (fun h1 hF => ?_)
        exact hF
    · have hF := hF.2 hc
      exact xg_retV (pc := 8) C E dX1_findRow_8 hF
def rm_X1_hasRoomFor : Room := { frames := 1, cells := 0, slots := 0, locals := 24 }
theorem nd_X1_hasRoomFor : yX1_hasRoomFor.cls = RX1 ∧ yX1_hasRoomFor.cls ≠ "java/lang/invoke/MethodHandle" ∧ yX1_hasRoomFor.cls ≠ "java/lang/invoke/VarHandle" ∧ (parseMethodDescriptor yX1_hasRoomFor.desc).map (fun d => d.parameters.length) = some 1 := by decide +kernel
theorem inm_X1_hasRoomFor_1 : ∀ w ∈ u_ws RX1 TX1 (xg_N 1), w ∈ wsX1_hasRoomFor := fun _ h9 => List.mem_cons_of_mem _ (List.mem_append_left _ (List.mem_append_right _ h9))
theorem inm_X1_hasRoomFor_10 : ∀ w ∈ u_ws RX10 TX10 (xg_N 10), w ∈ wsX1_hasRoomFor := fun _ h9 => List.mem_cons_of_mem _ (List.mem_append_right _ h9)
set_option maxHeartbeats 4000000 in
set_option maxRecDepth 100000 in
theorem met_X1_hasRoomFor (Y : xg_Y) (this : Nat) (x1 : Int32) : xg_MI yX1_hasRoomFor wsX1_hasRoomFor rm_X1_hasRoomFor Y (fun zs => [va_rf (some this), .int x1]) (fun Q h => wp_X1_hasRoomFor Y Q this x1 h) := by
  refine xg_startI (cc := cX1_hasRoomFor) (maxL := 2) (own := RX1) (by decide) rfl rfl (fun zs => Nat.le_of_ble_eq_true rfl) (fun X Q h C hnL E hw => ?_)
  unfold wp_X1_hasRoomFor at hw
  obtain ⟨hthis, hw⟩ := hw
  refine xg_sub (lv2 := [(0, va_rf (some this)), (1, .int x1)]) [0, 1] rfl ?_
  have hF := hw
  refine xg_aload_n (pc := 0) C dX1_hasRoomFor_0 0 rfl ?_
  refine xg_getr (pc := 1) (C1 := RX1) (T1 := TX1) (ci := 1) (ref := "SandGlasses$Book") C inm_X1_hasRoomFor_1 rfl (by decide) 0 (by decide) rfl dX1_hasRoomFor_1 (List.mem_of_getElem? (i := 1) rfl) rfl rfl hthis ?_
  obtain ⟨a1, ha1, hka1, hF⟩ := hF
  refine xg_getr (pc := 4) (C1 := RX10) (T1 := TX10) (ci := 10) (ref := "SandGlasses$Walk") C inm_X1_hasRoomFor_10 rfl (by decide) 0 (by decide) rfl dX1_hasRoomFor_4 (List.mem_of_getElem? (i := 2) rfl) rfl ha1 hka1 ?_
  obtain ⟨a2, ha2, hka2, hF⟩ := hF
  refine xg_alen (pc := 7) (c9 := 22) C ha2 hka2 (by decide) dX1_hasRoomFor_7 ?_
  refine xg_getsN (pc := 8) (ref := "SandGlasses") (host := "SandGlasses") C 1 (by decide) dX1_hasRoomFor_8 (by decide +kernel) rfl ?_
  refine xg_iconst (pc := 11) (v := 0) C dX1_hasRoomFor_11 (by decide) ?_
  refine xg_iconst (pc := 12) (v := 4) C dX1_hasRoomFor_12 (by decide) ?_
  refine xg_iload_n (pc := 13) C dX1_hasRoomFor_13 1 rfl ?_
  refine xg_mmin (pc := 14) C (List.mem_of_getElem? (i := 3) rfl) (List.mem_of_getElem? (i := 4) rfl) (List.mem_of_getElem? (i := 5) rfl) (List.mem_of_getElem? (i := 6) rfl) (Nat.le_of_ble_eq_true rfl) (Nat.le_of_ble_eq_true rfl) (Nat.zero_le _) (Nat.zero_le _) dX1_hasRoomFor_14 ?_
  refine xg_topi (pc := 17) (fun z3 ez3 => ?_)
  have hF := hF z3 ez3
  refine xg_mmax (pc := 17) C (List.mem_of_getElem? (i := 7) rfl) (List.mem_of_getElem? (i := 8) rfl) (List.mem_of_getElem? (i := 5) rfl) (List.mem_of_getElem? (i := 9) rfl) (Nat.le_of_ble_eq_true rfl) (Nat.le_of_ble_eq_true rfl) (Nat.zero_le _) (Nat.zero_le _) dX1_hasRoomFor_17 ?_
  refine xg_topi (pc := 20) (fun z4 ez4 => ?_)
  have hF := hF z4 ez4
  obtain ⟨hi, hF⟩ := hF
  refine xg_sld (pc := 20) C 1 (by decide) hi dX1_hasRoomFor_20 ?_
  refine xg_icmp_lt (pc := 21) 28 C dX1_hasRoomFor_21 (by decide) (fun hc => ?_) (fun hc => ?_)
  · have hF := hF.1 hc
    refine xg_iconst (pc := 28) (v := 0) C dX1_hasRoomFor_28 (by decide) ?_
    exact xg_retZ (pc := 29) C E (Or.inl rfl) dX1_hasRoomFor_29 hF
  · have hF := hF.2 hc
    refine xg_iconst (pc := 24) (v := 1) C dX1_hasRoomFor_24 (by decide) ?_
    refine xg_goto (pc := 25) 29 C dX1_hasRoomFor_25 (by decide) ?_
    exact xg_retZ (pc := 29) C E (Or.inr rfl) dX1_hasRoomFor_29 hF
