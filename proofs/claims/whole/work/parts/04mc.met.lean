def rm_waits : Room := { frames := 3, cells := 0, slots := 0, locals := 65 }
theorem nd_waits : yX12_waits.cls = RX12 ∧ yX12_waits.cls ≠ "java/lang/invoke/MethodHandle" ∧ yX12_waits.cls ≠ "java/lang/invoke/VarHandle" ∧ (parseMethodDescriptor yX12_waits.desc).map (fun d => d.parameters.length) = some 1 := by decide +kernel
theorem inm_waits : ∀ w ∈ wsX120, w ∈ wsX12_waits := fun _ h9 => List.mem_cons_of_mem _ (List.mem_append_right _ h9)
set_option maxHeartbeats 4000000 in
set_option maxRecDepth 100000 in
theorem met_waits (x1 : Int32) : mg_MI yX12_waits wsX12_waits rm_waits (fun ad => [.ref (ad 0), .int x1]) (fun Q h => wp_waits Q x1 h) := by
  refine mg_startI (cc := cX12_waits) (maxL := 3) (by decide) rfl rfl (fun ad => Nat.le_of_ble_eq_true rfl) (fun X Q h C hnL E hw => ?_)
  unfold wp_waits at hw
  refine mg_sub (lv2 := [(0, .ref (mg_ad X 0)), (1, .int x1)]) [0, 1] rfl ?_
  refine mg_use (hw (fun (y2 : Int32) (h : mg_H) => mg_W X 15 [(0, .ref (mg_ad X 0)), (1, .int x1), (2, .int y2)] [] h) ?_) (fun hF => ?_)
  · intro y2 h hF
    refine mg_iload_n (pc := 15) C dX12_waits_15 2 rfl ?_
    refine mg_iload_n (pc := 16) C dX12_waits_16 1 rfl ?_
    refine mg_icmp_ge (pc := 17) 30 C dX12_waits_17 (by decide) (fun hc => ?_) (fun hc => ?_)
    · have hF := hF.1 hc
      refine mg_iconst (pc := 30) (v := 1) C dX12_waits_30 (by decide) ?_
      exact mg_retZ (pc := 31) C E (Or.inr rfl) dX12_waits_31 hF
    · have hF := hF.2 hc
      refine mg_aload_n (pc := 20) C dX12_waits_20 0 rfl ?_
      refine mg_cvV (pc := 21) C (fun ad => []) (met_goBy) gX12_waits_X12_goBy rfl ⟨rfl, rfl⟩ nd_goBy ⟨Nat.le_of_ble_eq_true rfl, Nat.le_of_ble_eq_true rfl⟩ rfl rfl (Nat.le_of_ble_eq_true rfl) dX12_waits_21 hF (fun h1 hF => ?_)
      obtain ⟨z2, ez2⟩ : ∃ y : Int32, y = y2 + 1 := ⟨_, rfl⟩
      have hF := hF z2 ez2
      refine mg_iinc (pc := 24) (v := z2) (lv2 := [(2, .int z2), (0, .ref (mg_ad X 0)), (1, .int x1)]) C dX12_waits_24 2 rfl (by rw [ez2]; rfl) 3 hnL (by decide) rfl ?_
      refine mg_goto (pc := 27) 15 C dX12_waits_27 (by decide) ?_
      refine mg_sub (lv2 := [(0, .ref (mg_ad X 0)), (1, .int x1), (2, .int z2)]) [1, 2, 0] rfl ?_
      exact hF
  · skip
    refine mg_aload_n (pc := 0) C dX12_waits_0 0 rfl ?_
    refine mg_geti (pc := 1) C inm_waits 30 (by decide) rfl (by decide) dX12_waits_1 (List.mem_of_getElem? (i := 1) rfl) ?_
    refine mg_iload_n (pc := 4) C dX12_waits_4 1 rfl ?_
    refine mg_iadd (pc := 5) C dX12_waits_5 ?_
    refine mg_bipush (pc := 6) (v := 99) C dX12_waits_6 (by decide) ?_
    refine mg_icmp_le (pc := 8) 13 C dX12_waits_8 (by decide) (fun hc => ?_) (fun hc => ?_)
    · have hF := hF.1 hc
      refine mg_iconst (pc := 13) (v := 0) C dX12_waits_13 (by decide) ?_
      refine mg_istore_n (pc := 14) (lv2 := [(2, .int 0), (0, .ref (mg_ad X 0)), (1, .int x1)]) C dX12_waits_14 3 hnL (by decide) rfl ?_
      refine mg_sub (lv2 := [(0, .ref (mg_ad X 0)), (1, .int x1), (2, .int 0)]) [1, 2, 0] rfl ?_
      exact hF
    · have hF := hF.2 hc
      refine mg_iconst (pc := 11) (v := 0) C dX12_waits_11 (by decide) ?_
      exact mg_retZ (pc := 12) C E (Or.inl rfl) dX12_waits_12 hF
def rm_does : Room := { frames := 4, cells := 0, slots := 0, locals := 87 }
theorem nd_does : yX12_does.cls = RX12 ∧ yX12_does.cls ≠ "java/lang/invoke/MethodHandle" ∧ yX12_does.cls ≠ "java/lang/invoke/VarHandle" ∧ (parseMethodDescriptor yX12_does.desc).map (fun d => d.parameters.length) = some 2 := by decide +kernel
theorem inm_does : ∀ w ∈ wsX120, w ∈ wsX12_does := fun _ h9 => List.mem_cons_of_mem _ (List.mem_append_right _ h9)
set_option maxHeartbeats 4000000 in
set_option maxRecDepth 100000 in
theorem met_does (x1 : Int32) (x2 : Int32) : mg_MI yX12_does wsX12_does rm_does (fun ad => [.ref (ad 0), .int x1, .int x2]) (fun Q h => wp_does Q x1 x2 h) := by
  refine mg_startI (cc := cX12_does) (maxL := 3) (by decide) rfl rfl (fun ad => Nat.le_of_ble_eq_true rfl) (fun X Q h C hnL E hw => ?_)
  unfold wp_does at hw
  refine mg_sub (lv2 := [(0, .ref (mg_ad X 0)), (1, .int x1), (2, .int x2)]) [0, 1, 2] rfl ?_
  refine mg_use (hw (fun (s0 : Int32) (s1 : Int32) (h : mg_H) => mg_W X 36 [(0, .ref (mg_ad X 0)), (1, .int x1), (2, .int x2)] [.int s0, .int s1] h) (fun (h : mg_H) => mg_W X 46 [(0, .ref (mg_ad X 0)), (1, .int x1), (2, .int x2)] [] h) ?_ ?_) (fun hF => ?_)
  · intro s0 s1 h hF
    refine mg_icmp_eq (pc := 36) 46 C dX12_does_36 (by decide) (fun hc => ?_) (fun hc => ?_)
    · have hF := hF.1 hc
      exact hF
    · have hF := hF.2 hc
      refine mg_iload_n (pc := 39) C dX12_does_39 1 rfl ?_
      refine mg_iconst (pc := 40) (v := 4) C dX12_does_40 (by decide) ?_
      refine mg_icmp_eq (pc := 41) 46 C dX12_does_41 (by decide) (fun hc => ?_) (fun hc => ?_)
      · have hF := hF.1 hc
        exact hF
      · have hF := hF.2 hc
        refine mg_iconst (pc := 44) (v := 0) C dX12_does_44 (by decide) ?_
        exact mg_retZ (pc := 45) C E (Or.inl rfl) dX12_does_45 hF
  · intro h hF
    refine mg_iload_n (pc := 46) C dX12_does_46 1 rfl ?_
    by_cases hs0 : x1 = 1
    · have hF := hF.1 hs0
      refine mg_tabIn (pc := 47) 72 C dX12_does_47 (by rw [hs0]; decide) (by rw [hs0]; decide) (off := 25) (by rw [hs0]; rfl) (by decide) ?_
      refine mg_aload_n (pc := 72) C dX12_does_72 0 rfl ?_
      refine mg_getr (pc := 73) C inm_does 28 (by decide) (by decide) dX12_does_73 (List.mem_of_getElem? (i := 2) rfl) ?_
      refine mg_iload_n (pc := 76) C dX12_does_76 2 rfl ?_
      refine mg_aload_n (pc := 77) C dX12_does_77 0 rfl ?_
      refine mg_getr (pc := 78) C inm_does 27 (by decide) (by decide) dX12_does_78 (List.mem_of_getElem? (i := 3) rfl) ?_
      refine mg_iload_n (pc := 81) C dX12_does_81 2 rfl ?_
      obtain ⟨hi, hF⟩ := hF
      refine mg_iald (pc := 82) C (by decide) rfl hi dX12_does_82 ?_
      refine mg_aload_n (pc := 83) C dX12_does_83 0 rfl ?_
      refine mg_getr (pc := 84) C inm_does 28 (by decide) (by decide) dX12_does_84 (List.mem_of_getElem? (i := 2) rfl) ?_
      refine mg_iload_n (pc := 87) C dX12_does_87 2 rfl ?_
      obtain ⟨hi, hF⟩ := hF
      refine mg_iald (pc := 88) C (by decide) rfl hi dX12_does_88 ?_
      refine mg_isub (pc := 89) C dX12_does_89 ?_
      obtain ⟨hi, hF⟩ := hF
      refine mg_iast (pc := 90) C (by decide) rfl hi dX12_does_90 (fun h7 eh7 => ?_)
      have hF := hF h7 eh7
      refine mg_aload_n (pc := 91) C dX12_does_91 0 rfl ?_
      refine mg_dup (pc := 92) C dX12_does_92 rfl ?_
      refine mg_geti (pc := 93) C inm_does 33 (by decide) rfl (by decide) dX12_does_93 (List.mem_of_getElem? (i := 4) rfl) ?_
      refine mg_iconst (pc := 96) (v := 1) C dX12_does_96 (by decide) ?_
      refine mg_iadd (pc := 97) C dX12_does_97 ?_
      refine mg_puti (pc := 98) C inm_does 33 (by decide) rfl (by decide) dX12_does_98 (List.mem_of_getElem? (i := 4) rfl) rfl (tyX12_ok 33 (by decide)) (fun h8 eh8 => ?_)
      have hF := hF h8 eh8
      refine mg_iconst (pc := 101) (v := 1) C dX12_does_101 (by decide) ?_
      exact mg_retZ (pc := 102) C E (Or.inr rfl) dX12_does_102 hF
    have hF := hF.2
    by_cases hs1 : x1 = 2
    · have hF := hF.1 hs1
      refine mg_tabIn (pc := 47) 103 C dX12_does_47 (by rw [hs1]; decide) (by rw [hs1]; decide) (off := 56) (by rw [hs1]; rfl) (by decide) ?_
      refine mg_aload_n (pc := 103) C dX12_does_103 0 rfl ?_
      refine mg_dup (pc := 104) C dX12_does_104 rfl ?_
      refine mg_geti (pc := 105) C inm_does 31 (by decide) rfl (by decide) dX12_does_105 (List.mem_of_getElem? (i := 1) rfl) ?_
      refine mg_iconst (pc := 108) (v := 1) C dX12_does_108 (by decide) ?_
      refine mg_iload_n (pc := 109) C dX12_does_109 2 rfl ?_
      refine mg_ishl (pc := 110) C dX12_does_110 ?_
      refine mg_ior (pc := 111) C dX12_does_111 ?_
      refine mg_puti (pc := 112) C inm_does 31 (by decide) rfl (by decide) dX12_does_112 (List.mem_of_getElem? (i := 1) rfl) rfl (tyX12_ok 31 (by decide)) (fun h9 eh9 => ?_)
      have hF := hF h9 eh9
      refine mg_iconst (pc := 115) (v := 1) C dX12_does_115 (by decide) ?_
      exact mg_retZ (pc := 116) C E (Or.inr rfl) dX12_does_116 hF
    have hF := hF.2
    by_cases hs2 : x1 = 3
    · have hF := hF.1 hs2
      refine mg_tabIn (pc := 47) 117 C dX12_does_47 (by rw [hs2]; decide) (by rw [hs2]; decide) (off := 70) (by rw [hs2]; rfl) (by decide) ?_
      refine mg_aload_n (pc := 117) C dX12_does_117 0 rfl ?_
      refine mg_dup (pc := 118) C dX12_does_118 rfl ?_
      refine mg_geti (pc := 119) C inm_does 31 (by decide) rfl (by decide) dX12_does_119 (List.mem_of_getElem? (i := 1) rfl) ?_
      refine mg_iconst (pc := 122) (v := 1) C dX12_does_122 (by decide) ?_
      refine mg_iload_n (pc := 123) C dX12_does_123 2 rfl ?_
      refine mg_ishl (pc := 124) C dX12_does_124 ?_
      refine mg_iconst (pc := 125) (v := (-1)) C dX12_does_125 (by decide) ?_
      refine mg_ixor (pc := 126) C dX12_does_126 ?_
      refine mg_iand (pc := 127) C dX12_does_127 ?_
      refine mg_puti (pc := 128) C inm_does 31 (by decide) rfl (by decide) dX12_does_128 (List.mem_of_getElem? (i := 1) rfl) rfl (tyX12_ok 31 (by decide)) (fun h10 eh10 => ?_)
      have hF := hF h10 eh10
      refine mg_iconst (pc := 131) (v := 1) C dX12_does_131 (by decide) ?_
      exact mg_retZ (pc := 132) C E (Or.inr rfl) dX12_does_132 hF
    have hF := hF.2
    have hF := hF hs0 hs1 hs2
    refine mg_tabOut (pc := 47) 133 C dX12_does_47 (mg_swd x1 1 3 (fun v h1 h2 => ?_)) (by decide) ?_
    · rcases (show v = 1 ∨ v = 2 ∨ v = 3 by omega) with rfl | rfl | rfl
      · exact hs0
      · exact hs1
      · exact hs2
    refine mg_aload_n (pc := 133) C dX12_does_133 0 rfl ?_
    refine mg_getr (pc := 134) C inm_does 27 (by decide) (by decide) dX12_does_134 (List.mem_of_getElem? (i := 3) rfl) ?_
    refine mg_iload_n (pc := 137) C dX12_does_137 2 rfl ?_
    obtain ⟨hi, hF⟩ := hF
    refine mg_iald (pc := 138) C (by decide) rfl hi dX12_does_138 ?_
    refine mg_iconst (pc := 139) (v := 1) C dX12_does_139 (by decide) ?_
    refine mg_icmp_eq (pc := 140) 158 C dX12_does_140 (by decide) (fun hc => ?_) (fun hc => ?_)
    · have hF := hF.1 hc
      refine mg_iconst (pc := 158) (v := 0) C dX12_does_158 (by decide) ?_
      exact mg_retZ (pc := 159) C E (Or.inl rfl) dX12_does_159 hF
    · have hF := hF.2 hc
      refine mg_aload_n (pc := 143) C dX12_does_143 0 rfl ?_
      refine mg_getr (pc := 144) C inm_does 28 (by decide) (by decide) dX12_does_144 (List.mem_of_getElem? (i := 2) rfl) ?_
      refine mg_iload_n (pc := 147) C dX12_does_147 2 rfl ?_
      obtain ⟨hi, hF⟩ := hF
      refine mg_iald (pc := 148) C (by decide) rfl hi dX12_does_148 ?_
      refine mg_aload_n (pc := 149) C dX12_does_149 0 rfl ?_
      refine mg_getr (pc := 150) C inm_does 27 (by decide) (by decide) dX12_does_150 (List.mem_of_getElem? (i := 3) rfl) ?_
      refine mg_iload_n (pc := 153) C dX12_does_153 2 rfl ?_
      obtain ⟨hi, hF⟩ := hF
      refine mg_iald (pc := 154) C (by decide) rfl hi dX12_does_154 ?_
      refine mg_icmp_ne (pc := 155) 160 C dX12_does_155 (by decide) (fun hc => ?_) (fun hc => ?_)
      · have hF := hF.1 hc
        refine mg_aload_n (pc := 160) C dX12_does_160 0 rfl ?_
        refine mg_getr (pc := 161) C inm_does 27 (by decide) (by decide) dX12_does_161 (List.mem_of_getElem? (i := 3) rfl) ?_
        refine mg_iload_n (pc := 164) C dX12_does_164 2 rfl ?_
        refine mg_dup2 (pc := 165) C dX12_does_165 rfl rfl ?_
        obtain ⟨hi, hF⟩ := hF
        refine mg_iald (pc := 166) C (by decide) rfl hi dX12_does_166 ?_
        refine mg_iconst (pc := 167) (v := 1) C dX12_does_167 (by decide) ?_
        refine mg_isub (pc := 168) C dX12_does_168 ?_
        obtain ⟨hi, hF⟩ := hF
        refine mg_iast (pc := 169) C (by decide) rfl hi dX12_does_169 (fun h11 eh11 => ?_)
        have hF := hF h11 eh11
        refine mg_iconst (pc := 170) (v := 1) C dX12_does_170 (by decide) ?_
        exact mg_retZ (pc := 171) C E (Or.inr rfl) dX12_does_171 hF
      · have hF := hF.2 hc
        refine mg_iconst (pc := 158) (v := 0) C dX12_does_158 (by decide) ?_
        exact mg_retZ (pc := 159) C E (Or.inl rfl) dX12_does_159 hF
  · skip
    refine mg_iload_n (pc := 0) C dX12_does_0 1 rfl ?_
    refine mg_if_ne (pc := 1) 10 C dX12_does_1 (by decide) (fun hc => ?_) (fun hc => ?_)
    · have hF := hF.1 hc
      refine mg_aload_n (pc := 10) C dX12_does_10 0 rfl ?_
      refine mg_iload_n (pc := 11) C dX12_does_11 2 rfl ?_
      refine mg_cvI (pc := 12) C (fun ad => [.int x2]) (met_isGlass x2) gX12_does_X12_isGlass rfl ⟨rfl, rfl⟩ nd_isGlass ⟨Nat.le_of_ble_eq_true rfl, Nat.le_of_ble_eq_true rfl⟩ rfl rfl (Nat.le_of_ble_eq_true rfl) dX12_does_12 hF (fun r2 h1 hF => ?_)
      refine mg_if_eq (pc := 15) 44 C dX12_does_15 (by decide) (fun hc => ?_) (fun hc => ?_)
      · have hF := hF.1 hc
        refine mg_iconst (pc := 44) (v := 0) C dX12_does_44 (by decide) ?_
        exact mg_retZ (pc := 45) C E (Or.inl rfl) dX12_does_45 hF
      · have hF := hF.2 hc
        refine mg_aload_n (pc := 18) C dX12_does_18 0 rfl ?_
        refine mg_geti (pc := 19) C inm_does 31 (by decide) rfl (by decide) dX12_does_19 (List.mem_of_getElem? (i := 1) rfl) ?_
        refine mg_iload_n (pc := 22) C dX12_does_22 2 rfl ?_
        refine mg_csI (pc := 23) C (fun ad => [.int (mg_i h1 0 31), .int x2]) (met_has (mg_i h1 0 31) x2) gX12_does_X12_has rfl ⟨rfl, rfl⟩ nd_has.2 ⟨Nat.le_of_ble_eq_true rfl, Nat.le_of_ble_eq_true rfl⟩ rfl rfl (Nat.le_of_ble_eq_true rfl) dX12_does_23 hF (fun r4 h3 hF => ?_)
        refine mg_iload_n (pc := 26) C dX12_does_26 1 rfl ?_
        refine mg_iconst (pc := 27) (v := 3) C dX12_does_27 (by decide) ?_
        refine mg_icmp_ne (pc := 28) 35 C dX12_does_28 (by decide) (fun hc => ?_) (fun hc => ?_)
        · have hF := hF.1 hc
          refine mg_iconst (pc := 35) (v := 0) C dX12_does_35 (by decide) ?_
          exact hF
        · have hF := hF.2 hc
          refine mg_iconst (pc := 31) (v := 1) C dX12_does_31 (by decide) ?_
          refine mg_goto (pc := 32) 36 C dX12_does_32 (by decide) ?_
          exact hF
    · have hF := hF.2 hc
      refine mg_aload_n (pc := 4) C dX12_does_4 0 rfl ?_
      refine mg_iload_n (pc := 5) C dX12_does_5 2 rfl ?_
      refine mg_cvI (pc := 6) C (fun ad => [.int x2]) (met_waits x2) gX12_does_X12_waits rfl ⟨rfl, rfl⟩ nd_waits ⟨Nat.le_of_ble_eq_true rfl, Nat.le_of_ble_eq_true rfl⟩ rfl rfl (Nat.le_of_ble_eq_true rfl) dX12_does_6 hF (fun r6 h5 hF => ?_)
      exact mg_retZ (pc := 9) C E hF.1 dX12_does_9 hF.2
def rm_doesDeed : Room := { frames := 5, cells := 0, slots := 0, locals := 109 }
theorem nd_doesDeed : yX12_doesDeed.cls = RX12 ∧ yX12_doesDeed.cls ≠ "java/lang/invoke/MethodHandle" ∧ yX12_doesDeed.cls ≠ "java/lang/invoke/VarHandle" ∧ (parseMethodDescriptor yX12_doesDeed.desc).map (fun d => d.parameters.length) = some 1 := by decide +kernel
set_option maxHeartbeats 4000000 in
set_option maxRecDepth 100000 in
theorem met_doesDeed (x1 : Int32) : mg_MI yX12_doesDeed wsX12_doesDeed rm_doesDeed (fun ad => [.ref (ad 0), .int x1]) (fun Q h => wp_doesDeed Q x1 h) := by
  refine mg_startI (cc := cX12_doesDeed) (maxL := 2) (by decide) rfl rfl (fun ad => Nat.le_of_ble_eq_true rfl) (fun X Q h C hnL E hw => ?_)
  unfold wp_doesDeed at hw
  refine mg_sub (lv2 := [(0, .ref (mg_ad X 0)), (1, .int x1)]) [0, 1] rfl ?_
  have hF := hw
  refine mg_aload_n (pc := 0) C dX12_doesDeed_0 0 rfl ?_
  refine mg_aload_n (pc := 1) C dX12_doesDeed_1 0 rfl ?_
  refine mg_iload_n (pc := 2) C dX12_doesDeed_2 1 rfl ?_
  refine mg_iconst (pc := 3) (v := 0) C dX12_doesDeed_3 (by decide) ?_
  refine mg_cvI (pc := 4) C (fun ad => [.int x1, .int 0]) (met_deedOf x1 0) gX12_doesDeed_X12_deedOf rfl ⟨rfl, rfl⟩ nd_deedOf ⟨Nat.le_of_ble_eq_true rfl, Nat.le_of_ble_eq_true rfl⟩ rfl rfl (Nat.le_of_ble_eq_true rfl) dX12_doesDeed_4 hF (fun r2 h1 hF => ?_)
  refine mg_aload_n (pc := 7) C dX12_doesDeed_7 0 rfl ?_
  refine mg_iload_n (pc := 8) C dX12_doesDeed_8 1 rfl ?_
  refine mg_iconst (pc := 9) (v := 1) C dX12_doesDeed_9 (by decide) ?_
  refine mg_cvI (pc := 10) C (fun ad => [.int x1, .int 1]) (met_deedOf x1 1) gX12_doesDeed_X12_deedOf rfl ⟨rfl, rfl⟩ nd_deedOf ⟨Nat.le_of_ble_eq_true rfl, Nat.le_of_ble_eq_true rfl⟩ rfl rfl (Nat.le_of_ble_eq_true rfl) dX12_doesDeed_10 hF (fun r4 h3 hF => ?_)
  refine mg_cvI (pc := 13) C (fun ad => [.int r2, .int r4]) (met_does r2 r4) gX12_doesDeed_X12_does rfl ⟨rfl, rfl⟩ nd_does ⟨Nat.le_of_ble_eq_true rfl, Nat.le_of_ble_eq_true rfl⟩ rfl rfl (Nat.le_of_ble_eq_true rfl) dX12_doesDeed_13 hF (fun r6 h5 hF => ?_)
  exact mg_retZ (pc := 16) C E hF.1 dX12_doesDeed_16 hF.2
def rm_play : Room := { frames := 6, cells := 0, slots := 0, locals := 130 }
theorem nd_play : yX12_play.cls = RX12 ∧ yX12_play.cls ≠ "java/lang/invoke/MethodHandle" ∧ yX12_play.cls ≠ "java/lang/invoke/VarHandle" ∧ (parseMethodDescriptor yX12_play.desc).map (fun d => d.parameters.length) = some 1 := by decide +kernel
set_option maxHeartbeats 4000000 in
set_option maxRecDepth 100000 in
theorem met_play (x1 : Int32) : mg_MI yX12_play wsX12_play rm_play (fun ad => [.ref (ad 0), .int x1]) (fun Q h => wp_play Q x1 h) := by
  refine mg_startI (cc := cX12_play) (maxL := 3) (by decide) rfl rfl (fun ad => Nat.le_of_ble_eq_true rfl) (fun X Q h C hnL E hw => ?_)
  unfold wp_play at hw
  refine mg_sub (lv2 := [(0, .ref (mg_ad X 0)), (1, .int x1)]) [0, 1] rfl ?_
  refine mg_use (hw (fun (y2 : Int32) (h : mg_H) => mg_W X 2 [(0, .ref (mg_ad X 0)), (1, .int x1), (2, .int y2)] [] h) ?_) (fun hF => ?_)
  · intro y2 h hF
    refine mg_iload_n (pc := 2) C dX12_play_2 2 rfl ?_
    refine mg_iload_n (pc := 3) C dX12_play_3 1 rfl ?_
    refine mg_icmp_ge (pc := 4) 21 C dX12_play_4 (by decide) (fun hc => ?_) (fun hc => ?_)
    · have hF := hF.1 hc
      refine mg_iload_n (pc := 21) C dX12_play_21 2 rfl ?_
      exact mg_retI (pc := 22) C E dX12_play_22 hF
    · have hF := hF.2 hc
      refine mg_aload_n (pc := 7) C dX12_play_7 0 rfl ?_
      refine mg_iload_n (pc := 8) C dX12_play_8 2 rfl ?_
      refine mg_cvI (pc := 9) C (fun ad => [.int y2]) (met_doesDeed y2) gX12_play_X12_doesDeed rfl ⟨rfl, rfl⟩ nd_doesDeed ⟨Nat.le_of_ble_eq_true rfl, Nat.le_of_ble_eq_true rfl⟩ rfl rfl (Nat.le_of_ble_eq_true rfl) dX12_play_9 hF (fun r2 h1 hF => ?_)
      refine mg_if_eq (pc := 12) 21 C dX12_play_12 (by decide) (fun hc => ?_) (fun hc => ?_)
      · have hF := hF.1 hc
        refine mg_iload_n (pc := 21) C dX12_play_21 2 rfl ?_
        exact mg_retI (pc := 22) C E dX12_play_22 hF
      · have hF := hF.2 hc
        obtain ⟨z3, ez3⟩ : ∃ y : Int32, y = y2 + 1 := ⟨_, rfl⟩
        have hF := hF z3 ez3
        refine mg_iinc (pc := 15) (v := z3) (lv2 := [(2, .int z3), (0, .ref (mg_ad X 0)), (1, .int x1)]) C dX12_play_15 2 rfl (by rw [ez3]; rfl) 3 hnL (by decide) rfl ?_
        refine mg_goto (pc := 18) 2 C dX12_play_18 (by decide) ?_
        refine mg_sub (lv2 := [(0, .ref (mg_ad X 0)), (1, .int x1), (2, .int z3)]) [1, 2, 0] rfl ?_
        exact hF
  · skip
    refine mg_iconst (pc := 0) (v := 0) C dX12_play_0 (by decide) ?_
    refine mg_istore_n (pc := 1) (lv2 := [(2, .int 0), (0, .ref (mg_ad X 0)), (1, .int x1)]) C dX12_play_1 3 hnL (by decide) rfl ?_
    refine mg_sub (lv2 := [(0, .ref (mg_ad X 0)), (1, .int x1), (2, .int 0)]) [1, 2, 0] rfl ?_
    exact hF
def rm_layAll : Room := { frames := 3, cells := 0, slots := 0, locals := 65 }
theorem nd_layAll : yX12_layAll.cls = RX12 ∧ yX12_layAll.cls ≠ "java/lang/invoke/MethodHandle" ∧ yX12_layAll.cls ≠ "java/lang/invoke/VarHandle" ∧ (parseMethodDescriptor yX12_layAll.desc).map (fun d => d.parameters.length) = some 2 := by decide +kernel
set_option maxHeartbeats 4000000 in
set_option maxRecDepth 100000 in
theorem met_layAll (x1 : Int32) (x2 : Int32) : mg_MI yX12_layAll wsX12_layAll rm_layAll (fun ad => [.ref (ad 0), .int x1, .int x2]) (fun Q h => wp_layAll Q x1 x2 h) := by
  refine mg_startI (cc := cX12_layAll) (maxL := 3) (by decide) rfl rfl (fun ad => Nat.le_of_ble_eq_true rfl) (fun X Q h C hnL E hw => ?_)
  unfold wp_layAll at hw
  refine mg_sub (lv2 := [(0, .ref (mg_ad X 0)), (1, .int x1), (2, .int x2)]) [0, 1, 2] rfl ?_
  have hF := hw
  refine mg_aload_n (pc := 0) C dX12_layAll_0 0 rfl ?_
  refine mg_iload_n (pc := 1) C dX12_layAll_1 2 rfl ?_
  refine mg_cvI (pc := 2) C (fun ad => [.int x2]) (met_hasDay x2) gX12_layAll_X12_hasDay rfl ⟨rfl, rfl⟩ nd_hasDay ⟨Nat.le_of_ble_eq_true rfl, Nat.le_of_ble_eq_true rfl⟩ rfl rfl (Nat.le_of_ble_eq_true rfl) dX12_layAll_2 hF (fun r2 h1 hF => ?_)
  refine mg_if_eq (pc := 5) 16 C dX12_layAll_5 (by decide) (fun hc => ?_) (fun hc => ?_)
  · have hF := hF.1 hc
    refine mg_iconst (pc := 16) (v := 0) C dX12_layAll_16 (by decide) ?_
    exact mg_retZ (pc := 17) C E (Or.inl rfl) dX12_layAll_17 hF
  · have hF := hF.2 hc
    refine mg_aload_n (pc := 8) C dX12_layAll_8 0 rfl ?_
    refine mg_iload_n (pc := 9) C dX12_layAll_9 1 rfl ?_
    refine mg_cvI (pc := 10) C (fun ad => [.int x1]) (met_hand x1) gX12_layAll_X12_hand rfl ⟨rfl, rfl⟩ nd_hand ⟨Nat.le_of_ble_eq_true rfl, Nat.le_of_ble_eq_true rfl⟩ rfl rfl (Nat.le_of_ble_eq_true rfl) dX12_layAll_10 hF (fun r4 h3 hF => ?_)
    refine mg_if_ne (pc := 13) 18 C dX12_layAll_13 (by decide) (fun hc => ?_) (fun hc => ?_)
    · have hF := hF.1 hc
      refine mg_aload_n (pc := 18) C dX12_layAll_18 0 rfl ?_
      refine mg_cvV (pc := 19) C (fun ad => []) (met_beginDay) gX12_layAll_X12_beginDay rfl ⟨rfl, rfl⟩ nd_beginDay ⟨Nat.le_of_ble_eq_true rfl, Nat.le_of_ble_eq_true rfl⟩ rfl rfl (Nat.le_of_ble_eq_true rfl) dX12_layAll_19 hF (fun h5 hF => ?_)
      refine mg_iconst (pc := 22) (v := 1) C dX12_layAll_22 (by decide) ?_
      exact mg_retZ (pc := 23) C E (Or.inr rfl) dX12_layAll_23 hF
    · have hF := hF.2 hc
      refine mg_iconst (pc := 16) (v := 0) C dX12_layAll_16 (by decide) ?_
      exact mg_retZ (pc := 17) C E (Or.inl rfl) dX12_layAll_17 hF
def rm_stop : Room := { frames := 7, cells := 0, slots := 0, locals := 152 }
theorem nd_stop : yX12_stop.cls = RX12 ∧ yX12_stop.cls ≠ "java/lang/invoke/MethodHandle" ∧ yX12_stop.cls ≠ "java/lang/invoke/VarHandle" ∧ (parseMethodDescriptor yX12_stop.desc).map (fun d => d.parameters.length) = some 2 := by decide +kernel
theorem inm_stop : ∀ w ∈ wsX120, w ∈ wsX12_stop := fun _ h9 => List.mem_cons_of_mem _ (List.mem_append_right _ h9)
set_option maxHeartbeats 4000000 in
set_option maxRecDepth 100000 in
theorem met_stop (x1 : Int32) (x2 : Int32) : mg_MI yX12_stop wsX12_stop rm_stop (fun ad => [.ref (ad 0), .int x1, .int x2]) (fun Q h => wp_stop Q x1 x2 h) := by
  refine mg_startI (cc := cX12_stop) (maxL := 3) (by decide) rfl rfl (fun ad => Nat.le_of_ble_eq_true rfl) (fun X Q h C hnL E hw => ?_)
  unfold wp_stop at hw
  refine mg_sub (lv2 := [(0, .ref (mg_ad X 0)), (1, .int x1), (2, .int x2)]) [0, 1, 2] rfl ?_
  have hF := hw
  refine mg_aload_n (pc := 0) C dX12_stop_0 0 rfl ?_
  refine mg_iconst (pc := 1) (v := 0) C dX12_stop_1 (by decide) ?_
  refine mg_puti (pc := 2) C inm_stop 0 (by decide) rfl (by decide) dX12_stop_2 (List.mem_of_getElem? (i := 1) rfl) rfl (tyX12_ok 0 (by decide)) (fun h1 eh1 => ?_)
  have hF := hF h1 eh1
  refine mg_aload_n (pc := 5) C dX12_stop_5 0 rfl ?_
  refine mg_iload_n (pc := 6) C dX12_stop_6 1 rfl ?_
  refine mg_iload_n (pc := 7) C dX12_stop_7 2 rfl ?_
  refine mg_cvI (pc := 8) C (fun ad => [.int x1, .int x2]) (met_layAll x1 x2) gX12_stop_X12_layAll rfl ⟨rfl, rfl⟩ nd_layAll ⟨Nat.le_of_ble_eq_true rfl, Nat.le_of_ble_eq_true rfl⟩ rfl rfl (Nat.le_of_ble_eq_true rfl) dX12_stop_8 hF (fun r3 h2 hF => ?_)
  refine mg_if_eq (pc := 11) 25 C dX12_stop_11 (by decide) (fun hc => ?_) (fun hc => ?_)
  · have hF := hF.1 hc
    refine mg_iconst (pc := 25) (v := (-1)) C dX12_stop_25 (by decide) ?_
    exact mg_retI (pc := 26) C E dX12_stop_26 hF
  · have hF := hF.2 hc
    refine mg_aload_n (pc := 14) C dX12_stop_14 0 rfl ?_
    refine mg_aload_n (pc := 15) C dX12_stop_15 0 rfl ?_
    refine mg_cvI (pc := 16) C (fun ad => []) (met_deeds) gX12_stop_X12_deeds rfl ⟨rfl, rfl⟩ nd_deeds ⟨Nat.le_of_ble_eq_true rfl, Nat.le_of_ble_eq_true rfl⟩ rfl rfl (Nat.le_of_ble_eq_true rfl) dX12_stop_16 hF (fun r5 h4 hF => ?_)
    refine mg_cvI (pc := 19) C (fun ad => [.int r5]) (met_play r5) gX12_stop_X12_play rfl ⟨rfl, rfl⟩ nd_play ⟨Nat.le_of_ble_eq_true rfl, Nat.le_of_ble_eq_true rfl⟩ rfl rfl (Nat.le_of_ble_eq_true rfl) dX12_stop_19 hF (fun r7 h6 hF => ?_)
    refine mg_goto (pc := 22) 26 C dX12_stop_22 (by decide) ?_
    exact mg_retI (pc := 26) C E dX12_stop_26 hF
def rm_ofState : Room := { frames := 2, cells := 0, slots := 0, locals := 43 }
theorem nd_ofState : yX12_ofState.cls = RX12 ∧ yX12_ofState.cls ≠ "java/lang/invoke/MethodHandle" ∧ yX12_ofState.cls ≠ "java/lang/invoke/VarHandle" ∧ (parseMethodDescriptor yX12_ofState.desc).map (fun d => d.parameters.length) = some 1 := by decide +kernel
theorem inm_ofState : ∀ w ∈ wsX120, w ∈ wsX12_ofState := fun _ h9 => List.mem_cons_of_mem _ (List.mem_append_right _ h9)
set_option maxHeartbeats 4000000 in
set_option maxRecDepth 100000 in
theorem met_ofState (x1 : Int32) : mg_MI yX12_ofState wsX12_ofState rm_ofState (fun ad => [.ref (ad 0), .int x1]) (fun Q h => wp_ofState Q x1 h) := by
  refine mg_startI (cc := cX12_ofState) (maxL := 3) (by decide) rfl rfl (fun ad => Nat.le_of_ble_eq_true rfl) (fun X Q h C hnL E hw => ?_)
  unfold wp_ofState at hw
  refine mg_sub (lv2 := [(0, .ref (mg_ad X 0)), (1, .int x1)]) [0, 1] rfl ?_
  have hF := hw
  refine mg_iload_n (pc := 0) C dX12_ofState_0 1 rfl ?_
  refine mg_bipush (pc := 1) (v := 10) C dX12_ofState_1 (by decide) ?_
  refine mg_irem (pc := 3) C dX12_ofState_3 (by decide) ?_
  refine mg_topi (pc := 4) (fun z1 ez1 => ?_)
  have hF := hF z1 ez1
  refine mg_istore_n (pc := 4) (lv2 := [(2, .int z1), (0, .ref (mg_ad X 0)), (1, .int x1)]) C dX12_ofState_4 3 hnL (by decide) rfl ?_
  refine mg_iload_n (pc := 5) C dX12_ofState_5 2 rfl ?_
  refine mg_bipush (pc := 6) (v := 10) C dX12_ofState_6 (by decide) ?_
  refine mg_icmp_lt (pc := 8) 71 C dX12_ofState_8 (by decide) (fun hc => ?_) (fun hc => ?_)
  · have hF := hF.1 hc
    refine mg_iload_n (pc := 71) C dX12_ofState_71 2 rfl ?_
    refine mg_if_ne (pc := 72) 82 C dX12_ofState_72 (by decide) (fun hc => ?_) (fun hc => ?_)
    · have hF := hF.1 hc
      refine mg_iload_n (pc := 82) C dX12_ofState_82 2 rfl ?_
      refine mg_iconst (pc := 83) (v := 1) C dX12_ofState_83 (by decide) ?_
      refine mg_icmp_ne (pc := 84) 94 C dX12_ofState_84 (by decide) (fun hc => ?_) (fun hc => ?_)
      · have hF := hF.1 hc
        refine mg_iload_n (pc := 94) C dX12_ofState_94 2 rfl ?_
        refine mg_iconst (pc := 95) (v := 2) C dX12_ofState_95 (by decide) ?_
        refine mg_icmp_ne (pc := 96) 106 C dX12_ofState_96 (by decide) (fun hc => ?_) (fun hc => ?_)
        · have hF := hF.1 hc
          refine mg_iload_n (pc := 106) C dX12_ofState_106 2 rfl ?_
          refine mg_iconst (pc := 107) (v := 3) C dX12_ofState_107 (by decide) ?_
          refine mg_icmp_ne (pc := 108) 118 C dX12_ofState_108 (by decide) (fun hc => ?_) (fun hc => ?_)
          · have hF := hF.1 hc
            refine mg_iconst (pc := 118) (v := (-1)) C dX12_ofState_118 (by decide) ?_
            exact mg_retI (pc := 119) C E dX12_ofState_119 hF
          · have hF := hF.2 hc
            refine mg_aload_n (pc := 111) C dX12_ofState_111 1 rfl ?_
            refine mg_geti (pc := 112) C inm_ofState 33 (by decide) rfl (by decide) dX12_ofState_112 (List.mem_of_getElem? (i := 7) rfl) ?_
            refine mg_goto (pc := 115) 119 C dX12_ofState_115 (by decide) ?_
            exact mg_retI (pc := 119) C E dX12_ofState_119 hF
        · have hF := hF.2 hc
          refine mg_aload_n (pc := 99) C dX12_ofState_99 1 rfl ?_
          refine mg_geti (pc := 100) C inm_ofState 32 (by decide) rfl (by decide) dX12_ofState_100 (List.mem_of_getElem? (i := 6) rfl) ?_
          refine mg_goto (pc := 103) 119 C dX12_ofState_103 (by decide) ?_
          exact mg_retI (pc := 119) C E dX12_ofState_119 hF
      · have hF := hF.2 hc
        refine mg_aload_n (pc := 87) C dX12_ofState_87 1 rfl ?_
        refine mg_geti (pc := 88) C inm_ofState 31 (by decide) rfl (by decide) dX12_ofState_88 (List.mem_of_getElem? (i := 5) rfl) ?_
        refine mg_goto (pc := 91) 119 C dX12_ofState_91 (by decide) ?_
        exact mg_retI (pc := 119) C E dX12_ofState_119 hF
    · have hF := hF.2 hc
      refine mg_aload_n (pc := 75) C dX12_ofState_75 1 rfl ?_
      refine mg_geti (pc := 76) C inm_ofState 30 (by decide) rfl (by decide) dX12_ofState_76 (List.mem_of_getElem? (i := 4) rfl) ?_
      refine mg_goto (pc := 79) 119 C dX12_ofState_79 (by decide) ?_
      exact mg_retI (pc := 119) C E dX12_ofState_119 hF
  · have hF := hF.2 hc
    refine mg_aload_n (pc := 11) C dX12_ofState_11 1 rfl ?_
    refine mg_iload_n (pc := 12) C dX12_ofState_12 0 rfl ?_
    refine mg_cvI (pc := 13) C (fun ad => [.int z1]) (met_isGlass z1) gX12_ofState_X12_isGlass rfl ⟨rfl, rfl⟩ nd_isGlass ⟨Nat.le_of_ble_eq_true rfl, Nat.le_of_ble_eq_true rfl⟩ rfl rfl (Nat.le_of_ble_eq_true rfl) dX12_ofState_13 hF (fun r3 h2 hF => ?_)
    refine mg_if_eq (pc := 16) 25 C dX12_ofState_16 (by decide) (fun hc => ?_) (fun hc => ?_)
    · have hF := hF.1 hc
      refine mg_iconst (pc := 25) (v := (-1)) C dX12_ofState_25 (by decide) ?_
      exact mg_retI (pc := 26) C E dX12_ofState_26 hF
    · have hF := hF.2 hc
      refine mg_iload_n (pc := 19) C dX12_ofState_19 2 rfl ?_
      refine mg_bipush (pc := 20) (v := 40) C dX12_ofState_20 (by decide) ?_
      refine mg_icmp_lt (pc := 22) 27 C dX12_ofState_22 (by decide) (fun hc => ?_) (fun hc => ?_)
      · have hF := hF.1 hc
        refine mg_iload_n (pc := 27) C dX12_ofState_27 2 rfl ?_
        refine mg_bipush (pc := 28) (v := 20) C dX12_ofState_28 (by decide) ?_
        refine mg_icmp_ge (pc := 30) 42 C dX12_ofState_30 (by decide) (fun hc => ?_) (fun hc => ?_)
        · have hF := hF.1 hc
          refine mg_iload_n (pc := 42) C dX12_ofState_42 2 rfl ?_
          refine mg_bipush (pc := 43) (v := 30) C dX12_ofState_43 (by decide) ?_
          refine mg_icmp_ge (pc := 45) 64 C dX12_ofState_45 (by decide) (fun hc => ?_) (fun hc => ?_)
          · have hF := hF.1 hc
            refine mg_aload_n (pc := 64) C dX12_ofState_64 1 rfl ?_
            refine mg_getr (pc := 65) C inm_ofState 37 (by decide) (by decide) dX12_ofState_65 (List.mem_of_getElem? (i := 3) rfl) ?_
            refine mg_iload_n (pc := 68) C dX12_ofState_68 0 rfl ?_
            obtain ⟨hi, hF⟩ := hF
            refine mg_iald (pc := 69) C (by decide) rfl hi dX12_ofState_69 ?_
            exact mg_retI (pc := 70) C E dX12_ofState_70 hF
          · have hF := hF.2 hc
            refine mg_aload_n (pc := 48) C dX12_ofState_48 1 rfl ?_
            refine mg_getr (pc := 49) C inm_ofState 27 (by decide) (by decide) dX12_ofState_49 (List.mem_of_getElem? (i := 2) rfl) ?_
            refine mg_iload_n (pc := 52) C dX12_ofState_52 0 rfl ?_
            obtain ⟨hi, hF⟩ := hF
            refine mg_iald (pc := 53) C (by decide) rfl hi dX12_ofState_53 ?_
            refine mg_aload_n (pc := 54) C dX12_ofState_54 1 rfl ?_
            refine mg_getr (pc := 55) C inm_ofState 28 (by decide) (by decide) dX12_ofState_55 (List.mem_of_getElem? (i := 1) rfl) ?_
            refine mg_iload_n (pc := 58) C dX12_ofState_58 0 rfl ?_
            obtain ⟨hi, hF⟩ := hF
            refine mg_iald (pc := 59) C (by decide) rfl hi dX12_ofState_59 ?_
            refine mg_isub (pc := 60) C dX12_ofState_60 ?_
            refine mg_goto (pc := 61) 70 C dX12_ofState_61 (by decide) ?_
            exact mg_retI (pc := 70) C E dX12_ofState_70 hF
        · have hF := hF.2 hc
          refine mg_aload_n (pc := 33) C dX12_ofState_33 1 rfl ?_
          refine mg_getr (pc := 34) C inm_ofState 28 (by decide) (by decide) dX12_ofState_34 (List.mem_of_getElem? (i := 1) rfl) ?_
          refine mg_iload_n (pc := 37) C dX12_ofState_37 0 rfl ?_
          obtain ⟨hi, hF⟩ := hF
          refine mg_iald (pc := 38) C (by decide) rfl hi dX12_ofState_38 ?_
          refine mg_goto (pc := 39) 70 C dX12_ofState_39 (by decide) ?_
          exact mg_retI (pc := 70) C E dX12_ofState_70 hF
      · have hF := hF.2 hc
        refine mg_iconst (pc := 25) (v := (-1)) C dX12_ofState_25 (by decide) ?_
        exact mg_retI (pc := 26) C E dX12_ofState_26 hF
def rm_state : Room := { frames := 7, cells := 0, slots := 0, locals := 152 }
theorem nd_state : yX12_state.cls = RX12 ∧ yX12_state.cls ≠ "java/lang/invoke/MethodHandle" ∧ yX12_state.cls ≠ "java/lang/invoke/VarHandle" ∧ (parseMethodDescriptor yX12_state.desc).map (fun d => d.parameters.length) = some 4 := by decide +kernel
theorem inm_state : ∀ w ∈ wsX120, w ∈ wsX12_state := fun _ h9 => List.mem_cons_of_mem _ (List.mem_append_right _ h9)
set_option maxHeartbeats 4000000 in
set_option maxRecDepth 100000 in
theorem met_state (x1 : Int32) (x2 : Int32) (x3 : Int32) (x4 : Int32) : mg_MI yX12_state wsX12_state rm_state (fun ad => [.ref (ad 0), .int x1, .int x2, .int x3, .int x4]) (fun Q h => wp_state Q x1 x2 x3 x4 h) := by
  refine mg_startI (cc := cX12_state) (maxL := 5) (by decide) rfl rfl (fun ad => Nat.le_of_ble_eq_true rfl) (fun X Q h C hnL E hw => ?_)
  unfold wp_state at hw
  refine mg_sub (lv2 := [(0, .ref (mg_ad X 0)), (1, .int x1), (2, .int x2), (3, .int x3), (4, .int x4)]) [0, 1, 2, 3, 4] rfl ?_
  have hF := hw
  refine mg_aload_n (pc := 0) C dX12_state_0 0 rfl ?_
  refine mg_iconst (pc := 1) (v := 0) C dX12_state_1 (by decide) ?_
  refine mg_puti (pc := 2) C inm_state 0 (by decide) rfl (by decide) dX12_state_2 (List.mem_of_getElem? (i := 1) rfl) rfl (tyX12_ok 0 (by decide)) (fun h1 eh1 => ?_)
  have hF := hF h1 eh1
  refine mg_aload_n (pc := 5) C dX12_state_5 0 rfl ?_
  refine mg_iload_n (pc := 6) C dX12_state_6 1 rfl ?_
  refine mg_iload_n (pc := 7) C dX12_state_7 2 rfl ?_
  refine mg_cvI (pc := 8) C (fun ad => [.int x1, .int x2]) (met_layAll x1 x2) gX12_state_X12_layAll rfl ⟨rfl, rfl⟩ nd_layAll ⟨Nat.le_of_ble_eq_true rfl, Nat.le_of_ble_eq_true rfl⟩ rfl rfl (Nat.le_of_ble_eq_true rfl) dX12_state_8 hF (fun r3 h2 hF => ?_)
  refine mg_if_eq (pc := 11) 44 C dX12_state_11 (by decide) (fun hc => ?_) (fun hc => ?_)
  · have hF := hF.1 hc
    refine mg_iconst (pc := 44) (v := (-1)) C dX12_state_44 (by decide) ?_
    exact mg_retI (pc := 45) C E dX12_state_45 hF
  · have hF := hF.2 hc
    refine mg_iload_n (pc := 14) C dX12_state_14 3 rfl ?_
    refine mg_iconst (pc := 15) (v := 0) C dX12_state_15 (by decide) ?_
    refine mg_aload_n (pc := 16) C dX12_state_16 0 rfl ?_
    refine mg_cvI (pc := 17) C (fun ad => []) (met_deeds) gX12_state_X12_deeds rfl ⟨rfl, rfl⟩ nd_deeds ⟨Nat.le_of_ble_eq_true rfl, Nat.le_of_ble_eq_true rfl⟩ rfl rfl (Nat.le_of_ble_eq_true rfl) dX12_state_17 hF (fun r5 h4 hF => ?_)
    refine mg_csI (pc := 20) C (fun ad => [.int x3, .int 0, .int r5]) (met_in x3 0 r5) gX12_state_X12_in rfl ⟨rfl, rfl⟩ nd_in.2 ⟨Nat.le_of_ble_eq_true rfl, Nat.le_of_ble_eq_true rfl⟩ rfl rfl (Nat.le_of_ble_eq_true rfl) dX12_state_20 hF (fun r7 h6 hF => ?_)
    refine mg_if_eq (pc := 23) 44 C dX12_state_23 (by decide) (fun hc => ?_) (fun hc => ?_)
    · have hF := hF.1 hc
      refine mg_iconst (pc := 44) (v := (-1)) C dX12_state_44 (by decide) ?_
      exact mg_retI (pc := 45) C E dX12_state_45 hF
    · have hF := hF.2 hc
      refine mg_aload_n (pc := 26) C dX12_state_26 0 rfl ?_
      refine mg_iload_n (pc := 27) C dX12_state_27 3 rfl ?_
      refine mg_cvI (pc := 28) C (fun ad => [.int x3]) (met_play x3) gX12_state_X12_play rfl ⟨rfl, rfl⟩ nd_play ⟨Nat.le_of_ble_eq_true rfl, Nat.le_of_ble_eq_true rfl⟩ rfl rfl (Nat.le_of_ble_eq_true rfl) dX12_state_28 hF (fun r9 h8 hF => ?_)
      refine mg_iload_n (pc := 31) C dX12_state_31 3 rfl ?_
      refine mg_icmp_ne (pc := 32) 44 C dX12_state_32 (by decide) (fun hc => ?_) (fun hc => ?_)
      · have hF := hF.1 hc
        refine mg_iconst (pc := 44) (v := (-1)) C dX12_state_44 (by decide) ?_
        exact mg_retI (pc := 45) C E dX12_state_45 hF
      · have hF := hF.2 hc
        refine mg_aload_n (pc := 35) C dX12_state_35 0 rfl ?_
        refine mg_iload (pc := 36) C dX12_state_36 4 rfl ?_
        refine mg_cvI (pc := 38) C (fun ad => [.int x4]) (met_ofState x4) gX12_state_X12_ofState rfl ⟨rfl, rfl⟩ nd_ofState ⟨Nat.le_of_ble_eq_true rfl, Nat.le_of_ble_eq_true rfl⟩ rfl rfl (Nat.le_of_ble_eq_true rfl) dX12_state_38 hF (fun r11 h10 hF => ?_)
        refine mg_goto (pc := 41) 45 C dX12_state_41 (by decide) ?_
        exact mg_retI (pc := 45) C E dX12_state_45 hF
def rm_next : Room := { frames := 1, cells := 0, slots := 0, locals := 21 }
theorem nd_next : yX12_next.cls = RX12 ∧ yX12_next.cls ≠ "java/lang/invoke/MethodHandle" ∧ yX12_next.cls ≠ "java/lang/invoke/VarHandle" ∧ (parseMethodDescriptor yX12_next.desc).map (fun d => d.parameters.length) = some 2 := by decide +kernel
theorem inm_next : ∀ w ∈ wsX120, w ∈ wsX12_next := fun _ h9 => List.mem_cons_of_mem _ (List.mem_append_right _ h9)
set_option maxHeartbeats 4000000 in
set_option maxRecDepth 100000 in
theorem met_next (x1 : Int32) (x2 : Int32) : mg_MI yX12_next wsX12_next rm_next (fun ad => [.ref (ad 0), .int x1, .int x2]) (fun Q h => wp_next Q x1 x2 h) := by
  refine mg_startI (cc := cX12_next) (maxL := 7) (by decide) rfl rfl (fun ad => Nat.le_of_ble_eq_true rfl) (fun X Q h C hnL E hw => ?_)
  unfold wp_next at hw
  refine mg_sub (lv2 := [(0, .ref (mg_ad X 0)), (1, .int x1), (2, .int x2)]) [0, 1, 2] rfl ?_
  refine mg_use (hw (fun (y3 : Int32) (y4 : Int32) (y5 : Int32) (h : mg_H) => mg_W X 10 [(0, .ref (mg_ad X 0)), (1, .int x1), (2, .int x2), (3, .int y3), (4, .int y4), (5, .int y5)] [] h) (fun (y3 : Int32) (y4 : Int32) (y5 : Int32) (h : mg_H) => mg_W X 106 [(0, .ref (mg_ad X 0)), (3, .int y3), (4, .int y4), (5, .int y5)] [] h) (fun (y3 : Int32) (y4 : Int32) (y5 : Int32) (s0 : Int32) (h : mg_H) => mg_W X 51 [(0, .ref (mg_ad X 0)), (1, .int x1), (2, .int x2), (3, .int y3), (4, .int y4), (5, .int y5)] [.int s0] h) (fun (y3 : Int32) (y4 : Int32) (y5 : Int32) (y6 : Int32) (h : mg_H) => mg_W X 69 [(0, .ref (mg_ad X 0)), (1, .int x1), (2, .int x2), (3, .int y3), (4, .int y4), (5, .int y5), (6, .int y6)] [] h) (fun (y4 : Int32) (y5 : Int32) (y6 : Int32) (s0 : Int32) (h : mg_H) => mg_W X 70 [(0, .ref (mg_ad X 0)), (1, .int x1), (2, .int x2), (4, .int y4), (5, .int y5), (6, .int y6)] [.int s0] h) ?_ ?_ ?_ ?_ ?_) (fun hF => ?_)
  · intro y3 y4 y5 h hF
    refine mg_iload (pc := 10) C dX12_next_10 5 rfl ?_
    refine mg_iconst (pc := 12) (v := 4) C dX12_next_12 (by decide) ?_
    refine mg_icmp_ge (pc := 13) 89 C dX12_next_13 (by decide) (fun hc => ?_) (fun hc => ?_)
    · have hF := hF.1 hc
      refine mg_iload_n (pc := 89) C dX12_next_89 3 rfl ?_
      refine mg_ldcw (pc := 90) (v := 1000000) C dX12_next_90 (List.mem_of_getElem? (i := 1) rfl) ?_
      refine mg_icmp_ne (pc := 93) 98 C dX12_next_93 (by decide) (fun hc => ?_) (fun hc => ?_)
      · have hF := hF.1 hc
        refine mg_aload_n (pc := 98) C dX12_next_98 0 rfl ?_
        refine mg_iconst (pc := 99) (v := 0) C dX12_next_99 (by decide) ?_
        refine mg_puti (pc := 100) C inm_next 39 (by decide) rfl (by decide) dX12_next_100 (List.mem_of_getElem? (i := 3) rfl) rfl (tyX12_ok 39 (by decide)) (fun h1 eh1 => ?_)
        have hF := hF h1 eh1
        refine mg_iconst (pc := 103) (v := 0) C dX12_next_103 (by decide) ?_
        refine mg_istore (pc := 104) (lv2 := [(5, .int 0), (0, .ref (mg_ad X 0)), (1, .int x1), (2, .int x2), (3, .int y3), (4, .int y4)]) C dX12_next_104 7 hnL (by decide) rfl ?_
        refine mg_sub (lv2 := [(0, .ref (mg_ad X 0)), (3, .int y3), (4, .int y4), (5, .int 0)]) [1, 4, 5, 0] rfl ?_
        exact hF
      · have hF := hF.2 hc
        refine mg_iconst (pc := 96) (v := 0) C dX12_next_96 (by decide) ?_
        exact mg_retI (pc := 97) C E dX12_next_97 hF
    · have hF := hF.2 hc
      refine mg_iload_n (pc := 16) C dX12_next_16 1 rfl ?_
      refine mg_iconst (pc := 17) (v := 3) C dX12_next_17 (by decide) ?_
      refine mg_iload (pc := 18) C dX12_next_18 5 rfl ?_
      refine mg_imul (pc := 20) C dX12_next_20 ?_
      refine mg_ishr (pc := 21) C dX12_next_21 ?_
      refine mg_bipush (pc := 22) (v := 7) C dX12_next_22 (by decide) ?_
      refine mg_iand (pc := 24) C dX12_next_24 ?_
      refine mg_topi (pc := 25) (fun z2 ez2 => ?_)
      have hF := hF z2 ez2
      refine mg_istore (pc := 25) (lv2 := [(6, .int z2), (0, .ref (mg_ad X 0)), (1, .int x1), (2, .int x2), (3, .int y3), (4, .int y4), (5, .int y5)]) C dX12_next_25 7 hnL (by decide) rfl ?_
      refine mg_iload_n (pc := 27) C dX12_next_27 3 rfl ?_
      refine mg_iload (pc := 28) C dX12_next_28 6 rfl ?_
      refine mg_csI (pc := 30) C (fun ad => [.int x2, .int y5]) (met_has x2 y5) gX12_next_X12_has rfl ⟨rfl, rfl⟩ nd_has.2 ⟨Nat.le_of_ble_eq_true rfl, Nat.le_of_ble_eq_true rfl⟩ rfl rfl (Nat.le_of_ble_eq_true rfl) dX12_next_30 hF (fun r4 h3 hF => ?_)
      refine mg_if_eq (pc := 33) 49 C dX12_next_33 (by decide) (fun hc => ?_) (fun hc => ?_)
      · have hF := hF.1 hc
        refine mg_iload (pc := 49) C dX12_next_49 0 rfl ?_
        refine mg_sub (lv2 := [(0, .ref (mg_ad X 0)), (1, .int x1), (2, .int x2), (3, .int y3), (4, .int y4), (5, .int y5)]) [1, 2, 3, 4, 5, 6] rfl ?_
        exact hF
      · have hF := hF.2 hc
        refine mg_aload_n (pc := 36) C dX12_next_36 1 rfl ?_
        refine mg_getr (pc := 37) C inm_next 27 (by decide) (by decide) dX12_next_37 (List.mem_of_getElem? (i := 2) rfl) ?_
        refine mg_iload (pc := 40) C dX12_next_40 6 rfl ?_
        obtain ⟨hi, hF⟩ := hF
        refine mg_iald (pc := 42) C (by decide) rfl hi dX12_next_42 ?_
        refine mg_iload (pc := 43) C dX12_next_43 0 rfl ?_
        refine mg_isub (pc := 45) C dX12_next_45 ?_
        refine mg_goto (pc := 46) 51 C dX12_next_46 (by decide) ?_
        refine mg_sub (lv2 := [(0, .ref (mg_ad X 0)), (1, .int x1), (2, .int x2), (3, .int y3), (4, .int y4), (5, .int y5)]) [1, 2, 3, 4, 5, 6] rfl ?_
        exact hF
  · intro y3 y4 y5 h hF
    refine mg_iload (pc := 106) C dX12_next_106 3 rfl ?_
    refine mg_iconst (pc := 108) (v := 4) C dX12_next_108 (by decide) ?_
    refine mg_icmp_ge (pc := 109) 152 C dX12_next_109 (by decide) (fun hc => ?_) (fun hc => ?_)
    · have hF := hF.1 hc
      refine mg_iload_n (pc := 152) C dX12_next_152 1 rfl ?_
      exact mg_retI (pc := 153) C E dX12_next_153 hF
    · have hF := hF.2 hc
      refine mg_iload (pc := 112) C dX12_next_112 2 rfl ?_
      refine mg_iconst (pc := 114) (v := 3) C dX12_next_114 (by decide) ?_
      refine mg_iload (pc := 115) C dX12_next_115 3 rfl ?_
      refine mg_imul (pc := 117) C dX12_next_117 ?_
      refine mg_ishr (pc := 118) C dX12_next_118 ?_
      refine mg_bipush (pc := 119) (v := 7) C dX12_next_119 (by decide) ?_
      refine mg_iand (pc := 121) C dX12_next_121 ?_
      refine mg_topi (pc := 122) (fun z5 ez5 => ?_)
      have hF := hF z5 ez5
      refine mg_istore (pc := 122) (lv2 := [(6, .int z5), (0, .ref (mg_ad X 0)), (3, .int y3), (4, .int y4), (5, .int y5)]) C dX12_next_122 7 hnL (by decide) rfl ?_
      refine mg_aload_n (pc := 124) C dX12_next_124 1 rfl ?_
      refine mg_dup (pc := 125) C dX12_next_125 rfl ?_
      refine mg_geti (pc := 126) C inm_next 39 (by decide) rfl (by decide) dX12_next_126 (List.mem_of_getElem? (i := 3) rfl) ?_
      refine mg_iconst (pc := 129) (v := 0) C dX12_next_129 (by decide) ?_
      refine mg_iload (pc := 130) C dX12_next_130 0 rfl ?_
      refine mg_iload_n (pc := 132) C dX12_next_132 2 rfl ?_
      refine mg_isub (pc := 133) C dX12_next_133 ?_
      refine mg_csI (pc := 134) C (fun ad => [.int 0, .int (z5 - y3)]) (met_greater 0 (z5 - y3)) gX12_next_X12_greater rfl ⟨rfl, rfl⟩ nd_greater.2 ⟨Nat.le_of_ble_eq_true rfl, Nat.le_of_ble_eq_true rfl⟩ rfl rfl (Nat.le_of_ble_eq_true rfl) dX12_next_134 hF (fun r7 h6 hF => ?_)
      refine mg_iconst (pc := 137) (v := 3) C dX12_next_137 (by decide) ?_
      refine mg_iload (pc := 138) C dX12_next_138 4 rfl ?_
      refine mg_imul (pc := 140) C dX12_next_140 ?_
      refine mg_ishl (pc := 141) C dX12_next_141 ?_
      refine mg_ior (pc := 142) C dX12_next_142 ?_
      refine mg_puti (pc := 143) C inm_next 39 (by decide) rfl (by decide) dX12_next_143 (List.mem_of_getElem? (i := 3) rfl) rfl (tyX12_ok 39 (by decide)) (fun h8 eh8 => ?_)
      have hF := hF h8 eh8
      obtain ⟨z9, ez9⟩ : ∃ y : Int32, y = y5 + 1 := ⟨_, rfl⟩
      have hF := hF z9 ez9
      refine mg_iinc (pc := 146) (v := z9) (lv2 := [(5, .int z9), (6, .int z5), (0, .ref (mg_ad X 0)), (3, .int y3), (4, .int y4)]) C dX12_next_146 4 rfl (by rw [ez9]; rfl) 7 hnL (by decide) rfl ?_
      refine mg_goto (pc := 149) 106 C dX12_next_149 (by decide) ?_
      refine mg_sub (lv2 := [(0, .ref (mg_ad X 0)), (3, .int y3), (4, .int y4), (5, .int z9)]) [2, 3, 4, 0] rfl ?_
      exact hF
  · intro y3 y4 y5 s0 h hF
    refine mg_istore (pc := 51) (lv2 := [(6, .int s0), (0, .ref (mg_ad X 0)), (1, .int x1), (2, .int x2), (3, .int y3), (4, .int y4), (5, .int y5)]) C dX12_next_51 7 hnL (by decide) rfl ?_
    refine mg_iload (pc := 53) C dX12_next_53 0 rfl ?_
    refine mg_if_le (pc := 55) 69 C dX12_next_55 (by decide) (fun hc => ?_) (fun hc => ?_)
    · have hF := hF.1 hc
      refine mg_sub (lv2 := [(0, .ref (mg_ad X 0)), (1, .int x1), (2, .int x2), (3, .int y3), (4, .int y4), (5, .int y5), (6, .int s0)]) [1, 2, 3, 4, 5, 6, 0] rfl ?_
      exact hF
    · have hF := hF.2 hc
      refine mg_iload (pc := 58) C dX12_next_58 0 rfl ?_
      refine mg_iload_n (pc := 60) C dX12_next_60 4 rfl ?_
      refine mg_icmp_ge (pc := 61) 69 C dX12_next_61 (by decide) (fun hc => ?_) (fun hc => ?_)
      · have hF := hF.1 hc
        refine mg_sub (lv2 := [(0, .ref (mg_ad X 0)), (1, .int x1), (2, .int x2), (3, .int y3), (4, .int y4), (5, .int y5), (6, .int s0)]) [1, 2, 3, 4, 5, 6, 0] rfl ?_
        exact hF
      · have hF := hF.2 hc
        refine mg_iload (pc := 64) C dX12_next_64 0 rfl ?_
        refine mg_goto (pc := 66) 70 C dX12_next_66 (by decide) ?_
        refine mg_sub (lv2 := [(0, .ref (mg_ad X 0)), (1, .int x1), (2, .int x2), (4, .int y4), (5, .int y5), (6, .int s0)]) [1, 2, 3, 5, 6, 0] rfl ?_
        exact hF
  · intro y3 y4 y5 y6 h hF
    refine mg_iload_n (pc := 69) C dX12_next_69 3 rfl ?_
    refine mg_sub (lv2 := [(0, .ref (mg_ad X 0)), (1, .int x1), (2, .int x2), (4, .int y4), (5, .int y5), (6, .int y6)]) [0, 1, 2, 4, 5, 6] rfl ?_
    exact hF
  · intro y4 y5 y6 s0 h hF
    refine mg_istore_n (pc := 70) (lv2 := [(3, .int s0), (0, .ref (mg_ad X 0)), (1, .int x1), (2, .int x2), (4, .int y4), (5, .int y5), (6, .int y6)]) C dX12_next_70 7 hnL (by decide) rfl ?_
    refine mg_iload (pc := 71) C dX12_next_71 4 rfl ?_
    refine mg_iload (pc := 73) C dX12_next_73 6 rfl ?_
    refine mg_iconst (pc := 75) (v := 3) C dX12_next_75 (by decide) ?_
    refine mg_iload (pc := 76) C dX12_next_76 5 rfl ?_
    refine mg_imul (pc := 78) C dX12_next_78 ?_
    refine mg_ishl (pc := 79) C dX12_next_79 ?_
    refine mg_ior (pc := 80) C dX12_next_80 ?_
    refine mg_topi (pc := 81) (fun z10 ez10 => ?_)
    have hF := hF z10 ez10
    refine mg_istore (pc := 81) (lv2 := [(4, .int z10), (3, .int s0), (0, .ref (mg_ad X 0)), (1, .int x1), (2, .int x2), (5, .int y5), (6, .int y6)]) C dX12_next_81 7 hnL (by decide) rfl ?_
    obtain ⟨z11, ez11⟩ : ∃ y : Int32, y = y5 + 1 := ⟨_, rfl⟩
    have hF := hF z11 ez11
    refine mg_iinc (pc := 83) (v := z11) (lv2 := [(5, .int z11), (4, .int z10), (3, .int s0), (0, .ref (mg_ad X 0)), (1, .int x1), (2, .int x2), (6, .int y6)]) C dX12_next_83 5 rfl (by rw [ez11]; rfl) 7 hnL (by decide) rfl ?_
    refine mg_goto (pc := 86) 10 C dX12_next_86 (by decide) ?_
    refine mg_sub (lv2 := [(0, .ref (mg_ad X 0)), (1, .int x1), (2, .int x2), (3, .int s0), (4, .int z10), (5, .int z11)]) [3, 4, 5, 2, 1, 0] rfl ?_
    exact hF
  · skip
    refine mg_ldcw (pc := 0) (v := 1000000) C dX12_next_0 (List.mem_of_getElem? (i := 1) rfl) ?_
    refine mg_istore_n (pc := 3) (lv2 := [(3, .int 1000000), (0, .ref (mg_ad X 0)), (1, .int x1), (2, .int x2)]) C dX12_next_3 7 hnL (by decide) rfl ?_
    refine mg_iconst (pc := 4) (v := 0) C dX12_next_4 (by decide) ?_
    refine mg_istore (pc := 5) (lv2 := [(4, .int 0), (3, .int 1000000), (0, .ref (mg_ad X 0)), (1, .int x1), (2, .int x2)]) C dX12_next_5 7 hnL (by decide) rfl ?_
    refine mg_iconst (pc := 7) (v := 0) C dX12_next_7 (by decide) ?_
    refine mg_istore (pc := 8) (lv2 := [(5, .int 0), (4, .int 0), (3, .int 1000000), (0, .ref (mg_ad X 0)), (1, .int x1), (2, .int x2)]) C dX12_next_8 7 hnL (by decide) rfl ?_
    refine mg_sub (lv2 := [(0, .ref (mg_ad X 0)), (1, .int x1), (2, .int x2), (3, .int 1000000), (4, .int 0), (5, .int 0)]) [3, 4, 5, 2, 1, 0] rfl ?_
    exact hF
def rm_costOf : Room := { frames := 1, cells := 0, slots := 0, locals := 21 }
theorem nd_costOf : yX12_costOf.cls = RX12 ∧ yX12_costOf.cls ≠ "java/lang/invoke/MethodHandle" ∧ yX12_costOf.cls ≠ "java/lang/invoke/VarHandle" ∧ (parseMethodDescriptor yX12_costOf.desc).map (fun d => d.parameters.length) = some 2 := by decide +kernel
set_option maxHeartbeats 4000000 in
set_option maxRecDepth 100000 in
theorem met_costOf (x1 : Int32) (x2 : Int32) : mg_MI yX12_costOf wsX12_costOf rm_costOf (fun ad => [.ref (ad 0), .int x1, .int x2]) (fun Q h => wp_costOf Q x1 x2 h) := by
  refine mg_startI (cc := cX12_costOf) (maxL := 5) (by decide) rfl rfl (fun ad => Nat.le_of_ble_eq_true rfl) (fun X Q h C hnL E hw => ?_)
  unfold wp_costOf at hw
  refine mg_sub (lv2 := [(0, .ref (mg_ad X 0)), (1, .int x1), (2, .int x2)]) [0, 1, 2] rfl ?_
  refine mg_use (hw (fun (y3 : Int32) (y4 : Int32) (h : mg_H) => mg_W X 12 [(0, .ref (mg_ad X 0)), (1, .int x1), (2, .int x2), (3, .int y3), (4, .int y4)] [] h) (fun (y4 : Int32) (s0 : Int32) (s1 : Int32) (h : mg_H) => mg_W X 49 [(0, .ref (mg_ad X 0)), (1, .int x1), (2, .int x2), (4, .int y4)] [.int s0, .int s1] h) ?_ ?_) (fun hF => ?_)
  · intro y3 y4 h hF
    refine mg_iload (pc := 12) C dX12_costOf_12 4 rfl ?_
    refine mg_iconst (pc := 14) (v := 4) C dX12_costOf_14 (by decide) ?_
    refine mg_icmp_ge (pc := 15) 57 C dX12_costOf_15 (by decide) (fun hc => ?_) (fun hc => ?_)
    · have hF := hF.1 hc
      refine mg_iload_n (pc := 57) C dX12_costOf_57 3 rfl ?_
      exact mg_retI (pc := 58) C E dX12_costOf_58 hF
    · have hF := hF.2 hc
      refine mg_iload_n (pc := 18) C dX12_costOf_18 3 rfl ?_
      refine mg_iload_n (pc := 19) C dX12_costOf_19 1 rfl ?_
      refine mg_iload (pc := 20) C dX12_costOf_20 4 rfl ?_
      refine mg_csI (pc := 22) C (fun ad => [.int x1, .int y4]) (met_has x1 y4) gX12_costOf_X12_has rfl ⟨rfl, rfl⟩ nd_has.2 ⟨Nat.le_of_ble_eq_true rfl, Nat.le_of_ble_eq_true rfl⟩ rfl rfl (Nat.le_of_ble_eq_true rfl) dX12_costOf_22 hF (fun r2 h1 hF => ?_)
      refine mg_if_eq (pc := 25) 48 C dX12_costOf_25 (by decide) (fun hc => ?_) (fun hc => ?_)
      · have hF := hF.1 hc
        refine mg_iconst (pc := 48) (v := 0) C dX12_costOf_48 (by decide) ?_
        refine mg_sub (lv2 := [(0, .ref (mg_ad X 0)), (1, .int x1), (2, .int x2), (4, .int y4)]) [0, 1, 2, 4] rfl ?_
        exact hF
      · have hF := hF.2 hc
        refine mg_iload_n (pc := 28) C dX12_costOf_28 2 rfl ?_
        refine mg_if_ne (pc := 29) 36 C dX12_costOf_29 (by decide) (fun hc => ?_) (fun hc => ?_)
        · have hF := hF.1 hc
          refine mg_aload_n (pc := 36) C dX12_costOf_36 0 rfl ?_
          refine mg_bipush (pc := 37) (v := 9) C dX12_costOf_37 (by decide) ?_
          refine mg_iload (pc := 39) C dX12_costOf_39 4 rfl ?_
          refine mg_iadd (pc := 41) C dX12_costOf_41 ?_
          refine mg_cvI (pc := 42) C (fun ad => [.int (9 + y4)]) (met_of (9 + y4)) gX12_costOf_X12_of rfl ⟨rfl, rfl⟩ nd_of ⟨Nat.le_of_ble_eq_true rfl, Nat.le_of_ble_eq_true rfl⟩ rfl rfl (Nat.le_of_ble_eq_true rfl) dX12_costOf_42 hF (fun r4 h3 hF => ?_)
          refine mg_goto (pc := 45) 49 C dX12_costOf_45 (by decide) ?_
          refine mg_sub (lv2 := [(0, .ref (mg_ad X 0)), (1, .int x1), (2, .int x2), (4, .int y4)]) [0, 1, 2, 4] rfl ?_
          exact hF
        · have hF := hF.2 hc
          refine mg_iconst (pc := 32) (v := 1) C dX12_costOf_32 (by decide) ?_
          refine mg_goto (pc := 33) 49 C dX12_costOf_33 (by decide) ?_
          refine mg_sub (lv2 := [(0, .ref (mg_ad X 0)), (1, .int x1), (2, .int x2), (4, .int y4)]) [0, 1, 2, 4] rfl ?_
          exact hF
  · intro y4 s0 s1 h hF
    refine mg_iadd (pc := 49) C dX12_costOf_49 ?_
    refine mg_topi (pc := 50) (fun z5 ez5 => ?_)
    have hF := hF z5 ez5
    refine mg_istore_n (pc := 50) (lv2 := [(3, .int z5), (0, .ref (mg_ad X 0)), (1, .int x1), (2, .int x2), (4, .int y4)]) C dX12_costOf_50 5 hnL (by decide) rfl ?_
    obtain ⟨z6, ez6⟩ : ∃ y : Int32, y = y4 + 1 := ⟨_, rfl⟩
    have hF := hF z6 ez6
    refine mg_iinc (pc := 51) (v := z6) (lv2 := [(4, .int z6), (3, .int z5), (0, .ref (mg_ad X 0)), (1, .int x1), (2, .int x2)]) C dX12_costOf_51 4 rfl (by rw [ez6]; rfl) 5 hnL (by decide) rfl ?_
    refine mg_goto (pc := 54) 12 C dX12_costOf_54 (by decide) ?_
    refine mg_sub (lv2 := [(0, .ref (mg_ad X 0)), (1, .int x1), (2, .int x2), (3, .int z5), (4, .int z6)]) [2, 3, 4, 1, 0] rfl ?_
    exact hF
  · skip
    refine mg_iload_n (pc := 0) C dX12_costOf_0 2 rfl ?_
    refine mg_iconst (pc := 1) (v := 1) C dX12_costOf_1 (by decide) ?_
    refine mg_icmp_ne (pc := 2) 7 C dX12_costOf_2 (by decide) (fun hc => ?_) (fun hc => ?_)
    · have hF := hF.1 hc
      refine mg_iconst (pc := 7) (v := 0) C dX12_costOf_7 (by decide) ?_
      refine mg_istore_n (pc := 8) (lv2 := [(3, .int 0), (0, .ref (mg_ad X 0)), (1, .int x1), (2, .int x2)]) C dX12_costOf_8 5 hnL (by decide) rfl ?_
      refine mg_iconst (pc := 9) (v := 0) C dX12_costOf_9 (by decide) ?_
      refine mg_istore (pc := 10) (lv2 := [(4, .int 0), (3, .int 0), (0, .ref (mg_ad X 0)), (1, .int x1), (2, .int x2)]) C dX12_costOf_10 5 hnL (by decide) rfl ?_
      refine mg_sub (lv2 := [(0, .ref (mg_ad X 0)), (1, .int x1), (2, .int x2), (3, .int 0), (4, .int 0)]) [2, 3, 4, 1, 0] rfl ?_
      exact hF
    · have hF := hF.2 hc
      refine mg_iconst (pc := 5) (v := 1) C dX12_costOf_5 (by decide) ?_
      exact mg_retI (pc := 6) C E dX12_costOf_6 hF
def rm_clear : Room := { frames := 0, cells := 0, slots := 0, locals := 0 }
theorem nd_clear : yX12_clear.cls = RX12 ∧ yX12_clear.cls ≠ "java/lang/invoke/MethodHandle" ∧ yX12_clear.cls ≠ "java/lang/invoke/VarHandle" ∧ (parseMethodDescriptor yX12_clear.desc).map (fun d => d.parameters.length) = some 2 := by decide +kernel
theorem inm_clear : ∀ w ∈ wsX120, w ∈ wsX12_clear := fun _ h9 => List.mem_cons_of_mem _ (List.mem_append_right _ h9)
set_option maxHeartbeats 4000000 in
set_option maxRecDepth 100000 in
theorem met_clear (x1 : Int32) (x2 : Int32) : mg_MV yX12_clear wsX12_clear rm_clear (fun ad => [.ref (ad 0), .int x1, .int x2]) (fun Q h => wp_clear Q x1 x2 h) := by
  refine mg_startV (cc := cX12_clear) (maxL := 4) (by decide) rfl rfl (fun ad => Nat.le_of_ble_eq_true rfl) (fun X Q h C hnL E hw => ?_)
  unfold wp_clear at hw
  refine mg_sub (lv2 := [(0, .ref (mg_ad X 0)), (1, .int x1), (2, .int x2)]) [0, 1, 2] rfl ?_
  refine mg_use (hw (fun (y3 : Int32) (h : mg_H) => mg_W X 6 [(0, .ref (mg_ad X 0)), (2, .int x2), (3, .int y3)] [] h) ?_) (fun hF => ?_)
  · intro y3 h hF
    refine mg_iload_n (pc := 6) C dX12_clear_6 2 rfl ?_
    refine mg_sipush (pc := 7) (v := 4096) C dX12_clear_7 (by decide) ?_
    refine mg_iload_n (pc := 10) C dX12_clear_10 1 rfl ?_
    refine mg_iconst (pc := 11) (v := 1) C dX12_clear_11 (by decide) ?_
    refine mg_iadd (pc := 12) C dX12_clear_12 ?_
    refine mg_imul (pc := 13) C dX12_clear_13 ?_
    refine mg_icmp_ge (pc := 14) 30 C dX12_clear_14 (by decide) (fun hc => ?_) (fun hc => ?_)
    · have hF := hF.1 hc
      exact mg_retV (pc := 30) C E dX12_clear_30 hF
    · have hF := hF.2 hc
      refine mg_aload_n (pc := 17) C dX12_clear_17 0 rfl ?_
      refine mg_getr (pc := 18) C inm_clear 40 (by decide) (by decide) dX12_clear_18 (List.mem_of_getElem? (i := 1) rfl) ?_
      refine mg_iload_n (pc := 21) C dX12_clear_21 2 rfl ?_
      refine mg_iconst (pc := 22) (v := (-1)) C dX12_clear_22 (by decide) ?_
      obtain ⟨hi, hF⟩ := hF
      refine mg_iast (pc := 23) C (by decide) rfl hi dX12_clear_23 (fun h2 eh2 => ?_)
      have hF := hF h2 eh2
      obtain ⟨z3, ez3⟩ : ∃ y : Int32, y = y3 + 1 := ⟨_, rfl⟩
      have hF := hF z3 ez3
      refine mg_iinc (pc := 24) (v := z3) (lv2 := [(3, .int z3), (0, .ref (mg_ad X 0)), (2, .int x2)]) C dX12_clear_24 2 rfl (by rw [ez3]; rfl) 4 hnL (by decide) rfl ?_
      refine mg_goto (pc := 27) 6 C dX12_clear_27 (by decide) ?_
      refine mg_sub (lv2 := [(0, .ref (mg_ad X 0)), (2, .int x2), (3, .int z3)]) [1, 2, 0] rfl ?_
      exact hF
  · skip
    refine mg_sipush (pc := 0) (v := 4096) C dX12_clear_0 (by decide) ?_
    refine mg_iload_n (pc := 3) C dX12_clear_3 1 rfl ?_
    refine mg_imul (pc := 4) C dX12_clear_4 ?_
    refine mg_topi (pc := 5) (fun z1 ez1 => ?_)
    have hF := hF z1 ez1
    refine mg_istore_n (pc := 5) (lv2 := [(3, .int z1), (0, .ref (mg_ad X 0)), (1, .int x1), (2, .int x2)]) C dX12_clear_5 4 hnL (by decide) rfl ?_
    refine mg_sub (lv2 := [(0, .ref (mg_ad X 0)), (2, .int x2), (3, .int z1)]) [1, 3, 0] rfl ?_
    exact hF
def rm_offer : Room := { frames := 0, cells := 0, slots := 0, locals := 0 }
theorem nd_offer : yX12_offer.cls = RX12 ∧ yX12_offer.cls ≠ "java/lang/invoke/MethodHandle" ∧ yX12_offer.cls ≠ "java/lang/invoke/VarHandle" ∧ (parseMethodDescriptor yX12_offer.desc).map (fun d => d.parameters.length) = some 2 := by decide +kernel
theorem inm_offer : ∀ w ∈ wsX120, w ∈ wsX12_offer := fun _ h9 => List.mem_cons_of_mem _ (List.mem_append_right _ h9)
set_option maxHeartbeats 4000000 in
set_option maxRecDepth 100000 in
theorem met_offer (x1 : Int32) (x2 : Int32) : mg_MV yX12_offer wsX12_offer rm_offer (fun ad => [.ref (ad 0), .int x1, .int x2]) (fun Q h => wp_offer Q x1 x2 h) := by
  refine mg_startV (cc := cX12_offer) (maxL := 3) (by decide) rfl rfl (fun ad => Nat.le_of_ble_eq_true rfl) (fun X Q h C hnL E hw => ?_)
  unfold wp_offer at hw
  refine mg_sub (lv2 := [(0, .ref (mg_ad X 0)), (1, .int x1), (2, .int x2)]) [0, 1, 2] rfl ?_
  refine mg_use (hw (fun (s0 : Int32) (h : mg_H) => mg_W X 25 [(2, .int x2)] [.int s0, .ref (mg_ad X 40)] h) (fun (s0 : Int32) (s1 : Int32) (h : mg_H) => mg_W X 35 [] [.int s0, .int s1, .ref (mg_ad X 40)] h) ?_ ?_) (fun hF => ?_)
  · intro s0 h hF
    refine mg_iload_n (pc := 25) C dX12_offer_25 0 rfl ?_
    refine mg_goto (pc := 26) 35 C dX12_offer_26 (by decide) ?_
    refine mg_sub (lv2 := []) [] rfl ?_
    exact hF
  · intro s0 s1 h hF
    obtain ⟨hi, hF⟩ := hF
    refine mg_iast (pc := 35) C (by decide) rfl hi dX12_offer_35 (fun h1 eh1 => ?_)
    have hF := hF h1 eh1
    exact mg_retV (pc := 36) C E dX12_offer_36 hF
  · skip
    refine mg_aload_n (pc := 0) C dX12_offer_0 0 rfl ?_
    refine mg_getr (pc := 1) C inm_offer 40 (by decide) (by decide) dX12_offer_1 (List.mem_of_getElem? (i := 1) rfl) ?_
    refine mg_iload_n (pc := 4) C dX12_offer_4 1 rfl ?_
    refine mg_aload_n (pc := 5) C dX12_offer_5 0 rfl ?_
    refine mg_getr (pc := 6) C inm_offer 40 (by decide) (by decide) dX12_offer_6 (List.mem_of_getElem? (i := 1) rfl) ?_
    refine mg_iload_n (pc := 9) C dX12_offer_9 1 rfl ?_
    obtain ⟨hi, hF⟩ := hF
    refine mg_iald (pc := 10) C (by decide) rfl hi dX12_offer_10 ?_
    refine mg_iconst (pc := 11) (v := (-1)) C dX12_offer_11 (by decide) ?_
    refine mg_icmp_eq (pc := 12) 25 C dX12_offer_12 (by decide) (fun hc => ?_) (fun hc => ?_)
    · have hF := hF.1 hc
      refine mg_sub (lv2 := [(2, .int x2)]) [2] rfl ?_
      exact hF
    · have hF := hF.2 hc
      refine mg_iload_n (pc := 15) C dX12_offer_15 2 rfl ?_
      refine mg_aload_n (pc := 16) C dX12_offer_16 0 rfl ?_
      refine mg_getr (pc := 17) C inm_offer 40 (by decide) (by decide) dX12_offer_17 (List.mem_of_getElem? (i := 1) rfl) ?_
      refine mg_iload_n (pc := 20) C dX12_offer_20 1 rfl ?_
      obtain ⟨hi, hF⟩ := hF
      refine mg_iald (pc := 21) C (by decide) rfl hi dX12_offer_21 ?_
      refine mg_icmp_ge (pc := 22) 29 C dX12_offer_22 (by decide) (fun hc => ?_) (fun hc => ?_)
      · have hF := hF.1 hc
        refine mg_aload_n (pc := 29) C dX12_offer_29 0 rfl ?_
        refine mg_getr (pc := 30) C inm_offer 40 (by decide) (by decide) dX12_offer_30 (List.mem_of_getElem? (i := 1) rfl) ?_
        refine mg_iload_n (pc := 33) C dX12_offer_33 1 rfl ?_
        obtain ⟨hi, hF⟩ := hF
        refine mg_iald (pc := 34) C (by decide) rfl hi dX12_offer_34 ?_
        refine mg_sub (lv2 := []) [] rfl ?_
        exact hF
      · have hF := hF.2 hc
        refine mg_sub (lv2 := [(2, .int x2)]) [2] rfl ?_
        exact hF
def rm_goOn : Room := { frames := 2, cells := 0, slots := 0, locals := 47 }
theorem nd_goOn : yX12_goOn.cls = RX12 ∧ yX12_goOn.cls ≠ "java/lang/invoke/MethodHandle" ∧ yX12_goOn.cls ≠ "java/lang/invoke/VarHandle" ∧ (parseMethodDescriptor yX12_goOn.desc).map (fun d => d.parameters.length) = some 3 := by decide +kernel
theorem inm_goOn : ∀ w ∈ wsX120, w ∈ wsX12_goOn := fun _ h9 => List.mem_cons_of_mem _ (List.mem_append_right _ h9)
set_option maxHeartbeats 4000000 in
set_option maxRecDepth 100000 in
theorem met_goOn (x1 : Int32) (x2 : Int32) (x3 : Int32) : mg_MV yX12_goOn wsX12_goOn rm_goOn (fun ad => [.ref (ad 0), .int x1, .int x2, .int x3]) (fun Q h => wp_goOn Q x1 x2 x3 h) := by
  refine mg_startV (cc := cX12_goOn) (maxL := 9) (by decide) rfl rfl (fun ad => Nat.le_of_ble_eq_true rfl) (fun X Q h C hnL E hw => ?_)
  unfold wp_goOn at hw
  refine mg_sub (lv2 := [(0, .ref (mg_ad X 0)), (1, .int x1), (2, .int x2), (3, .int x3)]) [0, 1, 2, 3] rfl ?_
  refine mg_use (hw (fun (y4 : Int32) (h : mg_H) => mg_W X 3 [(0, .ref (mg_ad X 0)), (2, .int x2), (3, .int x3), (4, .int y4)] [] h) (fun (y4 : Int32) (y5 : Int32) (h : mg_H) => mg_W X 12 [(0, .ref (mg_ad X 0)), (2, .int x2), (3, .int x3), (4, .int y4), (5, .int y5)] [] h) (fun (y4 : Int32) (y5 : Int32) (y6 : Int32) (y7 : Int32) (h : mg_H) => mg_W X 39 [(0, .ref (mg_ad X 0)), (2, .int x2), (3, .int x3), (4, .int y4), (5, .int y5), (6, .int y6), (7, .int y7)] [] h) (fun (y4 : Int32) (y5 : Int32) (h : mg_H) => mg_W X 128 [(0, .ref (mg_ad X 0)), (2, .int x2), (3, .int x3), (4, .int y4), (5, .int y5)] [] h) (fun (y4 : Int32) (y5 : Int32) (y6 : Int32) (y7 : Int32) (s0 : Int32) (h : mg_H) => mg_W X 78 [(0, .ref (mg_ad X 0)), (2, .int x2), (3, .int x3), (4, .int y4), (5, .int y5), (6, .int y6), (7, .int y7)] [.int s0] h) (fun (y4 : Int32) (y5 : Int32) (y6 : Int32) (y7 : Int32) (h : mg_H) => mg_W X 122 [(0, .ref (mg_ad X 0)), (2, .int x2), (3, .int x3), (4, .int y4), (5, .int y5), (6, .int y6), (7, .int y7)] [] h) ?_ ?_ ?_ ?_ ?_ ?_) (fun hF => ?_)
  · intro y4 h hF
    refine mg_iload (pc := 3) C dX12_goOn_3 3 rfl ?_
    refine mg_iload_n (pc := 5) C dX12_goOn_5 1 rfl ?_
    refine mg_icmp_ge (pc := 6) 140 C dX12_goOn_6 (by decide) (fun hc => ?_) (fun hc => ?_)
    · have hF := hF.1 hc
      exact mg_retV (pc := 140) C E dX12_goOn_140 hF
    · have hF := hF.2 hc
      refine mg_iconst (pc := 9) (v := 0) C dX12_goOn_9 (by decide) ?_
      refine mg_istore (pc := 10) (lv2 := [(5, .int 0), (0, .ref (mg_ad X 0)), (2, .int x2), (3, .int x3), (4, .int y4)]) C dX12_goOn_10 9 hnL (by decide) rfl ?_
      refine mg_sub (lv2 := [(0, .ref (mg_ad X 0)), (2, .int x2), (3, .int x3), (4, .int y4), (5, .int 0)]) [1, 2, 3, 4, 0] rfl ?_
      exact hF
  · intro y4 y5 h hF
    refine mg_iload (pc := 12) C dX12_goOn_12 4 rfl ?_
    refine mg_sipush (pc := 14) (v := 4096) C dX12_goOn_14 (by decide) ?_
    refine mg_icmp_ge (pc := 17) 134 C dX12_goOn_17 (by decide) (fun hc => ?_) (fun hc => ?_)
    · have hF := hF.1 hc
      obtain ⟨z1, ez1⟩ : ∃ y : Int32, y = y4 + 1 := ⟨_, rfl⟩
      have hF := hF z1 ez1
      refine mg_iinc (pc := 134) (v := z1) (lv2 := [(4, .int z1), (0, .ref (mg_ad X 0)), (2, .int x2), (3, .int x3), (5, .int y5)]) C dX12_goOn_134 3 rfl (by rw [ez1]; rfl) 9 hnL (by decide) rfl ?_
      refine mg_goto (pc := 137) 3 C dX12_goOn_137 (by decide) ?_
      refine mg_sub (lv2 := [(0, .ref (mg_ad X 0)), (2, .int x2), (3, .int x3), (4, .int z1)]) [1, 2, 3, 0] rfl ?_
      exact hF
    · have hF := hF.2 hc
      refine mg_aload_n (pc := 20) C dX12_goOn_20 0 rfl ?_
      refine mg_getr (pc := 21) C inm_goOn 40 (by decide) (by decide) dX12_goOn_21 (List.mem_of_getElem? (i := 1) rfl) ?_
      refine mg_sipush (pc := 24) (v := 4096) C dX12_goOn_24 (by decide) ?_
      refine mg_iload (pc := 27) C dX12_goOn_27 3 rfl ?_
      refine mg_imul (pc := 29) C dX12_goOn_29 ?_
      refine mg_iload (pc := 30) C dX12_goOn_30 4 rfl ?_
      refine mg_iadd (pc := 32) C dX12_goOn_32 ?_
      obtain ⟨hi, hF⟩ := hF
      refine mg_iald (pc := 33) C (by decide) rfl hi dX12_goOn_33 ?_
      refine mg_topi (pc := 34) (fun z2 ez2 => ?_)
      have hF := hF z2 ez2
      refine mg_istore (pc := 34) (lv2 := [(6, .int z2), (0, .ref (mg_ad X 0)), (2, .int x2), (3, .int x3), (4, .int y4), (5, .int y5)]) C dX12_goOn_34 9 hnL (by decide) rfl ?_
      refine mg_iconst (pc := 36) (v := 0) C dX12_goOn_36 (by decide) ?_
      refine mg_istore (pc := 37) (lv2 := [(7, .int 0), (6, .int z2), (0, .ref (mg_ad X 0)), (2, .int x2), (3, .int x3), (4, .int y4), (5, .int y5)]) C dX12_goOn_37 9 hnL (by decide) rfl ?_
      refine mg_sub (lv2 := [(0, .ref (mg_ad X 0)), (2, .int x2), (3, .int x3), (4, .int y4), (5, .int y5), (6, .int z2), (7, .int 0)]) [2, 3, 4, 5, 6, 1, 0] rfl ?_
      exact hF
  · intro y4 y5 y6 y7 h hF
    refine mg_iload (pc := 39) C dX12_goOn_39 6 rfl ?_
    refine mg_aload_n (pc := 41) C dX12_goOn_41 0 rfl ?_
    refine mg_geti (pc := 42) C inm_goOn 25 (by decide) rfl (by decide) dX12_goOn_42 (List.mem_of_getElem? (i := 2) rfl) ?_
    refine mg_icmp_gt (pc := 45) 128 C dX12_goOn_45 (by decide) (fun hc => ?_) (fun hc => ?_)
    · have hF := hF.1 hc
      refine mg_sub (lv2 := [(0, .ref (mg_ad X 0)), (2, .int x2), (3, .int x3), (4, .int y4), (5, .int y5)]) [0, 1, 2, 3, 4] rfl ?_
      exact hF
    · have hF := hF.2 hc
      refine mg_iload (pc := 48) C dX12_goOn_48 5 rfl ?_
      refine mg_iconst (pc := 50) (v := (-1)) C dX12_goOn_50 (by decide) ?_
      refine mg_icmp_eq (pc := 51) 128 C dX12_goOn_51 (by decide) (fun hc => ?_) (fun hc => ?_)
      · have hF := hF.1 hc
        refine mg_sub (lv2 := [(0, .ref (mg_ad X 0)), (2, .int x2), (3, .int x3), (4, .int y4), (5, .int y5)]) [0, 1, 2, 3, 4] rfl ?_
        exact hF
      · have hF := hF.2 hc
        refine mg_iload (pc := 54) C dX12_goOn_54 6 rfl ?_
        refine mg_aload_n (pc := 56) C dX12_goOn_56 0 rfl ?_
        refine mg_geti (pc := 57) C inm_goOn 25 (by decide) rfl (by decide) dX12_goOn_57 (List.mem_of_getElem? (i := 2) rfl) ?_
        refine mg_iconst (pc := 60) (v := (-1)) C dX12_goOn_60 (by decide) ?_
        refine mg_ixor (pc := 61) C dX12_goOn_61 ?_
        refine mg_iand (pc := 62) C dX12_goOn_62 ?_
        refine mg_if_ne (pc := 63) 77 C dX12_goOn_63 (by decide) (fun hc => ?_) (fun hc => ?_)
        · have hF := hF.1 hc
          refine mg_iconst (pc := 77) (v := 0) C dX12_goOn_77 (by decide) ?_
          exact hF
        · have hF := hF.2 hc
          refine mg_aload_n (pc := 66) C dX12_goOn_66 0 rfl ?_
          refine mg_iload (pc := 67) C dX12_goOn_67 4 rfl ?_
          refine mg_iload (pc := 69) C dX12_goOn_69 6 rfl ?_
          refine mg_cvI (pc := 71) C (fun ad => [.int y5, .int y7]) (met_next y5 y7) gX12_goOn_X12_next rfl ⟨rfl, rfl⟩ nd_next ⟨Nat.le_of_ble_eq_true rfl, Nat.le_of_ble_eq_true rfl⟩ rfl rfl (Nat.le_of_ble_eq_true rfl) dX12_goOn_71 hF (fun r4 h3 hF => ?_)
          refine mg_goto (pc := 74) 78 C dX12_goOn_74 (by decide) ?_
          exact hF
  · intro y4 y5 h hF
    obtain ⟨z5, ez5⟩ : ∃ y : Int32, y = y5 + 1 := ⟨_, rfl⟩
    have hF := hF z5 ez5
    refine mg_iinc (pc := 128) (v := z5) (lv2 := [(5, .int z5), (0, .ref (mg_ad X 0)), (2, .int x2), (3, .int x3), (4, .int y4)]) C dX12_goOn_128 4 rfl (by rw [ez5]; rfl) 9 hnL (by decide) rfl ?_
    refine mg_goto (pc := 131) 12 C dX12_goOn_131 (by decide) ?_
    refine mg_sub (lv2 := [(0, .ref (mg_ad X 0)), (2, .int x2), (3, .int x3), (4, .int y4), (5, .int z5)]) [1, 2, 3, 4, 0] rfl ?_
    exact hF
  · intro y4 y5 y6 y7 s0 h hF
    refine mg_istore (pc := 78) (lv2 := [(8, .int s0), (0, .ref (mg_ad X 0)), (2, .int x2), (3, .int x3), (4, .int y4), (5, .int y5), (6, .int y6), (7, .int y7)]) C dX12_goOn_78 9 hnL (by decide) rfl ?_
    refine mg_iload (pc := 80) C dX12_goOn_80 0 rfl ?_
    refine mg_if_le (pc := 82) 122 C dX12_goOn_82 (by decide) (fun hc => ?_) (fun hc => ?_)
    · have hF := hF.1 hc
      refine mg_sub (lv2 := [(0, .ref (mg_ad X 0)), (2, .int x2), (3, .int x3), (4, .int y4), (5, .int y5), (6, .int y6), (7, .int y7)]) [1, 2, 3, 4, 5, 6, 7] rfl ?_
      exact hF
    · have hF := hF.2 hc
      refine mg_iload (pc := 85) C dX12_goOn_85 4 rfl ?_
      refine mg_iload (pc := 87) C dX12_goOn_87 0 rfl ?_
      refine mg_iadd (pc := 89) C dX12_goOn_89 ?_
      refine mg_iload_n (pc := 90) C dX12_goOn_90 2 rfl ?_
      refine mg_icmp_gt (pc := 91) 122 C dX12_goOn_91 (by decide) (fun hc => ?_) (fun hc => ?_)
      · have hF := hF.1 hc
        refine mg_sub (lv2 := [(0, .ref (mg_ad X 0)), (2, .int x2), (3, .int x3), (4, .int y4), (5, .int y5), (6, .int y6), (7, .int y7)]) [1, 2, 3, 4, 5, 6, 7] rfl ?_
        exact hF
      · have hF := hF.2 hc
        refine mg_aload_n (pc := 94) C dX12_goOn_94 1 rfl ?_
        refine mg_sipush (pc := 95) (v := 4096) C dX12_goOn_95 (by decide) ?_
        refine mg_iload (pc := 98) C dX12_goOn_98 4 rfl ?_
        refine mg_iload (pc := 100) C dX12_goOn_100 0 rfl ?_
        refine mg_iadd (pc := 102) C dX12_goOn_102 ?_
        refine mg_imul (pc := 103) C dX12_goOn_103 ?_
        refine mg_aload_n (pc := 104) C dX12_goOn_104 1 rfl ?_
        refine mg_geti (pc := 105) C inm_goOn 39 (by decide) rfl (by decide) dX12_goOn_105 (List.mem_of_getElem? (i := 3) rfl) ?_
        refine mg_iadd (pc := 108) C dX12_goOn_108 ?_
        refine mg_iload (pc := 109) C dX12_goOn_109 6 rfl ?_
        refine mg_aload_n (pc := 111) C dX12_goOn_111 1 rfl ?_
        refine mg_iload (pc := 112) C dX12_goOn_112 7 rfl ?_
        refine mg_iload_n (pc := 114) C dX12_goOn_114 3 rfl ?_
        refine mg_cvI (pc := 115) C (fun ad => [.int y7, .int x3]) (met_costOf y7 x3) gX12_goOn_X12_costOf rfl ⟨rfl, rfl⟩ nd_costOf ⟨Nat.le_of_ble_eq_true rfl, Nat.le_of_ble_eq_true rfl⟩ rfl rfl (Nat.le_of_ble_eq_true rfl) dX12_goOn_115 hF (fun r7 h6 hF => ?_)
        refine mg_iadd (pc := 118) C dX12_goOn_118 ?_
        refine mg_cvV (pc := 119) C (fun ad => [.int ((4096 * (y4 + s0)) + (mg_i h 0 39)), .int (y6 + r7)]) (met_offer ((4096 * (y4 + s0)) + (mg_i h 0 39)) (y6 + r7)) gX12_goOn_X12_offer rfl ⟨rfl, rfl⟩ nd_offer ⟨Nat.le_of_ble_eq_true rfl, Nat.le_of_ble_eq_true rfl⟩ rfl rfl (Nat.le_of_ble_eq_true rfl) dX12_goOn_119 hF (fun h8 hF => ?_)
        refine mg_sub (lv2 := [(0, .ref (mg_ad X 0)), (2, .int x2), (3, .int x3), (4, .int y4), (5, .int y5), (6, .int y6), (7, .int y7)]) [1, 2, 3, 4, 5, 6, 7] rfl ?_
        exact hF
  · intro y4 y5 y6 y7 h hF
    obtain ⟨z9, ez9⟩ : ∃ y : Int32, y = y7 + 1 := ⟨_, rfl⟩
    have hF := hF z9 ez9
    refine mg_iinc (pc := 122) (v := z9) (lv2 := [(7, .int z9), (0, .ref (mg_ad X 0)), (2, .int x2), (3, .int x3), (4, .int y4), (5, .int y5), (6, .int y6)]) C dX12_goOn_122 6 rfl (by rw [ez9]; rfl) 9 hnL (by decide) rfl ?_
    refine mg_goto (pc := 125) 39 C dX12_goOn_125 (by decide) ?_
    refine mg_sub (lv2 := [(0, .ref (mg_ad X 0)), (2, .int x2), (3, .int x3), (4, .int y4), (5, .int y5), (6, .int y6), (7, .int z9)]) [1, 2, 3, 4, 5, 6, 0] rfl ?_
    exact hF
  · skip
    refine mg_iload_n (pc := 0) C dX12_goOn_0 1 rfl ?_
    refine mg_istore (pc := 1) (lv2 := [(4, .int x1), (0, .ref (mg_ad X 0)), (1, .int x1), (2, .int x2), (3, .int x3)]) C dX12_goOn_1 9 hnL (by decide) rfl ?_
    refine mg_sub (lv2 := [(0, .ref (mg_ad X 0)), (2, .int x2), (3, .int x3), (4, .int x1)]) [1, 3, 4, 0] rfl ?_
    exact hF
def rm_layOut : Room := { frames := 3, cells := 0, slots := 0, locals := 75 }
theorem nd_layOut : yX12_layOut.cls = RX12 ∧ yX12_layOut.cls ≠ "java/lang/invoke/MethodHandle" ∧ yX12_layOut.cls ≠ "java/lang/invoke/VarHandle" ∧ (parseMethodDescriptor yX12_layOut.desc).map (fun d => d.parameters.length) = some 1 := by decide +kernel
theorem inm_layOut : ∀ w ∈ wsX120, w ∈ wsX12_layOut := fun _ h9 => List.mem_cons_of_mem _ (List.mem_append_right _ h9)
set_option maxHeartbeats 4000000 in
set_option maxRecDepth 100000 in
theorem met_layOut (x1 : Int32) : mg_MV yX12_layOut wsX12_layOut rm_layOut (fun ad => [.ref (ad 0), .int x1]) (fun Q h => wp_layOut Q x1 h) := by
  refine mg_startV (cc := cX12_layOut) (maxL := 2) (by decide) rfl rfl (fun ad => Nat.le_of_ble_eq_true rfl) (fun X Q h C hnL E hw => ?_)
  unfold wp_layOut at hw
  refine mg_sub (lv2 := [(0, .ref (mg_ad X 0)), (1, .int x1)]) [0, 1] rfl ?_
  have hF := hw
  refine mg_aload_n (pc := 0) C dX12_layOut_0 0 rfl ?_
  refine mg_iconst (pc := 1) (v := 0) C dX12_layOut_1 (by decide) ?_
  refine mg_bipush (pc := 2) (v := 30) C dX12_layOut_2 (by decide) ?_
  refine mg_cvV (pc := 4) C (fun ad => [.int 0, .int 30]) (met_clear 0 30) gX12_layOut_X12_clear rfl ⟨rfl, rfl⟩ nd_clear ⟨Nat.le_of_ble_eq_true rfl, Nat.le_of_ble_eq_true rfl⟩ rfl rfl (Nat.le_of_ble_eq_true rfl) dX12_layOut_4 hF (fun h1 hF => ?_)
  refine mg_aload_n (pc := 7) C dX12_layOut_7 0 rfl ?_
  refine mg_getr (pc := 8) C inm_layOut 40 (by decide) (by decide) dX12_layOut_8 (List.mem_of_getElem? (i := 1) rfl) ?_
  refine mg_aload_n (pc := 11) C dX12_layOut_11 0 rfl ?_
  refine mg_geti (pc := 12) C inm_layOut 26 (by decide) rfl (by decide) dX12_layOut_12 (List.mem_of_getElem? (i := 2) rfl) ?_
  refine mg_iconst (pc := 15) (v := 0) C dX12_layOut_15 (by decide) ?_
  obtain ⟨hi, hF⟩ := hF
  refine mg_iast (pc := 16) C (by decide) rfl hi dX12_layOut_16 (fun h2 eh2 => ?_)
  have hF := hF h2 eh2
  refine mg_aload_n (pc := 17) C dX12_layOut_17 0 rfl ?_
  refine mg_iconst (pc := 18) (v := 0) C dX12_layOut_18 (by decide) ?_
  refine mg_bipush (pc := 19) (v := 30) C dX12_layOut_19 (by decide) ?_
  refine mg_iload_n (pc := 21) C dX12_layOut_21 1 rfl ?_
  refine mg_cvV (pc := 22) C (fun ad => [.int 0, .int 30, .int x1]) (met_goOn 0 30 x1) gX12_layOut_X12_goOn rfl ⟨rfl, rfl⟩ nd_goOn ⟨Nat.le_of_ble_eq_true rfl, Nat.le_of_ble_eq_true rfl⟩ rfl rfl (Nat.le_of_ble_eq_true rfl) dX12_layOut_22 hF (fun h3 hF => ?_)
  exact mg_retV (pc := 25) C E dX12_layOut_25 hF
def rm_leastAt : Room := { frames := 0, cells := 0, slots := 0, locals := 0 }
theorem nd_leastAt : yX12_leastAt.cls = RX12 ∧ yX12_leastAt.cls ≠ "java/lang/invoke/MethodHandle" ∧ yX12_leastAt.cls ≠ "java/lang/invoke/VarHandle" ∧ (parseMethodDescriptor yX12_leastAt.desc).map (fun d => d.parameters.length) = some 1 := by decide +kernel
theorem inm_leastAt : ∀ w ∈ wsX120, w ∈ wsX12_leastAt := fun _ h9 => List.mem_cons_of_mem _ (List.mem_append_right _ h9)
set_option maxHeartbeats 4000000 in
set_option maxRecDepth 100000 in
theorem met_leastAt (x1 : Int32) : mg_MI yX12_leastAt wsX12_leastAt rm_leastAt (fun ad => [.ref (ad 0), .int x1]) (fun Q h => wp_leastAt Q x1 h) := by
  refine mg_startI (cc := cX12_leastAt) (maxL := 5) (by decide) rfl rfl (fun ad => Nat.le_of_ble_eq_true rfl) (fun X Q h C hnL E hw => ?_)
  unfold wp_leastAt at hw
  refine mg_sub (lv2 := [(0, .ref (mg_ad X 0)), (1, .int x1)]) [0, 1] rfl ?_
  refine mg_use (hw (fun (y2 : Int32) (y3 : Int32) (h : mg_H) => mg_W X 4 [(0, .ref (mg_ad X 0)), (1, .int x1), (2, .int y2), (3, .int y3)] [] h) (fun (y2 : Int32) (y3 : Int32) (h : mg_H) => mg_W X 47 [(0, .ref (mg_ad X 0)), (1, .int x1), (2, .int y2), (3, .int y3)] [] h) (fun (y3 : Int32) (y4 : Int32) (h : mg_H) => mg_W X 42 [(0, .ref (mg_ad X 0)), (1, .int x1), (3, .int y3), (4, .int y4)] [] h) (fun (y3 : Int32) (s0 : Int32) (h : mg_H) => mg_W X 48 [(0, .ref (mg_ad X 0)), (1, .int x1), (3, .int y3)] [.int s0] h) ?_ ?_ ?_ ?_) (fun hF => ?_)
  · intro y2 y3 h hF
    refine mg_iload_n (pc := 4) C dX12_leastAt_4 3 rfl ?_
    refine mg_sipush (pc := 5) (v := 4096) C dX12_leastAt_5 (by decide) ?_
    refine mg_icmp_ge (pc := 8) 55 C dX12_leastAt_8 (by decide) (fun hc => ?_) (fun hc => ?_)
    · have hF := hF.1 hc
      refine mg_iload_n (pc := 55) C dX12_leastAt_55 2 rfl ?_
      exact mg_retI (pc := 56) C E dX12_leastAt_56 hF
    · have hF := hF.2 hc
      refine mg_aload_n (pc := 11) C dX12_leastAt_11 0 rfl ?_
      refine mg_getr (pc := 12) C inm_leastAt 40 (by decide) (by decide) dX12_leastAt_12 (List.mem_of_getElem? (i := 1) rfl) ?_
      refine mg_sipush (pc := 15) (v := 4096) C dX12_leastAt_15 (by decide) ?_
      refine mg_iload_n (pc := 18) C dX12_leastAt_18 1 rfl ?_
      refine mg_imul (pc := 19) C dX12_leastAt_19 ?_
      refine mg_iload_n (pc := 20) C dX12_leastAt_20 3 rfl ?_
      refine mg_iadd (pc := 21) C dX12_leastAt_21 ?_
      obtain ⟨hi, hF⟩ := hF
      refine mg_iald (pc := 22) C (by decide) rfl hi dX12_leastAt_22 ?_
      refine mg_topi (pc := 23) (fun z1 ez1 => ?_)
      have hF := hF z1 ez1
      refine mg_istore (pc := 23) (lv2 := [(4, .int z1), (0, .ref (mg_ad X 0)), (1, .int x1), (2, .int y2), (3, .int y3)]) C dX12_leastAt_23 5 hnL (by decide) rfl ?_
      refine mg_iload (pc := 25) C dX12_leastAt_25 0 rfl ?_
      refine mg_iconst (pc := 27) (v := (-1)) C dX12_leastAt_27 (by decide) ?_
      refine mg_icmp_eq (pc := 28) 47 C dX12_leastAt_28 (by decide) (fun hc => ?_) (fun hc => ?_)
      · have hF := hF.1 hc
        refine mg_sub (lv2 := [(0, .ref (mg_ad X 0)), (1, .int x1), (2, .int y2), (3, .int y3)]) [1, 2, 3, 4] rfl ?_
        exact hF
      · have hF := hF.2 hc
        refine mg_iload_n (pc := 31) C dX12_leastAt_31 3 rfl ?_
        refine mg_iconst (pc := 32) (v := (-1)) C dX12_leastAt_32 (by decide) ?_
        refine mg_icmp_eq (pc := 33) 42 C dX12_leastAt_33 (by decide) (fun hc => ?_) (fun hc => ?_)
        · have hF := hF.1 hc
          refine mg_sub (lv2 := [(0, .ref (mg_ad X 0)), (1, .int x1), (3, .int y3), (4, .int z1)]) [1, 2, 4, 0] rfl ?_
          exact hF
        · have hF := hF.2 hc
          refine mg_iload (pc := 36) C dX12_leastAt_36 0 rfl ?_
          refine mg_iload_n (pc := 38) C dX12_leastAt_38 3 rfl ?_
          refine mg_icmp_ge (pc := 39) 47 C dX12_leastAt_39 (by decide) (fun hc => ?_) (fun hc => ?_)
          · have hF := hF.1 hc
            refine mg_sub (lv2 := [(0, .ref (mg_ad X 0)), (1, .int x1), (2, .int y2), (3, .int y3)]) [1, 2, 3, 4] rfl ?_
            exact hF
          · have hF := hF.2 hc
            refine mg_sub (lv2 := [(0, .ref (mg_ad X 0)), (1, .int x1), (3, .int y3), (4, .int z1)]) [1, 2, 4, 0] rfl ?_
            exact hF
  · intro y2 y3 h hF
    refine mg_iload_n (pc := 47) C dX12_leastAt_47 2 rfl ?_
    refine mg_sub (lv2 := [(0, .ref (mg_ad X 0)), (1, .int x1), (3, .int y3)]) [0, 1, 3] rfl ?_
    exact hF
  · intro y3 y4 h hF
    refine mg_iload (pc := 42) C dX12_leastAt_42 3 rfl ?_
    refine mg_goto (pc := 44) 48 C dX12_leastAt_44 (by decide) ?_
    refine mg_sub (lv2 := [(0, .ref (mg_ad X 0)), (1, .int x1), (3, .int y3)]) [0, 1, 2] rfl ?_
    exact hF
  · intro y3 s0 h hF
    refine mg_istore_n (pc := 48) (lv2 := [(2, .int s0), (0, .ref (mg_ad X 0)), (1, .int x1), (3, .int y3)]) C dX12_leastAt_48 5 hnL (by decide) rfl ?_
    obtain ⟨z2, ez2⟩ : ∃ y : Int32, y = y3 + 1 := ⟨_, rfl⟩
    have hF := hF z2 ez2
    refine mg_iinc (pc := 49) (v := z2) (lv2 := [(3, .int z2), (2, .int s0), (0, .ref (mg_ad X 0)), (1, .int x1)]) C dX12_leastAt_49 3 rfl (by rw [ez2]; rfl) 5 hnL (by decide) rfl ?_
    refine mg_goto (pc := 52) 4 C dX12_leastAt_52 (by decide) ?_
    refine mg_sub (lv2 := [(0, .ref (mg_ad X 0)), (1, .int x1), (2, .int s0), (3, .int z2)]) [2, 3, 1, 0] rfl ?_
    exact hF
  · skip
    refine mg_iconst (pc := 0) (v := (-1)) C dX12_leastAt_0 (by decide) ?_
    refine mg_istore_n (pc := 1) (lv2 := [(2, .int (-1)), (0, .ref (mg_ad X 0)), (1, .int x1)]) C dX12_leastAt_1 5 hnL (by decide) rfl ?_
    refine mg_iconst (pc := 2) (v := 0) C dX12_leastAt_2 (by decide) ?_
    refine mg_istore_n (pc := 3) (lv2 := [(3, .int 0), (2, .int (-1)), (0, .ref (mg_ad X 0)), (1, .int x1)]) C dX12_leastAt_3 5 hnL (by decide) rfl ?_
    refine mg_sub (lv2 := [(0, .ref (mg_ad X 0)), (1, .int x1), (2, .int (-1)), (3, .int 0)]) [2, 3, 1, 0] rfl ?_
    exact hF
def rm_bitsOf : Room := { frames := 1, cells := 0, slots := 0, locals := 24 }
theorem nd_bitsOf : yX12_bitsOf.cls = RX12 ∧ yX12_bitsOf.cls ≠ "java/lang/invoke/MethodHandle" ∧ yX12_bitsOf.cls ≠ "java/lang/invoke/VarHandle" ∧ (parseMethodDescriptor yX12_bitsOf.desc).map (fun d => d.parameters.length) = some 1 := by decide +kernel
set_option maxHeartbeats 4000000 in
set_option maxRecDepth 100000 in
theorem met_bitsOf (x1 : Int32) : mg_MI yX12_bitsOf wsX12_bitsOf rm_bitsOf (fun ad => [.ref (ad 0), .int x1]) (fun Q h => wp_bitsOf Q x1 h) := by
  refine mg_startI (cc := cX12_bitsOf) (maxL := 4) (by decide) rfl rfl (fun ad => Nat.le_of_ble_eq_true rfl) (fun X Q h C hnL E hw => ?_)
  unfold wp_bitsOf at hw
  refine mg_sub (lv2 := [(0, .ref (mg_ad X 0)), (1, .int x1)]) [0, 1] rfl ?_
  refine mg_use (hw (fun (y2 : Int32) (y3 : Int32) (h : mg_H) => mg_W X 4 [(0, .ref (mg_ad X 0)), (1, .int x1), (2, .int y2), (3, .int y3)] [] h) (fun (y3 : Int32) (s0 : Int32) (s1 : Int32) (h : mg_H) => mg_W X 31 [(0, .ref (mg_ad X 0)), (1, .int x1), (3, .int y3)] [.int s0, .int s1] h) ?_ ?_) (fun hF => ?_)
  · intro y2 y3 h hF
    refine mg_iload_n (pc := 4) C dX12_bitsOf_4 3 rfl ?_
    refine mg_bipush (pc := 5) (v := 30) C dX12_bitsOf_5 (by decide) ?_
    refine mg_icmp_gt (pc := 7) 39 C dX12_bitsOf_7 (by decide) (fun hc => ?_) (fun hc => ?_)
    · have hF := hF.1 hc
      refine mg_iload_n (pc := 39) C dX12_bitsOf_39 2 rfl ?_
      exact mg_retI (pc := 40) C E dX12_bitsOf_40 hF
    · have hF := hF.2 hc
      refine mg_iload_n (pc := 10) C dX12_bitsOf_10 2 rfl ?_
      refine mg_aload_n (pc := 11) C dX12_bitsOf_11 0 rfl ?_
      refine mg_iload_n (pc := 12) C dX12_bitsOf_12 3 rfl ?_
      refine mg_cvI (pc := 13) C (fun ad => [.int y3]) (met_leastAt y3) gX12_bitsOf_X12_leastAt rfl ⟨rfl, rfl⟩ nd_leastAt ⟨Nat.le_of_ble_eq_true rfl, Nat.le_of_ble_eq_true rfl⟩ rfl rfl (Nat.le_of_ble_eq_true rfl) dX12_bitsOf_13 hF (fun r2 h1 hF => ?_)
      refine mg_iconst (pc := 16) (v := 0) C dX12_bitsOf_16 (by decide) ?_
      refine mg_iload_n (pc := 17) C dX12_bitsOf_17 1 rfl ?_
      refine mg_csI (pc := 18) C (fun ad => [.int r2, .int 0, .int x1]) (met_in r2 0 x1) gX12_bitsOf_X12_in rfl ⟨rfl, rfl⟩ nd_in.2 ⟨Nat.le_of_ble_eq_true rfl, Nat.le_of_ble_eq_true rfl⟩ rfl rfl (Nat.le_of_ble_eq_true rfl) dX12_bitsOf_18 hF (fun r4 h3 hF => ?_)
      refine mg_if_eq (pc := 21) 30 C dX12_bitsOf_21 (by decide) (fun hc => ?_) (fun hc => ?_)
      · have hF := hF.1 hc
        refine mg_iconst (pc := 30) (v := 0) C dX12_bitsOf_30 (by decide) ?_
        refine mg_sub (lv2 := [(0, .ref (mg_ad X 0)), (1, .int x1), (3, .int y3)]) [0, 1, 3] rfl ?_
        exact hF
      · have hF := hF.2 hc
        refine mg_iconst (pc := 24) (v := 1) C dX12_bitsOf_24 (by decide) ?_
        refine mg_iload_n (pc := 25) C dX12_bitsOf_25 3 rfl ?_
        refine mg_ishl (pc := 26) C dX12_bitsOf_26 ?_
        refine mg_goto (pc := 27) 31 C dX12_bitsOf_27 (by decide) ?_
        refine mg_sub (lv2 := [(0, .ref (mg_ad X 0)), (1, .int x1), (3, .int y3)]) [0, 1, 3] rfl ?_
        exact hF
  · intro y3 s0 s1 h hF
    refine mg_ior (pc := 31) C dX12_bitsOf_31 ?_
    refine mg_topi (pc := 32) (fun z5 ez5 => ?_)
    have hF := hF z5 ez5
    refine mg_istore_n (pc := 32) (lv2 := [(2, .int z5), (0, .ref (mg_ad X 0)), (1, .int x1), (3, .int y3)]) C dX12_bitsOf_32 4 hnL (by decide) rfl ?_
    obtain ⟨z6, ez6⟩ : ∃ y : Int32, y = y3 + 1 := ⟨_, rfl⟩
    have hF := hF z6 ez6
    refine mg_iinc (pc := 33) (v := z6) (lv2 := [(3, .int z6), (2, .int z5), (0, .ref (mg_ad X 0)), (1, .int x1)]) C dX12_bitsOf_33 3 rfl (by rw [ez6]; rfl) 4 hnL (by decide) rfl ?_
    refine mg_goto (pc := 36) 4 C dX12_bitsOf_36 (by decide) ?_
    refine mg_sub (lv2 := [(0, .ref (mg_ad X 0)), (1, .int x1), (2, .int z5), (3, .int z6)]) [2, 3, 1, 0] rfl ?_
    exact hF
  · skip
    refine mg_iconst (pc := 0) (v := 0) C dX12_bitsOf_0 (by decide) ?_
    refine mg_istore_n (pc := 1) (lv2 := [(2, .int 0), (0, .ref (mg_ad X 0)), (1, .int x1)]) C dX12_bitsOf_1 4 hnL (by decide) rfl ?_
    refine mg_iconst (pc := 2) (v := 1) C dX12_bitsOf_2 (by decide) ?_
    refine mg_istore_n (pc := 3) (lv2 := [(3, .int 1), (2, .int 0), (0, .ref (mg_ad X 0)), (1, .int x1)]) C dX12_bitsOf_3 4 hnL (by decide) rfl ?_
    refine mg_sub (lv2 := [(0, .ref (mg_ad X 0)), (1, .int x1), (2, .int 0), (3, .int 1)]) [2, 3, 1, 0] rfl ?_
    exact hF
def rm_timesOf : Room := { frames := 4, cells := 0, slots := 0, locals := 96 }
theorem nd_timesOf : yX12_timesOf.cls = RX12 ∧ yX12_timesOf.cls ≠ "java/lang/invoke/MethodHandle" ∧ yX12_timesOf.cls ≠ "java/lang/invoke/VarHandle" ∧ (parseMethodDescriptor yX12_timesOf.desc).map (fun d => d.parameters.length) = some 1 := by decide +kernel
set_option maxHeartbeats 4000000 in
set_option maxRecDepth 100000 in
theorem met_timesOf (x1 : Int32) : mg_MI yX12_timesOf wsX12_timesOf rm_timesOf (fun ad => [.ref (ad 0), .int x1]) (fun Q h => wp_timesOf Q x1 h) := by
  refine mg_startI (cc := cX12_timesOf) (maxL := 2) (by decide) rfl rfl (fun ad => Nat.le_of_ble_eq_true rfl) (fun X Q h C hnL E hw => ?_)
  unfold wp_timesOf at hw
  refine mg_sub (lv2 := [(0, .ref (mg_ad X 0)), (1, .int x1)]) [0, 1] rfl ?_
  have hF := hw
  refine mg_aload_n (pc := 0) C dX12_timesOf_0 0 rfl ?_
  refine mg_iload_n (pc := 1) C dX12_timesOf_1 1 rfl ?_
  refine mg_cvV (pc := 2) C (fun ad => [.int x1]) (met_alone x1) gX12_timesOf_X12_alone rfl ⟨rfl, rfl⟩ nd_alone ⟨Nat.le_of_ble_eq_true rfl, Nat.le_of_ble_eq_true rfl⟩ rfl rfl (Nat.le_of_ble_eq_true rfl) dX12_timesOf_2 hF (fun h1 hF => ?_)
  refine mg_aload_n (pc := 5) C dX12_timesOf_5 0 rfl ?_
  refine mg_iconst (pc := 6) (v := 0) C dX12_timesOf_6 (by decide) ?_
  refine mg_cvV (pc := 7) C (fun ad => [.int 0]) (met_layOut 0) gX12_timesOf_X12_layOut rfl ⟨rfl, rfl⟩ nd_layOut ⟨Nat.le_of_ble_eq_true rfl, Nat.le_of_ble_eq_true rfl⟩ rfl rfl (Nat.le_of_ble_eq_true rfl) dX12_timesOf_7 hF (fun h2 hF => ?_)
  refine mg_aload_n (pc := 10) C dX12_timesOf_10 0 rfl ?_
  refine mg_ldcw (pc := 11) (v := 1000000) C dX12_timesOf_11 (List.mem_of_getElem? (i := 1) rfl) ?_
  refine mg_cvI (pc := 14) C (fun ad => [.int 1000000]) (met_bitsOf 1000000) gX12_timesOf_X12_bitsOf rfl ⟨rfl, rfl⟩ nd_bitsOf ⟨Nat.le_of_ble_eq_true rfl, Nat.le_of_ble_eq_true rfl⟩ rfl rfl (Nat.le_of_ble_eq_true rfl) dX12_timesOf_14 hF (fun r4 h3 hF => ?_)
  exact mg_retI (pc := 17) C E dX12_timesOf_17 hF
def rm_leftBy : Room := { frames := 2, cells := 0, slots := 0, locals := 47 }
theorem nd_leftBy : yX12_leftBy.cls = RX12 ∧ yX12_leftBy.cls ≠ "java/lang/invoke/MethodHandle" ∧ yX12_leftBy.cls ≠ "java/lang/invoke/VarHandle" ∧ (parseMethodDescriptor yX12_leftBy.desc).map (fun d => d.parameters.length) = some 4 := by decide +kernel
theorem inm_leftBy : ∀ w ∈ wsX120, w ∈ wsX12_leftBy := fun _ h9 => List.mem_cons_of_mem _ (List.mem_append_right _ h9)
set_option maxHeartbeats 4000000 in
set_option maxRecDepth 100000 in
theorem met_leftBy (x1 : Int32) (x2 : Int32) (x3 : Int32) (x4 : Int32) : mg_MI yX12_leftBy wsX12_leftBy rm_leftBy (fun ad => [.ref (ad 0), .int x1, .int x2, .int x3, .int x4]) (fun Q h => wp_leftBy Q x1 x2 x3 x4 h) := by
  refine mg_startI (cc := cX12_leftBy) (maxL := 7) (by decide) rfl rfl (fun ad => Nat.le_of_ble_eq_true rfl) (fun X Q h C hnL E hw => ?_)
  unfold wp_leftBy at hw
  refine mg_sub (lv2 := [(0, .ref (mg_ad X 0)), (1, .int x1), (2, .int x2), (3, .int x3), (4, .int x4)]) [0, 1, 2, 3, 4] rfl ?_
  have hF := hw
  refine mg_aload_n (pc := 0) C dX12_leftBy_0 0 rfl ?_
  refine mg_iload_n (pc := 1) C dX12_leftBy_1 3 rfl ?_
  refine mg_iload (pc := 2) C dX12_leftBy_2 4 rfl ?_
  refine mg_cvI (pc := 4) C (fun ad => [.int x3, .int x4]) (met_next x3 x4) gX12_leftBy_X12_next rfl ⟨rfl, rfl⟩ nd_next ⟨Nat.le_of_ble_eq_true rfl, Nat.le_of_ble_eq_true rfl⟩ rfl rfl (Nat.le_of_ble_eq_true rfl) dX12_leftBy_4 hF (fun r2 h1 hF => ?_)
  refine mg_istore (pc := 7) (lv2 := [(5, .int r2), (0, .ref (mg_ad X 0)), (1, .int x1), (2, .int x2), (3, .int x3), (4, .int x4)]) C dX12_leftBy_7 7 hnL (by decide) rfl ?_
  refine mg_iload (pc := 9) C dX12_leftBy_9 0 rfl ?_
  refine mg_if_eq (pc := 11) 22 C dX12_leftBy_11 (by decide) (fun hc => ?_) (fun hc => ?_)
  · have hF := hF.1 hc
    refine mg_iconst (pc := 22) (v := (-1)) C dX12_leftBy_22 (by decide) ?_
    exact mg_retI (pc := 23) C E dX12_leftBy_23 hF
  · have hF := hF.2 hc
    refine mg_iload_n (pc := 14) C dX12_leftBy_14 3 rfl ?_
    refine mg_iload (pc := 15) C dX12_leftBy_15 0 rfl ?_
    refine mg_iadd (pc := 17) C dX12_leftBy_17 ?_
    refine mg_iload_n (pc := 18) C dX12_leftBy_18 2 rfl ?_
    refine mg_icmp_le (pc := 19) 24 C dX12_leftBy_19 (by decide) (fun hc => ?_) (fun hc => ?_)
    · have hF := hF.1 hc
      refine mg_aload_n (pc := 24) C dX12_leftBy_24 1 rfl ?_
      refine mg_getr (pc := 25) C inm_leftBy 40 (by decide) (by decide) dX12_leftBy_25 (List.mem_of_getElem? (i := 1) rfl) ?_
      refine mg_sipush (pc := 28) (v := 4096) C dX12_leftBy_28 (by decide) ?_
      refine mg_iload_n (pc := 31) C dX12_leftBy_31 3 rfl ?_
      refine mg_iload (pc := 32) C dX12_leftBy_32 0 rfl ?_
      refine mg_iadd (pc := 34) C dX12_leftBy_34 ?_
      refine mg_imul (pc := 35) C dX12_leftBy_35 ?_
      refine mg_aload_n (pc := 36) C dX12_leftBy_36 1 rfl ?_
      refine mg_geti (pc := 37) C inm_leftBy 39 (by decide) rfl (by decide) dX12_leftBy_37 (List.mem_of_getElem? (i := 2) rfl) ?_
      refine mg_iadd (pc := 40) C dX12_leftBy_40 ?_
      obtain ⟨hi, hF⟩ := hF
      refine mg_iald (pc := 41) C (by decide) rfl hi dX12_leftBy_41 ?_
      refine mg_topi (pc := 42) (fun z3 ez3 => ?_)
      have hF := hF z3 ez3
      refine mg_istore (pc := 42) (lv2 := [(6, .int z3), (5, .int r2), (0, .ref (mg_ad X 0)), (1, .int x1), (2, .int x2), (3, .int x3), (4, .int x4)]) C dX12_leftBy_42 7 hnL (by decide) rfl ?_
      refine mg_iload (pc := 44) C dX12_leftBy_44 0 rfl ?_
      refine mg_iconst (pc := 46) (v := (-1)) C dX12_leftBy_46 (by decide) ?_
      refine mg_icmp_ne (pc := 47) 54 C dX12_leftBy_47 (by decide) (fun hc => ?_) (fun hc => ?_)
      · have hF := hF.1 hc
        refine mg_iload (pc := 54) C dX12_leftBy_54 0 rfl ?_
        refine mg_aload_n (pc := 56) C dX12_leftBy_56 2 rfl ?_
        refine mg_iload (pc := 57) C dX12_leftBy_57 6 rfl ?_
        refine mg_iconst (pc := 59) (v := 0) C dX12_leftBy_59 (by decide) ?_
        refine mg_cvI (pc := 60) C (fun ad => [.int x4, .int 0]) (met_costOf x4 0) gX12_leftBy_X12_costOf rfl ⟨rfl, rfl⟩ nd_costOf ⟨Nat.le_of_ble_eq_true rfl, Nat.le_of_ble_eq_true rfl⟩ rfl rfl (Nat.le_of_ble_eq_true rfl) dX12_leftBy_60 hF (fun r5 h4 hF => ?_)
        refine mg_iadd (pc := 63) C dX12_leftBy_63 ?_
        exact mg_retI (pc := 64) C E dX12_leftBy_64 hF
      · have hF := hF.2 hc
        refine mg_iconst (pc := 50) (v := (-1)) C dX12_leftBy_50 (by decide) ?_
        refine mg_goto (pc := 51) 64 C dX12_leftBy_51 (by decide) ?_
        exact mg_retI (pc := 64) C E dX12_leftBy_64 hF
    · have hF := hF.2 hc
      refine mg_iconst (pc := 22) (v := (-1)) C dX12_leftBy_22 (by decide) ?_
      exact mg_retI (pc := 23) C E dX12_leftBy_23 hF
def rm_keepAll : Room := { frames := 0, cells := 0, slots := 0, locals := 0 }
theorem nd_keepAll : yX12_keepAll.cls = RX12 ∧ yX12_keepAll.cls ≠ "java/lang/invoke/MethodHandle" ∧ yX12_keepAll.cls ≠ "java/lang/invoke/VarHandle" ∧ (parseMethodDescriptor yX12_keepAll.desc).map (fun d => d.parameters.length) = some 0 := by decide +kernel
theorem inm_keepAll : ∀ w ∈ wsX120, w ∈ wsX12_keepAll := fun _ h9 => List.mem_cons_of_mem _ (List.mem_append_right _ h9)
set_option maxHeartbeats 4000000 in
set_option maxRecDepth 100000 in
theorem met_keepAll : mg_MV yX12_keepAll wsX12_keepAll rm_keepAll (fun ad => [.ref (ad 0)]) (fun Q h => wp_keepAll Q h) := by
  refine mg_startV (cc := cX12_keepAll) (maxL := 2) (by decide) rfl rfl (fun ad => Nat.le_of_ble_eq_true rfl) (fun X Q h C hnL E hw => ?_)
  unfold wp_keepAll at hw
  refine mg_sub (lv2 := [(0, .ref (mg_ad X 0))]) [0] rfl ?_
  refine mg_use (hw (fun (y1 : Int32) (h : mg_H) => mg_W X 2 [(0, .ref (mg_ad X 0)), (1, .int y1)] [] h) ?_) (fun hF => ?_)
  · intro y1 h hF
    refine mg_iload_n (pc := 2) C dX12_keepAll_2 1 rfl ?_
    refine mg_ldc (pc := 3) (v := 126976) C dX12_keepAll_3 (List.mem_of_getElem? (i := 1) rfl) ?_
    refine mg_icmp_ge (pc := 5) 26 C dX12_keepAll_5 (by decide) (fun hc => ?_) (fun hc => ?_)
    · have hF := hF.1 hc
      exact mg_retV (pc := 26) C E dX12_keepAll_26 hF
    · have hF := hF.2 hc
      refine mg_aload_n (pc := 8) C dX12_keepAll_8 0 rfl ?_
      refine mg_getr (pc := 9) C inm_keepAll 44 (by decide) (by decide) dX12_keepAll_9 (List.mem_of_getElem? (i := 2) rfl) ?_
      refine mg_iload_n (pc := 12) C dX12_keepAll_12 1 rfl ?_
      refine mg_aload_n (pc := 13) C dX12_keepAll_13 0 rfl ?_
      refine mg_getr (pc := 14) C inm_keepAll 40 (by decide) (by decide) dX12_keepAll_14 (List.mem_of_getElem? (i := 3) rfl) ?_
      refine mg_iload_n (pc := 17) C dX12_keepAll_17 1 rfl ?_
      obtain ⟨hi, hF⟩ := hF
      refine mg_iald (pc := 18) C (by decide) rfl hi dX12_keepAll_18 ?_
      obtain ⟨hi, hF⟩ := hF
      refine mg_iast (pc := 19) C (by decide) rfl hi dX12_keepAll_19 (fun h1 eh1 => ?_)
      have hF := hF h1 eh1
      obtain ⟨z2, ez2⟩ : ∃ y : Int32, y = y1 + 1 := ⟨_, rfl⟩
      have hF := hF z2 ez2
      refine mg_iinc (pc := 20) (v := z2) (lv2 := [(1, .int z2), (0, .ref (mg_ad X 0))]) C dX12_keepAll_20 1 rfl (by rw [ez2]; rfl) 2 hnL (by decide) rfl ?_
      refine mg_goto (pc := 23) 2 C dX12_keepAll_23 (by decide) ?_
      refine mg_sub (lv2 := [(0, .ref (mg_ad X 0)), (1, .int z2)]) [1, 0] rfl ?_
      exact hF
  · skip
    refine mg_iconst (pc := 0) (v := 0) C dX12_keepAll_0 (by decide) ?_
    refine mg_istore_n (pc := 1) (lv2 := [(1, .int 0), (0, .ref (mg_ad X 0))]) C dX12_keepAll_1 2 hnL (by decide) rfl ?_
    refine mg_sub (lv2 := [(0, .ref (mg_ad X 0)), (1, .int 0)]) [1, 0] rfl ?_
    exact hF
def rm_layBack : Room := { frames := 4, cells := 0, slots := 0, locals := 96 }
theorem nd_layBack : yX12_layBack.cls = RX12 ∧ yX12_layBack.cls ≠ "java/lang/invoke/MethodHandle" ∧ yX12_layBack.cls ≠ "java/lang/invoke/VarHandle" ∧ (parseMethodDescriptor yX12_layBack.desc).map (fun d => d.parameters.length) = some 1 := by decide +kernel
theorem inm_layBack : ∀ w ∈ wsX120, w ∈ wsX12_layBack := fun _ h9 => List.mem_cons_of_mem _ (List.mem_append_right _ h9)
set_option maxHeartbeats 4000000 in
set_option maxRecDepth 100000 in
theorem met_layBack (x1 : Int32) : mg_MV yX12_layBack wsX12_layBack rm_layBack (fun ad => [.ref (ad 0), .int x1]) (fun Q h => wp_layBack Q x1 h) := by
  refine mg_startV (cc := cX12_layBack) (maxL := 5) (by decide) rfl rfl (fun ad => Nat.le_of_ble_eq_true rfl) (fun X Q h C hnL E hw => ?_)
  unfold wp_layBack at hw
  refine mg_sub (lv2 := [(0, .ref (mg_ad X 0)), (1, .int x1)]) [0, 1] rfl ?_
  refine mg_use (hw (fun (y2 : Int32) (h : mg_H) => mg_W X 17 [(0, .ref (mg_ad X 0)), (1, .int x1), (2, .int y2)] [] h) (fun (y2 : Int32) (h : mg_H) => mg_W X 71 [(0, .ref (mg_ad X 0)), (1, .int x1), (2, .int y2)] [] h) (fun (y2 : Int32) (s0 : Int32) (s1 : Int32) (h : mg_H) => mg_W X 56 [(0, .ref (mg_ad X 0)), (1, .int x1), (2, .int y2)] [.int s0, .int s1, .ref (mg_ad X 40)] h) (fun (y2 : Int32) (y3 : Int32) (h : mg_H) => mg_W X 77 [(0, .ref (mg_ad X 0)), (1, .int x1), (2, .int y2), (3, .int y3)] [] h) (fun (y2 : Int32) (h : mg_H) => mg_W X 132 [(0, .ref (mg_ad X 0)), (1, .int x1), (2, .int y2)] [] h) (fun (y2 : Int32) (y3 : Int32) (h : mg_H) => mg_W X 126 [(0, .ref (mg_ad X 0)), (1, .int x1), (2, .int y2), (3, .int y3)] [] h) ?_ ?_ ?_ ?_ ?_ ?_) (fun hF => ?_)
  · intro y2 h hF
    refine mg_iload_n (pc := 17) C dX12_layBack_17 2 rfl ?_
    refine mg_sipush (pc := 18) (v := 4096) C dX12_layBack_18 (by decide) ?_
    refine mg_icmp_ge (pc := 21) 63 C dX12_layBack_21 (by decide) (fun hc => ?_) (fun hc => ?_)
    · have hF := hF.1 hc
      refine mg_sipush (pc := 63) (v := 4096) C dX12_layBack_63 (by decide) ?_
      refine mg_iload_n (pc := 66) C dX12_layBack_66 1 rfl ?_
      refine mg_imul (pc := 67) C dX12_layBack_67 ?_
      refine mg_iconst (pc := 68) (v := 1) C dX12_layBack_68 (by decide) ?_
      refine mg_isub (pc := 69) C dX12_layBack_69 ?_
      refine mg_topi (pc := 70) (fun z4 ez4 => ?_)
      have hF := hF z4 ez4
      refine mg_istore_n (pc := 70) (lv2 := [(2, .int z4), (0, .ref (mg_ad X 0)), (1, .int x1)]) C dX12_layBack_70 5 hnL (by decide) rfl ?_
      refine mg_sub (lv2 := [(0, .ref (mg_ad X 0)), (1, .int x1), (2, .int z4)]) [1, 2, 0] rfl ?_
      exact hF
    · have hF := hF.2 hc
      refine mg_aload_n (pc := 24) C dX12_layBack_24 0 rfl ?_
      refine mg_getr (pc := 25) C inm_layBack 40 (by decide) (by decide) dX12_layBack_25 (List.mem_of_getElem? (i := 1) rfl) ?_
      refine mg_sipush (pc := 28) (v := 4096) C dX12_layBack_28 (by decide) ?_
      refine mg_iload_n (pc := 31) C dX12_layBack_31 1 rfl ?_
      refine mg_imul (pc := 32) C dX12_layBack_32 ?_
      refine mg_iload_n (pc := 33) C dX12_layBack_33 2 rfl ?_
      refine mg_iadd (pc := 34) C dX12_layBack_34 ?_
      refine mg_aload_n (pc := 35) C dX12_layBack_35 0 rfl ?_
      refine mg_getr (pc := 36) C inm_layBack 44 (by decide) (by decide) dX12_layBack_36 (List.mem_of_getElem? (i := 2) rfl) ?_
      refine mg_sipush (pc := 39) (v := 4096) C dX12_layBack_39 (by decide) ?_
      refine mg_iload_n (pc := 42) C dX12_layBack_42 1 rfl ?_
      refine mg_imul (pc := 43) C dX12_layBack_43 ?_
      refine mg_iload_n (pc := 44) C dX12_layBack_44 2 rfl ?_
      refine mg_iadd (pc := 45) C dX12_layBack_45 ?_
      obtain ⟨hi, hF⟩ := hF
      refine mg_iald (pc := 46) C (by decide) rfl hi dX12_layBack_46 ?_
      refine mg_iconst (pc := 47) (v := (-1)) C dX12_layBack_47 (by decide) ?_
      refine mg_icmp_ne (pc := 48) 55 C dX12_layBack_48 (by decide) (fun hc => ?_) (fun hc => ?_)
      · have hF := hF.1 hc
        refine mg_iconst (pc := 55) (v := 0) C dX12_layBack_55 (by decide) ?_
        exact hF
      · have hF := hF.2 hc
        refine mg_iconst (pc := 51) (v := (-1)) C dX12_layBack_51 (by decide) ?_
        refine mg_goto (pc := 52) 56 C dX12_layBack_52 (by decide) ?_
        exact hF
  · intro y2 h hF
    refine mg_iload_n (pc := 71) C dX12_layBack_71 2 rfl ?_
    refine mg_if_lt (pc := 72) 138 C dX12_layBack_72 (by decide) (fun hc => ?_) (fun hc => ?_)
    · have hF := hF.1 hc
      exact mg_retV (pc := 138) C E dX12_layBack_138 hF
    · have hF := hF.2 hc
      refine mg_iconst (pc := 75) (v := 0) C dX12_layBack_75 (by decide) ?_
      refine mg_istore_n (pc := 76) (lv2 := [(3, .int 0), (0, .ref (mg_ad X 0)), (1, .int x1), (2, .int y2)]) C dX12_layBack_76 5 hnL (by decide) rfl ?_
      refine mg_sub (lv2 := [(0, .ref (mg_ad X 0)), (1, .int x1), (2, .int y2), (3, .int 0)]) [1, 2, 3, 0] rfl ?_
      exact hF
  · intro y2 s0 s1 h hF
    obtain ⟨hi, hF⟩ := hF
    refine mg_iast (pc := 56) C (by decide) rfl hi dX12_layBack_56 (fun h5 eh5 => ?_)
    have hF := hF h5 eh5
    obtain ⟨z6, ez6⟩ : ∃ y : Int32, y = y2 + 1 := ⟨_, rfl⟩
    have hF := hF z6 ez6
    refine mg_iinc (pc := 57) (v := z6) (lv2 := [(2, .int z6), (0, .ref (mg_ad X 0)), (1, .int x1)]) C dX12_layBack_57 2 rfl (by rw [ez6]; rfl) 5 hnL (by decide) rfl ?_
    refine mg_goto (pc := 60) 17 C dX12_layBack_60 (by decide) ?_
    refine mg_sub (lv2 := [(0, .ref (mg_ad X 0)), (1, .int x1), (2, .int z6)]) [1, 2, 0] rfl ?_
    exact hF
  · intro y2 y3 h hF
    refine mg_iload_n (pc := 77) C dX12_layBack_77 3 rfl ?_
    refine mg_aload_n (pc := 78) C dX12_layBack_78 0 rfl ?_
    refine mg_geti (pc := 79) C inm_layBack 25 (by decide) rfl (by decide) dX12_layBack_79 (List.mem_of_getElem? (i := 3) rfl) ?_
    refine mg_icmp_gt (pc := 82) 132 C dX12_layBack_82 (by decide) (fun hc => ?_) (fun hc => ?_)
    · have hF := hF.1 hc
      refine mg_sub (lv2 := [(0, .ref (mg_ad X 0)), (1, .int x1), (2, .int y2)]) [0, 1, 2] rfl ?_
      exact hF
    · have hF := hF.2 hc
      refine mg_aload_n (pc := 85) C dX12_layBack_85 0 rfl ?_
      refine mg_getr (pc := 86) C inm_layBack 44 (by decide) (by decide) dX12_layBack_86 (List.mem_of_getElem? (i := 2) rfl) ?_
      refine mg_iload_n (pc := 89) C dX12_layBack_89 2 rfl ?_
      obtain ⟨hi, hF⟩ := hF
      refine mg_iald (pc := 90) C (by decide) rfl hi dX12_layBack_90 ?_
      refine mg_iconst (pc := 91) (v := (-1)) C dX12_layBack_91 (by decide) ?_
      refine mg_icmp_eq (pc := 92) 132 C dX12_layBack_92 (by decide) (fun hc => ?_) (fun hc => ?_)
      · have hF := hF.1 hc
        refine mg_sub (lv2 := [(0, .ref (mg_ad X 0)), (1, .int x1), (2, .int y2)]) [0, 1, 2] rfl ?_
        exact hF
      · have hF := hF.2 hc
        refine mg_aload_n (pc := 95) C dX12_layBack_95 0 rfl ?_
        refine mg_iload_n (pc := 96) C dX12_layBack_96 1 rfl ?_
        refine mg_iload_n (pc := 97) C dX12_layBack_97 2 rfl ?_
        refine mg_sipush (pc := 98) (v := 4096) C dX12_layBack_98 (by decide) ?_
        refine mg_idiv (pc := 101) C dX12_layBack_101 (by decide) ?_
        refine mg_iload_n (pc := 102) C dX12_layBack_102 2 rfl ?_
        refine mg_sipush (pc := 103) (v := 4096) C dX12_layBack_103 (by decide) ?_
        refine mg_irem (pc := 106) C dX12_layBack_106 (by decide) ?_
        refine mg_iload_n (pc := 107) C dX12_layBack_107 3 rfl ?_
        refine mg_cvI (pc := 108) C (fun ad => [.int x1, .int (y2 / 4096), .int (y2 - y2 / 4096 * 4096), .int y3]) (met_leftBy x1 (y2 / 4096) (y2 - y2 / 4096 * 4096) y3) gX12_layBack_X12_leftBy rfl ⟨rfl, rfl⟩ nd_leftBy ⟨Nat.le_of_ble_eq_true rfl, Nat.le_of_ble_eq_true rfl⟩ rfl rfl (Nat.le_of_ble_eq_true rfl) dX12_layBack_108 hF (fun r8 h7 hF => ?_)
        refine mg_istore (pc := 111) (lv2 := [(4, .int r8), (0, .ref (mg_ad X 0)), (1, .int x1), (2, .int y2), (3, .int y3)]) C dX12_layBack_111 5 hnL (by decide) rfl ?_
        refine mg_iload (pc := 113) C dX12_layBack_113 0 rfl ?_
        refine mg_iconst (pc := 115) (v := (-1)) C dX12_layBack_115 (by decide) ?_
        refine mg_icmp_eq (pc := 116) 126 C dX12_layBack_116 (by decide) (fun hc => ?_) (fun hc => ?_)
        · have hF := hF.1 hc
          refine mg_sub (lv2 := [(0, .ref (mg_ad X 0)), (1, .int x1), (2, .int y2), (3, .int y3)]) [1, 2, 3, 4] rfl ?_
          exact hF
        · have hF := hF.2 hc
          refine mg_aload_n (pc := 119) C dX12_layBack_119 1 rfl ?_
          refine mg_iload_n (pc := 120) C dX12_layBack_120 3 rfl ?_
          refine mg_iload (pc := 121) C dX12_layBack_121 0 rfl ?_
          refine mg_cvV (pc := 123) C (fun ad => [.int y2, .int r8]) (met_offer y2 r8) gX12_layBack_X12_offer rfl ⟨rfl, rfl⟩ nd_offer ⟨Nat.le_of_ble_eq_true rfl, Nat.le_of_ble_eq_true rfl⟩ rfl rfl (Nat.le_of_ble_eq_true rfl) dX12_layBack_123 hF (fun h9 hF => ?_)
          refine mg_sub (lv2 := [(0, .ref (mg_ad X 0)), (1, .int x1), (2, .int y2), (3, .int y3)]) [1, 2, 3, 4] rfl ?_
          exact hF
  · intro y2 h hF
    obtain ⟨z10, ez10⟩ : ∃ y : Int32, y = y2 + (-1) := ⟨_, rfl⟩
    have hF := hF z10 ez10
    refine mg_iinc (pc := 132) (v := z10) (lv2 := [(2, .int z10), (0, .ref (mg_ad X 0)), (1, .int x1)]) C dX12_layBack_132 2 rfl (by rw [ez10]; rfl) 5 hnL (by decide) rfl ?_
    refine mg_goto (pc := 135) 71 C dX12_layBack_135 (by decide) ?_
    refine mg_sub (lv2 := [(0, .ref (mg_ad X 0)), (1, .int x1), (2, .int z10)]) [1, 2, 0] rfl ?_
    exact hF
  · intro y2 y3 h hF
    obtain ⟨z11, ez11⟩ : ∃ y : Int32, y = y3 + 1 := ⟨_, rfl⟩
    have hF := hF z11 ez11
    refine mg_iinc (pc := 126) (v := z11) (lv2 := [(3, .int z11), (0, .ref (mg_ad X 0)), (1, .int x1), (2, .int y2)]) C dX12_layBack_126 3 rfl (by rw [ez11]; rfl) 5 hnL (by decide) rfl ?_
    refine mg_goto (pc := 129) 77 C dX12_layBack_129 (by decide) ?_
    refine mg_sub (lv2 := [(0, .ref (mg_ad X 0)), (1, .int x1), (2, .int y2), (3, .int z11)]) [1, 2, 3, 0] rfl ?_
    exact hF
  · skip
    refine mg_aload_n (pc := 0) C dX12_layBack_0 0 rfl ?_
    refine mg_iconst (pc := 1) (v := 0) C dX12_layBack_1 (by decide) ?_
    refine mg_cvV (pc := 2) C (fun ad => [.int 0]) (met_layOut 0) gX12_layBack_X12_layOut rfl ⟨rfl, rfl⟩ nd_layOut ⟨Nat.le_of_ble_eq_true rfl, Nat.le_of_ble_eq_true rfl⟩ rfl rfl (Nat.le_of_ble_eq_true rfl) dX12_layBack_2 hF (fun h1 hF => ?_)
    refine mg_aload_n (pc := 5) C dX12_layBack_5 0 rfl ?_
    refine mg_cvV (pc := 6) C (fun ad => []) (met_keepAll) gX12_layBack_X12_keepAll rfl ⟨rfl, rfl⟩ nd_keepAll ⟨Nat.le_of_ble_eq_true rfl, Nat.le_of_ble_eq_true rfl⟩ rfl rfl (Nat.le_of_ble_eq_true rfl) dX12_layBack_6 hF (fun h2 hF => ?_)
    refine mg_aload_n (pc := 9) C dX12_layBack_9 0 rfl ?_
    refine mg_iconst (pc := 10) (v := 0) C dX12_layBack_10 (by decide) ?_
    refine mg_iload_n (pc := 11) C dX12_layBack_11 1 rfl ?_
    refine mg_cvV (pc := 12) C (fun ad => [.int 0, .int x1]) (met_clear 0 x1) gX12_layBack_X12_clear rfl ⟨rfl, rfl⟩ nd_clear ⟨Nat.le_of_ble_eq_true rfl, Nat.le_of_ble_eq_true rfl⟩ rfl rfl (Nat.le_of_ble_eq_true rfl) dX12_layBack_12 hF (fun h3 hF => ?_)
    refine mg_iconst (pc := 15) (v := 0) C dX12_layBack_15 (by decide) ?_
    refine mg_istore_n (pc := 16) (lv2 := [(2, .int 0), (0, .ref (mg_ad X 0)), (1, .int x1)]) C dX12_layBack_16 5 hnL (by decide) rfl ?_
    refine mg_sub (lv2 := [(0, .ref (mg_ad X 0)), (1, .int x1), (2, .int 0)]) [1, 2, 0] rfl ?_
    exact hF
