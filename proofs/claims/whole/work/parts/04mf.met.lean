def rm_isSo : Room := { frames := 1, cells := 0, slots := 0, locals := 22 }
theorem nd_isSo : yX12_isSo.cls = RX12 ∧ yX12_isSo.cls ≠ "java/lang/invoke/MethodHandle" ∧ yX12_isSo.cls ≠ "java/lang/invoke/VarHandle" ∧ (parseMethodDescriptor yX12_isSo.desc).map (fun d => d.parameters.length) = some 0 := by decide +kernel
theorem inm_isSo : ∀ w ∈ wsX120, w ∈ wsX12_isSo := fun _ h9 => List.mem_cons_of_mem _ (List.mem_append_right _ h9)
set_option maxHeartbeats 4000000 in
set_option maxRecDepth 100000 in
theorem met_isSo : mg_MI yX12_isSo wsX12_isSo rm_isSo (fun ad => [.ref (ad 0)]) (fun Q h => wp_isSo Q h) := by
  refine mg_startI (cc := cX12_isSo) (maxL := 4) (by decide) rfl rfl (fun ad => Nat.le_of_ble_eq_true rfl) (fun X Q h C hnL E hw => ?_)
  unfold wp_isSo at hw
  refine mg_sub (lv2 := [(0, .ref (mg_ad X 0))]) [0] rfl ?_
  refine mg_use (hw (fun (y1 : Int32) (h : mg_H) => mg_W X 2 [(0, .ref (mg_ad X 0)), (1, .int y1)] [] h) (fun (y1 : Int32) (h : mg_H) => mg_W X 51 [(0, .ref (mg_ad X 0)), (1, .int y1)] [] h) ?_ ?_) (fun hF => ?_)
  · intro y1 h hF
    refine mg_iload_n (pc := 2) C dX12_isSo_2 1 rfl ?_
    refine mg_aload_n (pc := 3) C dX12_isSo_3 0 rfl ?_
    refine mg_cvI (pc := 4) C (fun ad => []) (met_facts) gX12_isSo_X12_facts rfl ⟨rfl, rfl⟩ nd_facts ⟨Nat.le_of_ble_eq_true rfl, Nat.le_of_ble_eq_true rfl⟩ rfl rfl (Nat.le_of_ble_eq_true rfl) dX12_isSo_4 hF (fun r2 h1 hF => ?_)
    refine mg_icmp_ge (pc := 7) 57 C dX12_isSo_7 (by decide) (fun hc => ?_) (fun hc => ?_)
    · have hF := hF.1 hc
      refine mg_iconst (pc := 57) (v := 1) C dX12_isSo_57 (by decide) ?_
      exact mg_retZ (pc := 58) C E (Or.inr rfl) dX12_isSo_58 hF
    · have hF := hF.2 hc
      refine mg_aload_n (pc := 10) C dX12_isSo_10 0 rfl ?_
      refine mg_getr (pc := 11) C inm_isSo 38 (by decide) (by decide) dX12_isSo_11 (List.mem_of_getElem? (i := 1) rfl) ?_
      refine mg_aload_n (pc := 14) C dX12_isSo_14 0 rfl ?_
      refine mg_iload_n (pc := 15) C dX12_isSo_15 1 rfl ?_
      refine mg_iconst (pc := 16) (v := 0) C dX12_isSo_16 (by decide) ?_
      refine mg_cvI (pc := 17) C (fun ad => [.int y1, .int 0]) (met_factOf y1 0) gX12_isSo_X12_factOf rfl ⟨rfl, rfl⟩ nd_factOf ⟨Nat.le_of_ble_eq_true rfl, Nat.le_of_ble_eq_true rfl⟩ rfl rfl (Nat.le_of_ble_eq_true rfl) dX12_isSo_17 hF (fun r4 h3 hF => ?_)
      obtain ⟨hi, hF⟩ := hF
      refine mg_iald (pc := 20) C (by decide) rfl hi dX12_isSo_20 ?_
      refine mg_topi (pc := 21) (fun z5 ez5 => ?_)
      have hF := hF z5 ez5
      refine mg_istore_n (pc := 21) (lv2 := [(2, .int z5), (0, .ref (mg_ad X 0)), (1, .int y1)]) C dX12_isSo_21 4 hnL (by decide) rfl ?_
      refine mg_aload_n (pc := 22) C dX12_isSo_22 1 rfl ?_
      refine mg_iload_n (pc := 23) C dX12_isSo_23 2 rfl ?_
      refine mg_iconst (pc := 24) (v := 1) C dX12_isSo_24 (by decide) ?_
      refine mg_cvI (pc := 25) C (fun ad => [.int y1, .int 1]) (met_factOf y1 1) gX12_isSo_X12_factOf rfl ⟨rfl, rfl⟩ nd_factOf ⟨Nat.le_of_ble_eq_true rfl, Nat.le_of_ble_eq_true rfl⟩ rfl rfl (Nat.le_of_ble_eq_true rfl) dX12_isSo_25 hF (fun r7 h6 hF => ?_)
      refine mg_istore_n (pc := 28) (lv2 := [(3, .int r7), (2, .int z5), (0, .ref (mg_ad X 0)), (1, .int y1)]) C dX12_isSo_28 4 hnL (by decide) rfl ?_
      refine mg_iload_n (pc := 29) C dX12_isSo_29 0 rfl ?_
      refine mg_iconst (pc := 30) (v := (-1)) C dX12_isSo_30 (by decide) ?_
      refine mg_icmp_ne (pc := 31) 41 C dX12_isSo_31 (by decide) (fun hc => ?_) (fun hc => ?_)
      · have hF := hF.1 hc
        refine mg_iload_n (pc := 41) C dX12_isSo_41 1 rfl ?_
        refine mg_iload_n (pc := 42) C dX12_isSo_42 0 rfl ?_
        refine mg_csI (pc := 43) C (fun ad => [.int z5, .int r7]) (met_has z5 r7) gX12_isSo_X12_has rfl ⟨rfl, rfl⟩ nd_has.2 ⟨Nat.le_of_ble_eq_true rfl, Nat.le_of_ble_eq_true rfl⟩ rfl rfl (Nat.le_of_ble_eq_true rfl) dX12_isSo_43 hF (fun r9 h8 hF => ?_)
        refine mg_if_ne (pc := 46) 51 C dX12_isSo_46 (by decide) (fun hc => ?_) (fun hc => ?_)
        · have hF := hF.1 hc
          refine mg_sub (lv2 := [(0, .ref (mg_ad X 0)), (1, .int y1)]) [2, 3] rfl ?_
          exact hF
        · have hF := hF.2 hc
          refine mg_iconst (pc := 49) (v := 0) C dX12_isSo_49 (by decide) ?_
          exact mg_retZ (pc := 50) C E (Or.inl rfl) dX12_isSo_50 hF
      · have hF := hF.2 hc
        refine mg_iload_n (pc := 34) C dX12_isSo_34 1 rfl ?_
        refine mg_if_eq (pc := 35) 51 C dX12_isSo_35 (by decide) (fun hc => ?_) (fun hc => ?_)
        · have hF := hF.1 hc
          refine mg_sub (lv2 := [(0, .ref (mg_ad X 0)), (1, .int y1)]) [2, 3] rfl ?_
          exact hF
        · have hF := hF.2 hc
          refine mg_goto (pc := 38) 49 C dX12_isSo_38 (by decide) ?_
          refine mg_iconst (pc := 49) (v := 0) C dX12_isSo_49 (by decide) ?_
          exact mg_retZ (pc := 50) C E (Or.inl rfl) dX12_isSo_50 hF
  · intro y1 h hF
    obtain ⟨z10, ez10⟩ : ∃ y : Int32, y = y1 + 1 := ⟨_, rfl⟩
    have hF := hF z10 ez10
    refine mg_iinc (pc := 51) (v := z10) (lv2 := [(1, .int z10), (0, .ref (mg_ad X 0))]) C dX12_isSo_51 1 rfl (by rw [ez10]; rfl) 4 hnL (by decide) rfl ?_
    refine mg_goto (pc := 54) 2 C dX12_isSo_54 (by decide) ?_
    refine mg_sub (lv2 := [(0, .ref (mg_ad X 0)), (1, .int z10)]) [1, 0] rfl ?_
    exact hF
  · skip
    refine mg_iconst (pc := 0) (v := 0) C dX12_isSo_0 (by decide) ?_
    refine mg_istore_n (pc := 1) (lv2 := [(1, .int 0), (0, .ref (mg_ad X 0))]) C dX12_isSo_1 4 hnL (by decide) rfl ?_
    refine mg_sub (lv2 := [(0, .ref (mg_ad X 0)), (1, .int 0)]) [1, 0] rfl ?_
    exact hF
def rm_playBy : Room := { frames := 7, cells := 0, slots := 0, locals := 152 }
theorem nd_playBy : yX12_playBy.cls = RX12 ∧ yX12_playBy.cls ≠ "java/lang/invoke/MethodHandle" ∧ yX12_playBy.cls ≠ "java/lang/invoke/VarHandle" ∧ (parseMethodDescriptor yX12_playBy.desc).map (fun d => d.parameters.length) = some 1 := by decide +kernel
theorem inm_playBy : ∀ w ∈ wsX120, w ∈ wsX12_playBy := fun _ h9 => List.mem_cons_of_mem _ (List.mem_append_right _ h9)
set_option maxHeartbeats 4000000 in
set_option maxRecDepth 100000 in
theorem met_playBy (x1 : Int32) : mg_MV yX12_playBy wsX12_playBy rm_playBy (fun ad => [.ref (ad 0), .int x1]) (fun Q h => wp_playBy Q x1 h) := by
  refine mg_startV (cc := cX12_playBy) (maxL := 3) (by decide) rfl rfl (fun ad => Nat.le_of_ble_eq_true rfl) (fun X Q h C hnL E hw => ?_)
  unfold wp_playBy at hw
  refine mg_sub (lv2 := [(0, .ref (mg_ad X 0)), (1, .int x1)]) [0, 1] rfl ?_
  refine mg_use (hw (fun (y2 : Int32) (h : mg_H) => mg_W X 14 [(0, .ref (mg_ad X 0)), (1, .int x1), (2, .int y2)] [] h) (fun (h : mg_H) => mg_W X 48 [(0, .ref (mg_ad X 0))] [] h) ?_ ?_) (fun hF => ?_)
  · intro y2 h hF
    refine mg_iload_n (pc := 14) C dX12_playBy_14 2 rfl ?_
    refine mg_iconst (pc := 15) (v := 4) C dX12_playBy_15 (by decide) ?_
    refine mg_icmp_ge (pc := 16) 39 C dX12_playBy_16 (by decide) (fun hc => ?_) (fun hc => ?_)
    · have hF := hF.1 hc
      refine mg_aload_n (pc := 39) C dX12_playBy_39 0 rfl ?_
      refine mg_aload_n (pc := 40) C dX12_playBy_40 0 rfl ?_
      refine mg_cvI (pc := 41) C (fun ad => []) (met_deeds) gX12_playBy_X12_deeds rfl ⟨rfl, rfl⟩ nd_deeds ⟨Nat.le_of_ble_eq_true rfl, Nat.le_of_ble_eq_true rfl⟩ rfl rfl (Nat.le_of_ble_eq_true rfl) dX12_playBy_41 hF (fun r4 h3 hF => ?_)
      refine mg_cvI (pc := 44) C (fun ad => [.int r4]) (met_play r4) gX12_playBy_X12_play rfl ⟨rfl, rfl⟩ nd_play ⟨Nat.le_of_ble_eq_true rfl, Nat.le_of_ble_eq_true rfl⟩ rfl rfl (Nat.le_of_ble_eq_true rfl) dX12_playBy_44 hF (fun r6 h5 hF => ?_)
      refine mg_pop (pc := 47) C dX12_playBy_47 rfl ?_
      refine mg_sub (lv2 := [(0, .ref (mg_ad X 0))]) [0] rfl ?_
      exact hF
    · have hF := hF.2 hc
      refine mg_aload_n (pc := 19) C dX12_playBy_19 0 rfl ?_
      refine mg_getr (pc := 20) C inm_playBy 28 (by decide) (by decide) dX12_playBy_20 (List.mem_of_getElem? (i := 2) rfl) ?_
      refine mg_iload_n (pc := 23) C dX12_playBy_23 2 rfl ?_
      refine mg_iload_n (pc := 24) C dX12_playBy_24 1 rfl ?_
      refine mg_iconst (pc := 25) (v := 3) C dX12_playBy_25 (by decide) ?_
      refine mg_iload_n (pc := 26) C dX12_playBy_26 2 rfl ?_
      refine mg_imul (pc := 27) C dX12_playBy_27 ?_
      refine mg_ishr (pc := 28) C dX12_playBy_28 ?_
      refine mg_bipush (pc := 29) (v := 7) C dX12_playBy_29 (by decide) ?_
      refine mg_iand (pc := 31) C dX12_playBy_31 ?_
      obtain ⟨hi, hF⟩ := hF
      refine mg_iast (pc := 32) C (by decide) rfl hi dX12_playBy_32 (fun h7 eh7 => ?_)
      have hF := hF h7 eh7
      obtain ⟨z8, ez8⟩ : ∃ y : Int32, y = y2 + 1 := ⟨_, rfl⟩
      have hF := hF z8 ez8
      refine mg_iinc (pc := 33) (v := z8) (lv2 := [(2, .int z8), (0, .ref (mg_ad X 0)), (1, .int x1)]) C dX12_playBy_33 2 rfl (by rw [ez8]; rfl) 3 hnL (by decide) rfl ?_
      refine mg_goto (pc := 36) 14 C dX12_playBy_36 (by decide) ?_
      refine mg_sub (lv2 := [(0, .ref (mg_ad X 0)), (1, .int x1), (2, .int z8)]) [1, 2, 0] rfl ?_
      exact hF
  · intro h hF
    refine mg_aload_n (pc := 48) C dX12_playBy_48 0 rfl ?_
    refine mg_geti (pc := 49) C inm_playBy 30 (by decide) rfl (by decide) dX12_playBy_49 (List.mem_of_getElem? (i := 3) rfl) ?_
    refine mg_bipush (pc := 52) (v := 99) C dX12_playBy_52 (by decide) ?_
    refine mg_icmp_ge (pc := 54) 64 C dX12_playBy_54 (by decide) (fun hc => ?_) (fun hc => ?_)
    · have hF := hF.1 hc
      exact mg_retV (pc := 64) C E dX12_playBy_64 hF
    · have hF := hF.2 hc
      refine mg_aload_n (pc := 57) C dX12_playBy_57 0 rfl ?_
      refine mg_cvV (pc := 58) C (fun ad => []) (met_goBy) gX12_playBy_X12_goBy rfl ⟨rfl, rfl⟩ nd_goBy ⟨Nat.le_of_ble_eq_true rfl, Nat.le_of_ble_eq_true rfl⟩ rfl rfl (Nat.le_of_ble_eq_true rfl) dX12_playBy_58 hF (fun h9 hF => ?_)
      refine mg_goto (pc := 61) 48 C dX12_playBy_61 (by decide) ?_
      exact hF
  · skip
    refine mg_aload_n (pc := 0) C dX12_playBy_0 0 rfl ?_
    refine mg_aload_n (pc := 1) C dX12_playBy_1 0 rfl ?_
    refine mg_geti (pc := 2) C inm_playBy 25 (by decide) rfl (by decide) dX12_playBy_2 (List.mem_of_getElem? (i := 1) rfl) ?_
    refine mg_cvV (pc := 5) C (fun ad => [.int (mg_i h 0 25)]) (met_alone (mg_i h 0 25)) gX12_playBy_X12_alone rfl ⟨rfl, rfl⟩ nd_alone ⟨Nat.le_of_ble_eq_true rfl, Nat.le_of_ble_eq_true rfl⟩ rfl rfl (Nat.le_of_ble_eq_true rfl) dX12_playBy_5 hF (fun h1 hF => ?_)
    refine mg_aload_n (pc := 8) C dX12_playBy_8 0 rfl ?_
    refine mg_cvV (pc := 9) C (fun ad => []) (met_beginDay) gX12_playBy_X12_beginDay rfl ⟨rfl, rfl⟩ nd_beginDay ⟨Nat.le_of_ble_eq_true rfl, Nat.le_of_ble_eq_true rfl⟩ rfl rfl (Nat.le_of_ble_eq_true rfl) dX12_playBy_9 hF (fun h2 hF => ?_)
    refine mg_iconst (pc := 12) (v := 0) C dX12_playBy_12 (by decide) ?_
    refine mg_istore_n (pc := 13) (lv2 := [(2, .int 0), (0, .ref (mg_ad X 0)), (1, .int x1)]) C dX12_playBy_13 3 hnL (by decide) rfl ?_
    refine mg_sub (lv2 := [(0, .ref (mg_ad X 0)), (1, .int x1), (2, .int 0)]) [1, 2, 0] rfl ?_
    exact hF
def rm_topIn : Room := { frames := 0, cells := 0, slots := 0, locals := 0 }
theorem nd_topIn : yX12_topIn.cls = RX12 ∧ yX12_topIn.cls ≠ "java/lang/invoke/MethodHandle" ∧ yX12_topIn.cls ≠ "java/lang/invoke/VarHandle" ∧ (parseMethodDescriptor yX12_topIn.desc).map (fun d => d.parameters.length) = some 2 := by decide +kernel
set_option maxHeartbeats 4000000 in
set_option maxRecDepth 100000 in
theorem met_topIn (x0 : Int32) (x1 : Int32) : mg_MI yX12_topIn wsX12_topIn rm_topIn (fun ad => [.int x0, .int x1]) (fun Q h => wp_topIn Q x0 x1 h) := by
  refine mg_startI (cc := cX12_topIn) (maxL := 2) (by decide) rfl rfl (fun ad => Nat.le_of_ble_eq_true rfl) (fun X Q h C hnL E hw => ?_)
  unfold wp_topIn at hw
  refine mg_sub (lv2 := [(0, .int x0), (1, .int x1)]) [0, 1] rfl ?_
  have hF := hw
  refine mg_iload_n (pc := 0) C dX12_topIn_0 0 rfl ?_
  refine mg_iconst (pc := 1) (v := 3) C dX12_topIn_1 (by decide) ?_
  refine mg_iload_n (pc := 2) C dX12_topIn_2 1 rfl ?_
  refine mg_imul (pc := 3) C dX12_topIn_3 ?_
  refine mg_ishr (pc := 4) C dX12_topIn_4 ?_
  refine mg_bipush (pc := 5) (v := 7) C dX12_topIn_5 (by decide) ?_
  refine mg_iand (pc := 7) C dX12_topIn_7 ?_
  exact mg_retI (pc := 8) C E dX12_topIn_8 hF
def rm_noteFit : Room := { frames := 1, cells := 0, slots := 0, locals := 21 }
theorem nd_noteFit : yX12_noteFit.cls = RX12 ∧ yX12_noteFit.cls ≠ "java/lang/invoke/MethodHandle" ∧ yX12_noteFit.cls ≠ "java/lang/invoke/VarHandle" ∧ (parseMethodDescriptor yX12_noteFit.desc).map (fun d => d.parameters.length) = some 2 := by decide +kernel
theorem inm_noteFit : ∀ w ∈ wsX120, w ∈ wsX12_noteFit := fun _ h9 => List.mem_cons_of_mem _ (List.mem_append_right _ h9)
set_option maxHeartbeats 4000000 in
set_option maxRecDepth 100000 in
theorem met_noteFit (x1 : Int32) (x2 : Int32) : mg_MV yX12_noteFit wsX12_noteFit rm_noteFit (fun ad => [.ref (ad 0), .int x1, .int x2]) (fun Q h => wp_noteFit Q x1 x2 h) := by
  refine mg_startV (cc := cX12_noteFit) (maxL := 5) (by decide) rfl rfl (fun ad => Nat.le_of_ble_eq_true rfl) (fun X Q h C hnL E hw => ?_)
  unfold wp_noteFit at hw
  refine mg_sub (lv2 := [(0, .ref (mg_ad X 0)), (1, .int x1), (2, .int x2)]) [0, 1, 2] rfl ?_
  refine mg_use (hw (fun (y3 : Int32) (y4 : Int32) (h : mg_H) => mg_W X 5 [(0, .ref (mg_ad X 0)), (1, .int x1), (2, .int x2), (3, .int y3), (4, .int y4)] [] h) (fun (s0 : Int32) (h : mg_H) => mg_W X 127 [(0, .ref (mg_ad X 0))] [.int s0, .ref (mg_ad X 0)] h) (fun (y3 : Int32) (y4 : Int32) (s0 : Int32) (s1 : Int32) (h : mg_H) => mg_W X 74 [(0, .ref (mg_ad X 0)), (1, .int x1), (2, .int x2), (3, .int y3), (4, .int y4)] [.int s0, .int s1, .ref (mg_ad X 0)] h) (fun (y4 : Int32) (h : mg_H) => mg_W X 143 [(0, .ref (mg_ad X 0)), (4, .int y4)] [] h) (fun (y3 : Int32) (y4 : Int32) (s0 : Int32) (s1 : Int32) (h : mg_H) => mg_W X 100 [(0, .ref (mg_ad X 0)), (1, .int x1), (2, .int x2), (3, .int y3), (4, .int y4)] [.int s0, .int s1, .ref (mg_ad X 0)] h) (fun (y4 : Int32) (s0 : Int32) (s1 : Int32) (s2 : Int32) (h : mg_H) => mg_W X 173 [(0, .ref (mg_ad X 0)), (4, .int y4)] [.int s0, .int s1, .int s2, .ref (mg_ad X 58)] h) ?_ ?_ ?_ ?_ ?_ ?_) (fun hF => ?_)
  · intro y3 y4 h hF
    refine mg_iload (pc := 5) C dX12_noteFit_5 4 rfl ?_
    refine mg_aload_n (pc := 7) C dX12_noteFit_7 0 rfl ?_
    refine mg_geti (pc := 8) C inm_noteFit 24 (by decide) rfl (by decide) dX12_noteFit_8 (List.mem_of_getElem? (i := 1) rfl) ?_
    refine mg_icmp_ge (pc := 11) 110 C dX12_noteFit_11 (by decide) (fun hc => ?_) (fun hc => ?_)
    · have hF := hF.1 hc
      refine mg_aload_n (pc := 110) C dX12_noteFit_110 0 rfl ?_
      refine mg_aload_n (pc := 111) C dX12_noteFit_111 0 rfl ?_
      refine mg_geti (pc := 112) C inm_noteFit 53 (by decide) rfl (by decide) dX12_noteFit_112 (List.mem_of_getElem? (i := 5) rfl) ?_
      refine mg_iload_n (pc := 115) C dX12_noteFit_115 2 rfl ?_
      refine mg_icmp_ne (pc := 116) 123 C dX12_noteFit_116 (by decide) (fun hc => ?_) (fun hc => ?_)
      · have hF := hF.1 hc
        refine mg_aload_n (pc := 123) C dX12_noteFit_123 0 rfl ?_
        refine mg_geti (pc := 124) C inm_noteFit 54 (by decide) rfl (by decide) dX12_noteFit_124 (List.mem_of_getElem? (i := 6) rfl) ?_
        refine mg_sub (lv2 := [(0, .ref (mg_ad X 0))]) [0] rfl ?_
        exact hF
      · have hF := hF.2 hc
        refine mg_iload_n (pc := 119) C dX12_noteFit_119 3 rfl ?_
        refine mg_goto (pc := 120) 127 C dX12_noteFit_120 (by decide) ?_
        refine mg_sub (lv2 := [(0, .ref (mg_ad X 0))]) [0] rfl ?_
        exact hF
    · have hF := hF.2 hc
      refine mg_bipush (pc := 14) (v := 10) C dX12_noteFit_14 (by decide) ?_
      refine mg_iload_n (pc := 16) C dX12_noteFit_16 3 rfl ?_
      refine mg_imul (pc := 17) C dX12_noteFit_17 ?_
      refine mg_iload_n (pc := 18) C dX12_noteFit_18 1 rfl ?_
      refine mg_iload (pc := 19) C dX12_noteFit_19 4 rfl ?_
      refine mg_csI (pc := 21) C (fun ad => [.int x1, .int y4]) (met_topIn x1 y4) gX12_noteFit_X12_topIn rfl ⟨rfl, rfl⟩ nd_topIn.2 ⟨Nat.le_of_ble_eq_true rfl, Nat.le_of_ble_eq_true rfl⟩ rfl rfl (Nat.le_of_ble_eq_true rfl) dX12_noteFit_21 hF (fun r2 h1 hF => ?_)
      refine mg_iadd (pc := 24) C dX12_noteFit_24 ?_
      refine mg_topi (pc := 25) (fun z3 ez3 => ?_)
      have hF := hF z3 ez3
      refine mg_istore_n (pc := 25) (lv2 := [(3, .int z3), (0, .ref (mg_ad X 0)), (1, .int x1), (2, .int x2), (4, .int y4)]) C dX12_noteFit_25 5 hnL (by decide) rfl ?_
      refine mg_aload_n (pc := 26) C dX12_noteFit_26 1 rfl ?_
      refine mg_getr (pc := 27) C inm_noteFit 57 (by decide) (by decide) dX12_noteFit_27 (List.mem_of_getElem? (i := 2) rfl) ?_
      refine mg_iload (pc := 30) C dX12_noteFit_30 4 rfl ?_
      refine mg_dup2 (pc := 32) C dX12_noteFit_32 rfl rfl ?_
      obtain ⟨hi, hF⟩ := hF
      refine mg_iald (pc := 33) C (by decide) rfl hi dX12_noteFit_33 ?_
      refine mg_iconst (pc := 34) (v := 1) C dX12_noteFit_34 (by decide) ?_
      refine mg_iload_n (pc := 35) C dX12_noteFit_35 2 rfl ?_
      refine mg_iload (pc := 36) C dX12_noteFit_36 4 rfl ?_
      refine mg_csI (pc := 38) C (fun ad => [.int x1, .int y4]) (met_topIn x1 y4) gX12_noteFit_X12_topIn rfl ⟨rfl, rfl⟩ nd_topIn.2 ⟨Nat.le_of_ble_eq_true rfl, Nat.le_of_ble_eq_true rfl⟩ rfl rfl (Nat.le_of_ble_eq_true rfl) dX12_noteFit_38 hF (fun r5 h4 hF => ?_)
      refine mg_ishl (pc := 41) C dX12_noteFit_41 ?_
      refine mg_ior (pc := 42) C dX12_noteFit_42 ?_
      obtain ⟨hi, hF⟩ := hF
      refine mg_iast (pc := 43) C (by decide) rfl hi dX12_noteFit_43 (fun h6 eh6 => ?_)
      have hF := hF h6 eh6
      refine mg_aload_n (pc := 44) C dX12_noteFit_44 1 rfl ?_
      refine mg_dup (pc := 45) C dX12_noteFit_45 rfl ?_
      refine mg_geti (pc := 46) C inm_noteFit 55 (by decide) rfl (by decide) dX12_noteFit_46 (List.mem_of_getElem? (i := 3) rfl) ?_
      refine mg_iload_n (pc := 49) C dX12_noteFit_49 2 rfl ?_
      refine mg_iload (pc := 50) C dX12_noteFit_50 4 rfl ?_
      refine mg_csI (pc := 52) C (fun ad => [.int x1, .int y4]) (met_topIn x1 y4) gX12_noteFit_X12_topIn rfl ⟨rfl, rfl⟩ nd_topIn.2 ⟨Nat.le_of_ble_eq_true rfl, Nat.le_of_ble_eq_true rfl⟩ rfl rfl (Nat.le_of_ble_eq_true rfl) dX12_noteFit_52 hF (fun r8 h7 hF => ?_)
      refine mg_aload_n (pc := 55) C dX12_noteFit_55 1 rfl ?_
      refine mg_iconst (pc := 56) (v := 1) C dX12_noteFit_56 (by decide) ?_
      refine mg_iload (pc := 57) C dX12_noteFit_57 4 rfl ?_
      refine mg_iadd (pc := 59) C dX12_noteFit_59 ?_
      refine mg_cvI (pc := 60) C (fun ad => [.int (1 + y4)]) (met_of (1 + y4)) gX12_noteFit_X12_of rfl ⟨rfl, rfl⟩ nd_of ⟨Nat.le_of_ble_eq_true rfl, Nat.le_of_ble_eq_true rfl⟩ rfl rfl (Nat.le_of_ble_eq_true rfl) dX12_noteFit_60 hF (fun r10 h9 hF => ?_)
      refine mg_icmp_ne (pc := 63) 73 C dX12_noteFit_63 (by decide) (fun hc => ?_) (fun hc => ?_)
      · have hF := hF.1 hc
        refine mg_iconst (pc := 73) (v := 0) C dX12_noteFit_73 (by decide) ?_
        refine mg_sub (lv2 := [(0, .ref (mg_ad X 0)), (1, .int x1), (2, .int x2), (3, .int z3), (4, .int y4)]) [1, 2, 3, 0, 4] rfl ?_
        exact hF
      · have hF := hF.2 hc
        refine mg_iconst (pc := 66) (v := 1) C dX12_noteFit_66 (by decide) ?_
        refine mg_iload (pc := 67) C dX12_noteFit_67 4 rfl ?_
        refine mg_ishl (pc := 69) C dX12_noteFit_69 ?_
        refine mg_goto (pc := 70) 74 C dX12_noteFit_70 (by decide) ?_
        refine mg_sub (lv2 := [(0, .ref (mg_ad X 0)), (1, .int x1), (2, .int x2), (3, .int z3), (4, .int y4)]) [1, 2, 3, 0, 4] rfl ?_
        exact hF
  · intro s0 h hF
    refine mg_puti (pc := 127) C inm_noteFit 54 (by decide) rfl (by decide) dX12_noteFit_127 (List.mem_of_getElem? (i := 6) rfl) rfl (tyX12_ok 54 (by decide)) (fun h11 eh11 => ?_)
    have hF := hF h11 eh11
    refine mg_aload_n (pc := 130) C dX12_noteFit_130 0 rfl ?_
    refine mg_dup (pc := 131) C dX12_noteFit_131 rfl ?_
    refine mg_geti (pc := 132) C inm_noteFit 53 (by decide) rfl (by decide) dX12_noteFit_132 (List.mem_of_getElem? (i := 5) rfl) ?_
    refine mg_iconst (pc := 135) (v := 1) C dX12_noteFit_135 (by decide) ?_
    refine mg_iadd (pc := 136) C dX12_noteFit_136 ?_
    refine mg_puti (pc := 137) C inm_noteFit 53 (by decide) rfl (by decide) dX12_noteFit_137 (List.mem_of_getElem? (i := 5) rfl) rfl (tyX12_ok 53 (by decide)) (fun h12 eh12 => ?_)
    have hF := hF h12 eh12
    refine mg_iconst (pc := 140) (v := 1) C dX12_noteFit_140 (by decide) ?_
    refine mg_istore (pc := 141) (lv2 := [(4, .int 1), (0, .ref (mg_ad X 0))]) C dX12_noteFit_141 5 hnL (by decide) rfl ?_
    refine mg_sub (lv2 := [(0, .ref (mg_ad X 0)), (4, .int 1)]) [1, 0] rfl ?_
    exact hF
  · intro y3 y4 s0 s1 h hF
    refine mg_ior (pc := 74) C dX12_noteFit_74 ?_
    refine mg_puti (pc := 75) C inm_noteFit 55 (by decide) rfl (by decide) dX12_noteFit_75 (List.mem_of_getElem? (i := 3) rfl) rfl (tyX12_ok 55 (by decide)) (fun h13 eh13 => ?_)
    have hF := hF h13 eh13
    refine mg_aload_n (pc := 78) C dX12_noteFit_78 0 rfl ?_
    refine mg_dup (pc := 79) C dX12_noteFit_79 rfl ?_
    refine mg_geti (pc := 80) C inm_noteFit 56 (by decide) rfl (by decide) dX12_noteFit_80 (List.mem_of_getElem? (i := 4) rfl) ?_
    refine mg_iload_n (pc := 83) C dX12_noteFit_83 1 rfl ?_
    refine mg_iload (pc := 84) C dX12_noteFit_84 4 rfl ?_
    refine mg_csI (pc := 86) C (fun ad => [.int x1, .int y4]) (met_topIn x1 y4) gX12_noteFit_X12_topIn rfl ⟨rfl, rfl⟩ nd_topIn.2 ⟨Nat.le_of_ble_eq_true rfl, Nat.le_of_ble_eq_true rfl⟩ rfl rfl (Nat.le_of_ble_eq_true rfl) dX12_noteFit_86 hF (fun r15 h14 hF => ?_)
    refine mg_if_ne (pc := 89) 99 C dX12_noteFit_89 (by decide) (fun hc => ?_) (fun hc => ?_)
    · have hF := hF.1 hc
      refine mg_iconst (pc := 99) (v := 0) C dX12_noteFit_99 (by decide) ?_
      exact hF
    · have hF := hF.2 hc
      refine mg_iconst (pc := 92) (v := 1) C dX12_noteFit_92 (by decide) ?_
      refine mg_iload (pc := 93) C dX12_noteFit_93 4 rfl ?_
      refine mg_ishl (pc := 95) C dX12_noteFit_95 ?_
      refine mg_goto (pc := 96) 100 C dX12_noteFit_96 (by decide) ?_
      exact hF
  · intro y4 h hF
    refine mg_iload (pc := 143) C dX12_noteFit_143 1 rfl ?_
    refine mg_bipush (pc := 145) (v := 41) C dX12_noteFit_145 (by decide) ?_
    refine mg_icmp_ge (pc := 147) 181 C dX12_noteFit_147 (by decide) (fun hc => ?_) (fun hc => ?_)
    · have hF := hF.1 hc
      exact mg_retV (pc := 181) C E dX12_noteFit_181 hF
    · have hF := hF.2 hc
      refine mg_aload_n (pc := 150) C dX12_noteFit_150 0 rfl ?_
      refine mg_getr (pc := 151) C inm_noteFit 58 (by decide) (by decide) dX12_noteFit_151 (List.mem_of_getElem? (i := 7) rfl) ?_
      refine mg_iload (pc := 154) C dX12_noteFit_154 1 rfl ?_
      refine mg_dup2 (pc := 156) C dX12_noteFit_156 rfl rfl ?_
      obtain ⟨hi, hF⟩ := hF
      refine mg_iald (pc := 157) C (by decide) rfl hi dX12_noteFit_157 ?_
      refine mg_aload_n (pc := 158) C dX12_noteFit_158 0 rfl ?_
      refine mg_getr (pc := 159) C inm_noteFit 38 (by decide) (by decide) dX12_noteFit_159 (List.mem_of_getElem? (i := 8) rfl) ?_
      refine mg_iload (pc := 162) C dX12_noteFit_162 1 rfl ?_
      obtain ⟨hi, hF⟩ := hF
      refine mg_iald (pc := 164) C (by decide) rfl hi dX12_noteFit_164 ?_
      refine mg_if_eq (pc := 165) 172 C dX12_noteFit_165 (by decide) (fun hc => ?_) (fun hc => ?_)
      · have hF := hF.1 hc
        refine mg_iconst (pc := 172) (v := 0) C dX12_noteFit_172 (by decide) ?_
        exact hF
      · have hF := hF.2 hc
        refine mg_iconst (pc := 168) (v := 1) C dX12_noteFit_168 (by decide) ?_
        refine mg_goto (pc := 169) 173 C dX12_noteFit_169 (by decide) ?_
        exact hF
  · intro y3 y4 s0 s1 h hF
    refine mg_ior (pc := 100) C dX12_noteFit_100 ?_
    refine mg_puti (pc := 101) C inm_noteFit 56 (by decide) rfl (by decide) dX12_noteFit_101 (List.mem_of_getElem? (i := 4) rfl) rfl (tyX12_ok 56 (by decide)) (fun h16 eh16 => ?_)
    have hF := hF h16 eh16
    obtain ⟨z17, ez17⟩ : ∃ y : Int32, y = y4 + 1 := ⟨_, rfl⟩
    have hF := hF z17 ez17
    refine mg_iinc (pc := 104) (v := z17) (lv2 := [(4, .int z17), (0, .ref (mg_ad X 0)), (1, .int x1), (2, .int x2), (3, .int y3)]) C dX12_noteFit_104 4 rfl (by rw [ez17]; rfl) 5 hnL (by decide) rfl ?_
    refine mg_goto (pc := 107) 5 C dX12_noteFit_107 (by decide) ?_
    refine mg_sub (lv2 := [(0, .ref (mg_ad X 0)), (1, .int x1), (2, .int x2), (3, .int y3), (4, .int z17)]) [1, 2, 3, 4, 0] rfl ?_
    exact hF
  · intro y4 s0 s1 s2 h hF
    refine mg_iadd (pc := 173) C dX12_noteFit_173 ?_
    obtain ⟨hi, hF⟩ := hF
    refine mg_iast (pc := 174) C (by decide) rfl hi dX12_noteFit_174 (fun h18 eh18 => ?_)
    have hF := hF h18 eh18
    obtain ⟨z19, ez19⟩ : ∃ y : Int32, y = y4 + 1 := ⟨_, rfl⟩
    have hF := hF z19 ez19
    refine mg_iinc (pc := 175) (v := z19) (lv2 := [(4, .int z19), (0, .ref (mg_ad X 0))]) C dX12_noteFit_175 1 rfl (by rw [ez19]; rfl) 5 hnL (by decide) rfl ?_
    refine mg_goto (pc := 178) 143 C dX12_noteFit_178 (by decide) ?_
    refine mg_sub (lv2 := [(0, .ref (mg_ad X 0)), (4, .int z19)]) [1, 0] rfl ?_
    exact hF
  · skip
    refine mg_iconst (pc := 0) (v := 1) C dX12_noteFit_0 (by decide) ?_
    refine mg_istore_n (pc := 1) (lv2 := [(3, .int 1), (0, .ref (mg_ad X 0)), (1, .int x1), (2, .int x2)]) C dX12_noteFit_1 5 hnL (by decide) rfl ?_
    refine mg_iconst (pc := 2) (v := 0) C dX12_noteFit_2 (by decide) ?_
    refine mg_istore (pc := 3) (lv2 := [(4, .int 0), (3, .int 1), (0, .ref (mg_ad X 0)), (1, .int x1), (2, .int x2)]) C dX12_noteFit_3 5 hnL (by decide) rfl ?_
    refine mg_sub (lv2 := [(0, .ref (mg_ad X 0)), (1, .int x1), (2, .int x2), (3, .int 1), (4, .int 0)]) [2, 3, 4, 1, 0] rfl ?_
    exact hF
def rm_nextTops : Room := { frames := 1, cells := 0, slots := 0, locals := 21 }
theorem nd_nextTops : yX12_nextTops.cls = RX12 ∧ yX12_nextTops.cls ≠ "java/lang/invoke/MethodHandle" ∧ yX12_nextTops.cls ≠ "java/lang/invoke/VarHandle" ∧ (parseMethodDescriptor yX12_nextTops.desc).map (fun d => d.parameters.length) = some 1 := by decide +kernel
theorem inm_nextTops : ∀ w ∈ wsX120, w ∈ wsX12_nextTops := fun _ h9 => List.mem_cons_of_mem _ (List.mem_append_right _ h9)
set_option maxHeartbeats 4000000 in
set_option maxRecDepth 100000 in
theorem met_nextTops (x1 : Int32) : mg_MI yX12_nextTops wsX12_nextTops rm_nextTops (fun ad => [.ref (ad 0), .int x1]) (fun Q h => wp_nextTops Q x1 h) := by
  refine mg_startI (cc := cX12_nextTops) (maxL := 4) (by decide) rfl rfl (fun ad => Nat.le_of_ble_eq_true rfl) (fun X Q h C hnL E hw => ?_)
  unfold wp_nextTops at hw
  refine mg_sub (lv2 := [(0, .ref (mg_ad X 0)), (1, .int x1)]) [0, 1] rfl ?_
  refine mg_use (hw (fun (y2 : Int32) (y3 : Int32) (h : mg_H) => mg_W X 9 [(0, .ref (mg_ad X 0)), (2, .int y2), (3, .int y3)] [] h) ?_) (fun hF => ?_)
  · intro y2 y3 h hF
    refine mg_iload_n (pc := 9) C dX12_nextTops_9 2 rfl ?_
    refine mg_if_lt (pc := 10) 53 C dX12_nextTops_10 (by decide) (fun hc => ?_) (fun hc => ?_)
    · have hF := hF.1 hc
      refine mg_iconst (pc := 53) (v := (-1)) C dX12_nextTops_53 (by decide) ?_
      exact mg_retI (pc := 54) C E dX12_nextTops_54 hF
    · have hF := hF.2 hc
      refine mg_iload_n (pc := 13) C dX12_nextTops_13 1 rfl ?_
      refine mg_iload_n (pc := 14) C dX12_nextTops_14 2 rfl ?_
      refine mg_csI (pc := 15) C (fun ad => [.int y2, .int y3]) (met_topIn y2 y3) gX12_nextTops_X12_topIn rfl ⟨rfl, rfl⟩ nd_topIn.2 ⟨Nat.le_of_ble_eq_true rfl, Nat.le_of_ble_eq_true rfl⟩ rfl rfl (Nat.le_of_ble_eq_true rfl) dX12_nextTops_15 hF (fun r3 h2 hF => ?_)
      refine mg_aload_n (pc := 18) C dX12_nextTops_18 0 rfl ?_
      refine mg_iconst (pc := 19) (v := 1) C dX12_nextTops_19 (by decide) ?_
      refine mg_iload_n (pc := 20) C dX12_nextTops_20 2 rfl ?_
      refine mg_iadd (pc := 21) C dX12_nextTops_21 ?_
      refine mg_cvI (pc := 22) C (fun ad => [.int (1 + y3)]) (met_of (1 + y3)) gX12_nextTops_X12_of rfl ⟨rfl, rfl⟩ nd_of ⟨Nat.le_of_ble_eq_true rfl, Nat.le_of_ble_eq_true rfl⟩ rfl rfl (Nat.le_of_ble_eq_true rfl) dX12_nextTops_22 hF (fun r5 h4 hF => ?_)
      refine mg_icmp_ge (pc := 25) 36 C dX12_nextTops_25 (by decide) (fun hc => ?_) (fun hc => ?_)
      · have hF := hF.1 hc
        refine mg_iload_n (pc := 36) C dX12_nextTops_36 1 rfl ?_
        refine mg_bipush (pc := 37) (v := 7) C dX12_nextTops_37 (by decide) ?_
        refine mg_iconst (pc := 39) (v := 3) C dX12_nextTops_39 (by decide) ?_
        refine mg_iload_n (pc := 40) C dX12_nextTops_40 2 rfl ?_
        refine mg_imul (pc := 41) C dX12_nextTops_41 ?_
        refine mg_ishl (pc := 42) C dX12_nextTops_42 ?_
        refine mg_iconst (pc := 43) (v := (-1)) C dX12_nextTops_43 (by decide) ?_
        refine mg_ixor (pc := 44) C dX12_nextTops_44 ?_
        refine mg_iand (pc := 45) C dX12_nextTops_45 ?_
        refine mg_topi (pc := 46) (fun z6 ez6 => ?_)
        have hF := hF z6 ez6
        refine mg_istore_n (pc := 46) (lv2 := [(2, .int z6), (0, .ref (mg_ad X 0)), (3, .int y3)]) C dX12_nextTops_46 4 hnL (by decide) rfl ?_
        obtain ⟨z7, ez7⟩ : ∃ y : Int32, y = y3 + (-1) := ⟨_, rfl⟩
        have hF := hF z7 ez7
        refine mg_iinc (pc := 47) (v := z7) (lv2 := [(3, .int z7), (2, .int z6), (0, .ref (mg_ad X 0))]) C dX12_nextTops_47 2 rfl (by rw [ez7]; rfl) 4 hnL (by decide) rfl ?_
        refine mg_goto (pc := 50) 9 C dX12_nextTops_50 (by decide) ?_
        refine mg_sub (lv2 := [(0, .ref (mg_ad X 0)), (2, .int z6), (3, .int z7)]) [2, 1, 0] rfl ?_
        exact hF
      · have hF := hF.2 hc
        refine mg_iload_n (pc := 28) C dX12_nextTops_28 1 rfl ?_
        refine mg_iconst (pc := 29) (v := 1) C dX12_nextTops_29 (by decide) ?_
        refine mg_iconst (pc := 30) (v := 3) C dX12_nextTops_30 (by decide) ?_
        refine mg_iload_n (pc := 31) C dX12_nextTops_31 2 rfl ?_
        refine mg_imul (pc := 32) C dX12_nextTops_32 ?_
        refine mg_ishl (pc := 33) C dX12_nextTops_33 ?_
        refine mg_iadd (pc := 34) C dX12_nextTops_34 ?_
        exact mg_retI (pc := 35) C E dX12_nextTops_35 hF
  · skip
    refine mg_iload_n (pc := 0) C dX12_nextTops_0 1 rfl ?_
    refine mg_istore_n (pc := 1) (lv2 := [(2, .int x1), (0, .ref (mg_ad X 0)), (1, .int x1)]) C dX12_nextTops_1 4 hnL (by decide) rfl ?_
    refine mg_aload_n (pc := 2) C dX12_nextTops_2 1 rfl ?_
    refine mg_geti (pc := 3) C inm_nextTops 24 (by decide) rfl (by decide) dX12_nextTops_3 (List.mem_of_getElem? (i := 1) rfl) ?_
    refine mg_iconst (pc := 6) (v := 1) C dX12_nextTops_6 (by decide) ?_
    refine mg_isub (pc := 7) C dX12_nextTops_7 ?_
    refine mg_topi (pc := 8) (fun z1 ez1 => ?_)
    have hF := hF z1 ez1
    refine mg_istore_n (pc := 8) (lv2 := [(3, .int z1), (2, .int x1), (0, .ref (mg_ad X 0)), (1, .int x1)]) C dX12_nextTops_8 4 hnL (by decide) rfl ?_
    refine mg_sub (lv2 := [(0, .ref (mg_ad X 0)), (2, .int x1), (3, .int z1)]) [2, 1, 0] rfl ?_
    exact hF
def rm_findTops : Room := { frames := 8, cells := 0, slots := 0, locals := 174 }
theorem nd_findTops : yX12_findTops.cls = RX12 ∧ yX12_findTops.cls ≠ "java/lang/invoke/MethodHandle" ∧ yX12_findTops.cls ≠ "java/lang/invoke/VarHandle" ∧ (parseMethodDescriptor yX12_findTops.desc).map (fun d => d.parameters.length) = some 1 := by decide +kernel
theorem inm_findTops : ∀ w ∈ wsX120, w ∈ wsX12_findTops := fun _ h9 => List.mem_cons_of_mem _ (List.mem_append_right _ h9)
set_option maxHeartbeats 4000000 in
set_option maxRecDepth 100000 in
theorem met_findTops (x1 : Int32) : mg_MV yX12_findTops wsX12_findTops rm_findTops (fun ad => [.ref (ad 0), .int x1]) (fun Q h => wp_findTops Q x1 h) := by
  refine mg_startV (cc := cX12_findTops) (maxL := 3) (by decide) rfl rfl (fun ad => Nat.le_of_ble_eq_true rfl) (fun X Q h C hnL E hw => ?_)
  unfold wp_findTops at hw
  refine mg_sub (lv2 := [(0, .ref (mg_ad X 0)), (1, .int x1)]) [0, 1] rfl ?_
  refine mg_use (hw (fun (y2 : Int32) (h : mg_H) => mg_W X 23 [(0, .ref (mg_ad X 0)), (1, .int x1), (2, .int y2)] [] h) (fun (y2 : Int32) (h : mg_H) => mg_W X 43 [(0, .ref (mg_ad X 0)), (1, .int x1), (2, .int y2)] [] h) (fun (y2 : Int32) (h : mg_H) => mg_W X 64 [(0, .ref (mg_ad X 0)), (1, .int x1), (2, .int y2)] [] h) (fun (y2 : Int32) (h : mg_H) => mg_W X 87 [(0, .ref (mg_ad X 0)), (1, .int x1), (2, .int y2)] [] h) ?_ ?_ ?_ ?_) (fun hF => ?_)
  · intro y2 h hF
    refine mg_iload_n (pc := 23) C dX12_findTops_23 2 rfl ?_
    refine mg_iconst (pc := 24) (v := 4) C dX12_findTops_24 (by decide) ?_
    refine mg_icmp_ge (pc := 25) 41 C dX12_findTops_25 (by decide) (fun hc => ?_) (fun hc => ?_)
    · have hF := hF.1 hc
      refine mg_iconst (pc := 41) (v := 0) C dX12_findTops_41 (by decide) ?_
      refine mg_istore_n (pc := 42) (lv2 := [(2, .int 0), (0, .ref (mg_ad X 0)), (1, .int x1)]) C dX12_findTops_42 3 hnL (by decide) rfl ?_
      refine mg_sub (lv2 := [(0, .ref (mg_ad X 0)), (1, .int x1), (2, .int 0)]) [1, 2, 0] rfl ?_
      exact hF
    · have hF := hF.2 hc
      refine mg_aload_n (pc := 28) C dX12_findTops_28 0 rfl ?_
      refine mg_getr (pc := 29) C inm_findTops 57 (by decide) (by decide) dX12_findTops_29 (List.mem_of_getElem? (i := 5) rfl) ?_
      refine mg_iload_n (pc := 32) C dX12_findTops_32 2 rfl ?_
      refine mg_iconst (pc := 33) (v := 0) C dX12_findTops_33 (by decide) ?_
      obtain ⟨hi, hF⟩ := hF
      refine mg_iast (pc := 34) C (by decide) rfl hi dX12_findTops_34 (fun h5 eh5 => ?_)
      have hF := hF h5 eh5
      obtain ⟨z6, ez6⟩ : ∃ y : Int32, y = y2 + 1 := ⟨_, rfl⟩
      have hF := hF z6 ez6
      refine mg_iinc (pc := 35) (v := z6) (lv2 := [(2, .int z6), (0, .ref (mg_ad X 0)), (1, .int x1)]) C dX12_findTops_35 2 rfl (by rw [ez6]; rfl) 3 hnL (by decide) rfl ?_
      refine mg_goto (pc := 38) 23 C dX12_findTops_38 (by decide) ?_
      refine mg_sub (lv2 := [(0, .ref (mg_ad X 0)), (1, .int x1), (2, .int z6)]) [1, 2, 0] rfl ?_
      exact hF
  · intro y2 h hF
    refine mg_iload_n (pc := 43) C dX12_findTops_43 2 rfl ?_
    refine mg_bipush (pc := 44) (v := 41) C dX12_findTops_44 (by decide) ?_
    refine mg_icmp_ge (pc := 46) 62 C dX12_findTops_46 (by decide) (fun hc => ?_) (fun hc => ?_)
    · have hF := hF.1 hc
      refine mg_iconst (pc := 62) (v := 0) C dX12_findTops_62 (by decide) ?_
      refine mg_istore_n (pc := 63) (lv2 := [(2, .int 0), (0, .ref (mg_ad X 0)), (1, .int x1)]) C dX12_findTops_63 3 hnL (by decide) rfl ?_
      refine mg_sub (lv2 := [(0, .ref (mg_ad X 0)), (1, .int x1), (2, .int 0)]) [1, 2, 0] rfl ?_
      exact hF
    · have hF := hF.2 hc
      refine mg_aload_n (pc := 49) C dX12_findTops_49 0 rfl ?_
      refine mg_getr (pc := 50) C inm_findTops 58 (by decide) (by decide) dX12_findTops_50 (List.mem_of_getElem? (i := 6) rfl) ?_
      refine mg_iload_n (pc := 53) C dX12_findTops_53 2 rfl ?_
      refine mg_iconst (pc := 54) (v := 0) C dX12_findTops_54 (by decide) ?_
      obtain ⟨hi, hF⟩ := hF
      refine mg_iast (pc := 55) C (by decide) rfl hi dX12_findTops_55 (fun h7 eh7 => ?_)
      have hF := hF h7 eh7
      obtain ⟨z8, ez8⟩ : ∃ y : Int32, y = y2 + 1 := ⟨_, rfl⟩
      have hF := hF z8 ez8
      refine mg_iinc (pc := 56) (v := z8) (lv2 := [(2, .int z8), (0, .ref (mg_ad X 0)), (1, .int x1)]) C dX12_findTops_56 2 rfl (by rw [ez8]; rfl) 3 hnL (by decide) rfl ?_
      refine mg_goto (pc := 59) 43 C dX12_findTops_59 (by decide) ?_
      refine mg_sub (lv2 := [(0, .ref (mg_ad X 0)), (1, .int x1), (2, .int z8)]) [1, 2, 0] rfl ?_
      exact hF
  · intro y2 h hF
    refine mg_iload_n (pc := 64) C dX12_findTops_64 2 rfl ?_
    refine mg_iconst (pc := 65) (v := (-1)) C dX12_findTops_65 (by decide) ?_
    refine mg_icmp_eq (pc := 66) 96 C dX12_findTops_66 (by decide) (fun hc => ?_) (fun hc => ?_)
    · have hF := hF.1 hc
      exact mg_retV (pc := 96) C E dX12_findTops_96 hF
    · have hF := hF.2 hc
      refine mg_aload_n (pc := 69) C dX12_findTops_69 0 rfl ?_
      refine mg_iload_n (pc := 70) C dX12_findTops_70 2 rfl ?_
      refine mg_cvV (pc := 71) C (fun ad => [.int y2]) (met_playBy y2) gX12_findTops_X12_playBy rfl ⟨rfl, rfl⟩ nd_playBy ⟨Nat.le_of_ble_eq_true rfl, Nat.le_of_ble_eq_true rfl⟩ rfl rfl (Nat.le_of_ble_eq_true rfl) dX12_findTops_71 hF (fun h9 hF => ?_)
      refine mg_aload_n (pc := 74) C dX12_findTops_74 0 rfl ?_
      refine mg_cvI (pc := 75) C (fun ad => []) (met_isSo) gX12_findTops_X12_isSo rfl ⟨rfl, rfl⟩ nd_isSo ⟨Nat.le_of_ble_eq_true rfl, Nat.le_of_ble_eq_true rfl⟩ rfl rfl (Nat.le_of_ble_eq_true rfl) dX12_findTops_75 hF (fun r11 h10 hF => ?_)
      refine mg_if_eq (pc := 78) 87 C dX12_findTops_78 (by decide) (fun hc => ?_) (fun hc => ?_)
      · have hF := hF.1 hc
        exact hF
      · have hF := hF.2 hc
        refine mg_aload_n (pc := 81) C dX12_findTops_81 0 rfl ?_
        refine mg_iload_n (pc := 82) C dX12_findTops_82 2 rfl ?_
        refine mg_iload_n (pc := 83) C dX12_findTops_83 1 rfl ?_
        refine mg_cvV (pc := 84) C (fun ad => [.int y2, .int x1]) (met_noteFit y2 x1) gX12_findTops_X12_noteFit rfl ⟨rfl, rfl⟩ nd_noteFit ⟨Nat.le_of_ble_eq_true rfl, Nat.le_of_ble_eq_true rfl⟩ rfl rfl (Nat.le_of_ble_eq_true rfl) dX12_findTops_84 hF (fun h12 hF => ?_)
        exact hF
  · intro y2 h hF
    refine mg_aload_n (pc := 87) C dX12_findTops_87 0 rfl ?_
    refine mg_iload_n (pc := 88) C dX12_findTops_88 2 rfl ?_
    refine mg_cvI (pc := 89) C (fun ad => [.int y2]) (met_nextTops y2) gX12_findTops_X12_nextTops rfl ⟨rfl, rfl⟩ nd_nextTops ⟨Nat.le_of_ble_eq_true rfl, Nat.le_of_ble_eq_true rfl⟩ rfl rfl (Nat.le_of_ble_eq_true rfl) dX12_findTops_89 hF (fun r14 h13 hF => ?_)
    refine mg_istore_n (pc := 92) (lv2 := [(2, .int r14), (0, .ref (mg_ad X 0)), (1, .int x1)]) C dX12_findTops_92 3 hnL (by decide) rfl ?_
    refine mg_goto (pc := 93) 64 C dX12_findTops_93 (by decide) ?_
    refine mg_sub (lv2 := [(0, .ref (mg_ad X 0)), (1, .int x1), (2, .int r14)]) [1, 2, 0] rfl ?_
    exact hF
  · skip
    refine mg_aload_n (pc := 0) C dX12_findTops_0 0 rfl ?_
    refine mg_iconst (pc := 1) (v := 0) C dX12_findTops_1 (by decide) ?_
    refine mg_puti (pc := 2) C inm_findTops 53 (by decide) rfl (by decide) dX12_findTops_2 (List.mem_of_getElem? (i := 1) rfl) rfl (tyX12_ok 53 (by decide)) (fun h1 eh1 => ?_)
    have hF := hF h1 eh1
    refine mg_aload_n (pc := 5) C dX12_findTops_5 0 rfl ?_
    refine mg_bipush (pc := 6) (v := (-2)) C dX12_findTops_6 (by decide) ?_
    refine mg_puti (pc := 8) C inm_findTops 54 (by decide) rfl (by decide) dX12_findTops_8 (List.mem_of_getElem? (i := 2) rfl) rfl (tyX12_ok 54 (by decide)) (fun h2 eh2 => ?_)
    have hF := hF h2 eh2
    refine mg_aload_n (pc := 11) C dX12_findTops_11 0 rfl ?_
    refine mg_iconst (pc := 12) (v := 0) C dX12_findTops_12 (by decide) ?_
    refine mg_puti (pc := 13) C inm_findTops 55 (by decide) rfl (by decide) dX12_findTops_13 (List.mem_of_getElem? (i := 3) rfl) rfl (tyX12_ok 55 (by decide)) (fun h3 eh3 => ?_)
    have hF := hF h3 eh3
    refine mg_aload_n (pc := 16) C dX12_findTops_16 0 rfl ?_
    refine mg_iconst (pc := 17) (v := 0) C dX12_findTops_17 (by decide) ?_
    refine mg_puti (pc := 18) C inm_findTops 56 (by decide) rfl (by decide) dX12_findTops_18 (List.mem_of_getElem? (i := 4) rfl) rfl (tyX12_ok 56 (by decide)) (fun h4 eh4 => ?_)
    have hF := hF h4 eh4
    refine mg_iconst (pc := 21) (v := 0) C dX12_findTops_21 (by decide) ?_
    refine mg_istore_n (pc := 22) (lv2 := [(2, .int 0), (0, .ref (mg_ad X 0)), (1, .int x1)]) C dX12_findTops_22 3 hnL (by decide) rfl ?_
    refine mg_sub (lv2 := [(0, .ref (mg_ad X 0)), (1, .int x1), (2, .int 0)]) [1, 2, 0] rfl ?_
    exact hF
def rm_askWhen : Room := { frames := 1, cells := 0, slots := 0, locals := 21 }
theorem nd_askWhen : yX12_askWhen.cls = RX12 ∧ yX12_askWhen.cls ≠ "java/lang/invoke/MethodHandle" ∧ yX12_askWhen.cls ≠ "java/lang/invoke/VarHandle" ∧ (parseMethodDescriptor yX12_askWhen.desc).map (fun d => d.parameters.length) = some 0 := by decide +kernel
theorem inm_askWhen : ∀ w ∈ wsX120, w ∈ wsX12_askWhen := fun _ h9 => List.mem_cons_of_mem _ (List.mem_append_right _ h9)
set_option maxHeartbeats 4000000 in
set_option maxRecDepth 100000 in
theorem met_askWhen : mg_MI yX12_askWhen wsX12_askWhen rm_askWhen (fun ad => [.ref (ad 0)]) (fun Q h => wp_askWhen Q h) := by
  refine mg_startI (cc := cX12_askWhen) (maxL := 4) (by decide) rfl rfl (fun ad => Nat.le_of_ble_eq_true rfl) (fun X Q h C hnL E hw => ?_)
  unfold wp_askWhen at hw
  refine mg_sub (lv2 := [(0, .ref (mg_ad X 0))]) [0] rfl ?_
  refine mg_use (hw (fun (y1 : Int32) (y2 : Int32) (h : mg_H) => mg_W X 4 [(0, .ref (mg_ad X 0)), (1, .int y1), (2, .int y2)] [] h) (fun (y1 : Int32) (y2 : Int32) (h : mg_H) => mg_W X 65 [(0, .ref (mg_ad X 0)), (1, .int y1), (2, .int y2)] [] h) (fun (y1 : Int32) (y2 : Int32) (s0 : Int32) (h : mg_H) => mg_W X 70 [(0, .ref (mg_ad X 0)), (1, .int y1), (2, .int y2)] [.int s0] h) (fun (y2 : Int32) (s0 : Int32) (h : mg_H) => mg_W X 80 [(0, .ref (mg_ad X 0)), (2, .int y2)] [.int s0] h) ?_ ?_ ?_ ?_) (fun hF => ?_)
  · intro y1 y2 h hF
    refine mg_iload_n (pc := 4) C dX12_askWhen_4 2 rfl ?_
    refine mg_bipush (pc := 5) (v := 41) C dX12_askWhen_5 (by decide) ?_
    refine mg_icmp_ge (pc := 7) 87 C dX12_askWhen_7 (by decide) (fun hc => ?_) (fun hc => ?_)
    · have hF := hF.1 hc
      refine mg_iload_n (pc := 87) C dX12_askWhen_87 1 rfl ?_
      exact mg_retI (pc := 88) C E dX12_askWhen_88 hF
    · have hF := hF.2 hc
      refine mg_aload_n (pc := 10) C dX12_askWhen_10 0 rfl ?_
      refine mg_geti (pc := 11) C inm_askWhen 53 (by decide) rfl (by decide) dX12_askWhen_11 (List.mem_of_getElem? (i := 1) rfl) ?_
      refine mg_if_le (pc := 14) 87 C dX12_askWhen_14 (by decide) (fun hc => ?_) (fun hc => ?_)
      · have hF := hF.1 hc
        refine mg_iload_n (pc := 87) C dX12_askWhen_87 1 rfl ?_
        exact mg_retI (pc := 88) C E dX12_askWhen_88 hF
      · have hF := hF.2 hc
        refine mg_iload_n (pc := 17) C dX12_askWhen_17 1 rfl ?_
        refine mg_iconst (pc := 18) (v := (-1)) C dX12_askWhen_18 (by decide) ?_
        refine mg_icmp_eq (pc := 19) 65 C dX12_askWhen_19 (by decide) (fun hc => ?_) (fun hc => ?_)
        · have hF := hF.1 hc
          exact hF
        · have hF := hF.2 hc
          refine mg_aload_n (pc := 22) C dX12_askWhen_22 0 rfl ?_
          refine mg_getr (pc := 23) C inm_askWhen 58 (by decide) (by decide) dX12_askWhen_23 (List.mem_of_getElem? (i := 2) rfl) ?_
          refine mg_iload_n (pc := 26) C dX12_askWhen_26 2 rfl ?_
          obtain ⟨hi, hF⟩ := hF
          refine mg_iald (pc := 27) C (by decide) rfl hi dX12_askWhen_27 ?_
          refine mg_aload_n (pc := 28) C dX12_askWhen_28 0 rfl ?_
          refine mg_geti (pc := 29) C inm_askWhen 53 (by decide) rfl (by decide) dX12_askWhen_29 (List.mem_of_getElem? (i := 1) rfl) ?_
          refine mg_aload_n (pc := 32) C dX12_askWhen_32 0 rfl ?_
          refine mg_getr (pc := 33) C inm_askWhen 58 (by decide) (by decide) dX12_askWhen_33 (List.mem_of_getElem? (i := 2) rfl) ?_
          refine mg_iload_n (pc := 36) C dX12_askWhen_36 2 rfl ?_
          obtain ⟨hi, hF⟩ := hF
          refine mg_iald (pc := 37) C (by decide) rfl hi dX12_askWhen_37 ?_
          refine mg_isub (pc := 38) C dX12_askWhen_38 ?_
          refine mg_csI (pc := 39) C (fun ad => [.int (mg_i h 58 y2.toNatClampNeg), .int ((mg_i h 0 53) - (mg_i h 58 y2.toNatClampNeg))]) (met_greater (mg_i h 58 y2.toNatClampNeg) ((mg_i h 0 53) - (mg_i h 58 y2.toNatClampNeg))) gX12_askWhen_X12_greater rfl ⟨rfl, rfl⟩ nd_greater.2 ⟨Nat.le_of_ble_eq_true rfl, Nat.le_of_ble_eq_true rfl⟩ rfl rfl (Nat.le_of_ble_eq_true rfl) dX12_askWhen_39 hF (fun r2 h1 hF => ?_)
          refine mg_aload_n (pc := 42) C dX12_askWhen_42 0 rfl ?_
          refine mg_getr (pc := 43) C inm_askWhen 58 (by decide) (by decide) dX12_askWhen_43 (List.mem_of_getElem? (i := 2) rfl) ?_
          refine mg_iload_n (pc := 46) C dX12_askWhen_46 1 rfl ?_
          obtain ⟨hi, hF⟩ := hF
          refine mg_iald (pc := 47) C (by decide) rfl hi dX12_askWhen_47 ?_
          refine mg_aload_n (pc := 48) C dX12_askWhen_48 0 rfl ?_
          refine mg_geti (pc := 49) C inm_askWhen 53 (by decide) rfl (by decide) dX12_askWhen_49 (List.mem_of_getElem? (i := 1) rfl) ?_
          refine mg_aload_n (pc := 52) C dX12_askWhen_52 0 rfl ?_
          refine mg_getr (pc := 53) C inm_askWhen 58 (by decide) (by decide) dX12_askWhen_53 (List.mem_of_getElem? (i := 2) rfl) ?_
          refine mg_iload_n (pc := 56) C dX12_askWhen_56 1 rfl ?_
          obtain ⟨hi, hF⟩ := hF
          refine mg_iald (pc := 57) C (by decide) rfl hi dX12_askWhen_57 ?_
          refine mg_isub (pc := 58) C dX12_askWhen_58 ?_
          refine mg_csI (pc := 59) C (fun ad => [.int (mg_i h1 58 y1.toNatClampNeg), .int ((mg_i h1 0 53) - (mg_i h1 58 y1.toNatClampNeg))]) (met_greater (mg_i h1 58 y1.toNatClampNeg) ((mg_i h1 0 53) - (mg_i h1 58 y1.toNatClampNeg))) gX12_askWhen_X12_greater rfl ⟨rfl, rfl⟩ nd_greater.2 ⟨Nat.le_of_ble_eq_true rfl, Nat.le_of_ble_eq_true rfl⟩ rfl rfl (Nat.le_of_ble_eq_true rfl) dX12_askWhen_59 hF (fun r4 h3 hF => ?_)
          refine mg_icmp_ge (pc := 62) 69 C dX12_askWhen_62 (by decide) (fun hc => ?_) (fun hc => ?_)
          · have hF := hF.1 hc
            refine mg_iconst (pc := 69) (v := 0) C dX12_askWhen_69 (by decide) ?_
            exact hF
          · have hF := hF.2 hc
            exact hF
  · intro y1 y2 h hF
    refine mg_iconst (pc := 65) (v := 1) C dX12_askWhen_65 (by decide) ?_
    refine mg_goto (pc := 66) 70 C dX12_askWhen_66 (by decide) ?_
    exact hF
  · intro y1 y2 s0 h hF
    refine mg_istore_n (pc := 70) (lv2 := [(3, .int s0), (0, .ref (mg_ad X 0)), (1, .int y1), (2, .int y2)]) C dX12_askWhen_70 4 hnL (by decide) rfl ?_
    refine mg_iload_n (pc := 71) C dX12_askWhen_71 0 rfl ?_
    refine mg_if_eq (pc := 72) 79 C dX12_askWhen_72 (by decide) (fun hc => ?_) (fun hc => ?_)
    · have hF := hF.1 hc
      refine mg_iload_n (pc := 79) C dX12_askWhen_79 2 rfl ?_
      refine mg_sub (lv2 := [(0, .ref (mg_ad X 0)), (2, .int y2)]) [1, 3] rfl ?_
      exact hF
    · have hF := hF.2 hc
      refine mg_iload_n (pc := 75) C dX12_askWhen_75 3 rfl ?_
      refine mg_goto (pc := 76) 80 C dX12_askWhen_76 (by decide) ?_
      refine mg_sub (lv2 := [(0, .ref (mg_ad X 0)), (2, .int y2)]) [1, 3] rfl ?_
      exact hF
  · intro y2 s0 h hF
    refine mg_istore_n (pc := 80) (lv2 := [(1, .int s0), (0, .ref (mg_ad X 0)), (2, .int y2)]) C dX12_askWhen_80 4 hnL (by decide) rfl ?_
    obtain ⟨z5, ez5⟩ : ∃ y : Int32, y = y2 + 1 := ⟨_, rfl⟩
    have hF := hF z5 ez5
    refine mg_iinc (pc := 81) (v := z5) (lv2 := [(2, .int z5), (1, .int s0), (0, .ref (mg_ad X 0))]) C dX12_askWhen_81 2 rfl (by rw [ez5]; rfl) 4 hnL (by decide) rfl ?_
    refine mg_goto (pc := 84) 4 C dX12_askWhen_84 (by decide) ?_
    refine mg_sub (lv2 := [(0, .ref (mg_ad X 0)), (1, .int s0), (2, .int z5)]) [2, 1, 0] rfl ?_
    exact hF
  · skip
    refine mg_iconst (pc := 0) (v := (-1)) C dX12_askWhen_0 (by decide) ?_
    refine mg_istore_n (pc := 1) (lv2 := [(1, .int (-1)), (0, .ref (mg_ad X 0))]) C dX12_askWhen_1 4 hnL (by decide) rfl ?_
    refine mg_iconst (pc := 2) (v := 1) C dX12_askWhen_2 (by decide) ?_
    refine mg_istore_n (pc := 3) (lv2 := [(2, .int 1), (1, .int (-1)), (0, .ref (mg_ad X 0))]) C dX12_askWhen_3 4 hnL (by decide) rfl ?_
    refine mg_sub (lv2 := [(0, .ref (mg_ad X 0)), (1, .int (-1)), (2, .int 1)]) [2, 1, 0] rfl ?_
    exact hF
def rm_sure : Room := { frames := 0, cells := 0, slots := 0, locals := 0 }
theorem nd_sure : yX12_sure.cls = RX12 ∧ yX12_sure.cls ≠ "java/lang/invoke/MethodHandle" ∧ yX12_sure.cls ≠ "java/lang/invoke/VarHandle" ∧ (parseMethodDescriptor yX12_sure.desc).map (fun d => d.parameters.length) = some 1 := by decide +kernel
theorem inm_sure : ∀ w ∈ wsX120, w ∈ wsX12_sure := fun _ h9 => List.mem_cons_of_mem _ (List.mem_append_right _ h9)
set_option maxHeartbeats 4000000 in
set_option maxRecDepth 100000 in
theorem met_sure (x1 : Int32) : mg_MI yX12_sure wsX12_sure rm_sure (fun ad => [.ref (ad 0), .int x1]) (fun Q h => wp_sure Q x1 h) := by
  refine mg_startI (cc := cX12_sure) (maxL := 3) (by decide) rfl rfl (fun ad => Nat.le_of_ble_eq_true rfl) (fun X Q h C hnL E hw => ?_)
  unfold wp_sure at hw
  refine mg_sub (lv2 := [(0, .ref (mg_ad X 0)), (1, .int x1)]) [0, 1] rfl ?_
  refine mg_use (hw (fun (y2 : Int32) (h : mg_H) => mg_W X 2 [(0, .ref (mg_ad X 0)), (1, .int x1), (2, .int y2)] [] h) ?_) (fun hF => ?_)
  · intro y2 h hF
    refine mg_iload_n (pc := 2) C dX12_sure_2 2 rfl ?_
    refine mg_bipush (pc := 3) (v := 8) C dX12_sure_3 (by decide) ?_
    refine mg_icmp_ge (pc := 5) 28 C dX12_sure_5 (by decide) (fun hc => ?_) (fun hc => ?_)
    · have hF := hF.1 hc
      refine mg_iconst (pc := 28) (v := (-1)) C dX12_sure_28 (by decide) ?_
      exact mg_retI (pc := 29) C E dX12_sure_29 hF
    · have hF := hF.2 hc
      refine mg_aload_n (pc := 8) C dX12_sure_8 0 rfl ?_
      refine mg_getr (pc := 9) C inm_sure 57 (by decide) (by decide) dX12_sure_9 (List.mem_of_getElem? (i := 1) rfl) ?_
      refine mg_iload_n (pc := 12) C dX12_sure_12 1 rfl ?_
      obtain ⟨hi, hF⟩ := hF
      refine mg_iald (pc := 13) C (by decide) rfl hi dX12_sure_13 ?_
      refine mg_iconst (pc := 14) (v := 1) C dX12_sure_14 (by decide) ?_
      refine mg_iload_n (pc := 15) C dX12_sure_15 2 rfl ?_
      refine mg_ishl (pc := 16) C dX12_sure_16 ?_
      refine mg_icmp_ne (pc := 17) 22 C dX12_sure_17 (by decide) (fun hc => ?_) (fun hc => ?_)
      · have hF := hF.1 hc
        obtain ⟨z1, ez1⟩ : ∃ y : Int32, y = y2 + 1 := ⟨_, rfl⟩
        have hF := hF z1 ez1
        refine mg_iinc (pc := 22) (v := z1) (lv2 := [(2, .int z1), (0, .ref (mg_ad X 0)), (1, .int x1)]) C dX12_sure_22 2 rfl (by rw [ez1]; rfl) 3 hnL (by decide) rfl ?_
        refine mg_goto (pc := 25) 2 C dX12_sure_25 (by decide) ?_
        refine mg_sub (lv2 := [(0, .ref (mg_ad X 0)), (1, .int x1), (2, .int z1)]) [1, 2, 0] rfl ?_
        exact hF
      · have hF := hF.2 hc
        refine mg_iload_n (pc := 20) C dX12_sure_20 2 rfl ?_
        exact mg_retI (pc := 21) C E dX12_sure_21 hF
  · skip
    refine mg_iconst (pc := 0) (v := 0) C dX12_sure_0 (by decide) ?_
    refine mg_istore_n (pc := 1) (lv2 := [(2, .int 0), (0, .ref (mg_ad X 0)), (1, .int x1)]) C dX12_sure_1 3 hnL (by decide) rfl ?_
    refine mg_sub (lv2 := [(0, .ref (mg_ad X 0)), (1, .int x1), (2, .int 0)]) [1, 2, 0] rfl ?_
    exact hF
def rm_fits : Room := { frames := 9, cells := 0, slots := 0, locals := 196 }
theorem nd_fits : yX12_fits.cls = RX12 ∧ yX12_fits.cls ≠ "java/lang/invoke/MethodHandle" ∧ yX12_fits.cls ≠ "java/lang/invoke/VarHandle" ∧ (parseMethodDescriptor yX12_fits.desc).map (fun d => d.parameters.length) = some 4 := by decide +kernel
theorem inm_fits : ∀ w ∈ wsX120, w ∈ wsX12_fits := fun _ h9 => List.mem_cons_of_mem _ (List.mem_append_right _ h9)
set_option maxHeartbeats 4000000 in
set_option maxRecDepth 100000 in
theorem met_fits (x1 : Int32) (x2 : Int32) (x3 : Int32) (x4 : Int32) : mg_MI yX12_fits wsX12_fits rm_fits (fun ad => [.ref (ad 0), .int x1, .int x2, .int x3, .int x4]) (fun Q h => wp_fits Q x1 x2 x3 x4 h) := by
  refine mg_startI (cc := cX12_fits) (maxL := 5) (by decide) rfl rfl (fun ad => Nat.le_of_ble_eq_true rfl) (fun X Q h C hnL E hw => ?_)
  unfold wp_fits at hw
  refine mg_sub (lv2 := [(0, .ref (mg_ad X 0)), (1, .int x1), (2, .int x2), (3, .int x3), (4, .int x4)]) [0, 1, 2, 3, 4] rfl ?_
  have hF := hw
  refine mg_aload_n (pc := 0) C dX12_fits_0 0 rfl ?_
  refine mg_iconst (pc := 1) (v := 0) C dX12_fits_1 (by decide) ?_
  refine mg_puti (pc := 2) C inm_fits 0 (by decide) rfl (by decide) dX12_fits_2 (List.mem_of_getElem? (i := 1) rfl) rfl (tyX12_ok 0 (by decide)) (fun h1 eh1 => ?_)
  have hF := hF h1 eh1
  refine mg_aload_n (pc := 5) C dX12_fits_5 0 rfl ?_
  refine mg_iload_n (pc := 6) C dX12_fits_6 2 rfl ?_
  refine mg_cvI (pc := 7) C (fun ad => [.int x2]) (met_hasDay x2) gX12_fits_X12_hasDay rfl ⟨rfl, rfl⟩ nd_hasDay ⟨Nat.le_of_ble_eq_true rfl, Nat.le_of_ble_eq_true rfl⟩ rfl rfl (Nat.le_of_ble_eq_true rfl) dX12_fits_7 hF (fun r3 h2 hF => ?_)
  refine mg_if_eq (pc := 10) 29 C dX12_fits_10 (by decide) (fun hc => ?_) (fun hc => ?_)
  · have hF := hF.1 hc
    refine mg_bipush (pc := 29) (v := (-2)) C dX12_fits_29 (by decide) ?_
    exact mg_retI (pc := 31) C E dX12_fits_31 hF
  · have hF := hF.2 hc
    refine mg_aload_n (pc := 13) C dX12_fits_13 0 rfl ?_
    refine mg_iload_n (pc := 14) C dX12_fits_14 3 rfl ?_
    refine mg_cvI (pc := 15) C (fun ad => [.int x3]) (met_hasLog x3) gX12_fits_X12_hasLog rfl ⟨rfl, rfl⟩ nd_hasLog ⟨Nat.le_of_ble_eq_true rfl, Nat.le_of_ble_eq_true rfl⟩ rfl rfl (Nat.le_of_ble_eq_true rfl) dX12_fits_15 hF (fun r5 h4 hF => ?_)
    refine mg_if_eq (pc := 18) 29 C dX12_fits_18 (by decide) (fun hc => ?_) (fun hc => ?_)
    · have hF := hF.1 hc
      refine mg_bipush (pc := 29) (v := (-2)) C dX12_fits_29 (by decide) ?_
      exact mg_retI (pc := 31) C E dX12_fits_31 hF
    · have hF := hF.2 hc
      refine mg_aload_n (pc := 21) C dX12_fits_21 0 rfl ?_
      refine mg_iload_n (pc := 22) C dX12_fits_22 1 rfl ?_
      refine mg_cvI (pc := 23) C (fun ad => [.int x1]) (met_hand x1) gX12_fits_X12_hand rfl ⟨rfl, rfl⟩ nd_hand ⟨Nat.le_of_ble_eq_true rfl, Nat.le_of_ble_eq_true rfl⟩ rfl rfl (Nat.le_of_ble_eq_true rfl) dX12_fits_23 hF (fun r7 h6 hF => ?_)
      refine mg_if_ne (pc := 26) 32 C dX12_fits_26 (by decide) (fun hc => ?_) (fun hc => ?_)
      · have hF := hF.1 hc
        refine mg_aload_n (pc := 32) C dX12_fits_32 0 rfl ?_
        refine mg_iload (pc := 33) C dX12_fits_33 4 rfl ?_
        refine mg_bipush (pc := 35) (v := 10) C dX12_fits_35 (by decide) ?_
        refine mg_isub (pc := 37) C dX12_fits_37 ?_
        refine mg_cvV (pc := 38) C (fun ad => [.int (x4 - 10)]) (met_findTops (x4 - 10)) gX12_fits_X12_findTops rfl ⟨rfl, rfl⟩ nd_findTops ⟨Nat.le_of_ble_eq_true rfl, Nat.le_of_ble_eq_true rfl⟩ rfl rfl (Nat.le_of_ble_eq_true rfl) dX12_fits_38 hF (fun h8 hF => ?_)
        refine mg_iload (pc := 41) C dX12_fits_41 4 rfl ?_
        refine mg_bipush (pc := 43) (v := 10) C dX12_fits_43 (by decide) ?_
        refine mg_icmp_lt (pc := 45) 53 C dX12_fits_45 (by decide) (fun hc => ?_) (fun hc => ?_)
        · have hF := hF.1 hc
          refine mg_iload (pc := 53) C dX12_fits_53 4 rfl ?_
          refine mg_iconst (pc := 55) (v := 4) C dX12_fits_55 (by decide) ?_
          refine mg_bipush (pc := 56) (v := 7) C dX12_fits_56 (by decide) ?_
          refine mg_csI (pc := 58) C (fun ad => [.int x4, .int 4, .int 7]) (met_in x4 4 7) gX12_fits_X12_in rfl ⟨rfl, rfl⟩ nd_in.2 ⟨Nat.le_of_ble_eq_true rfl, Nat.le_of_ble_eq_true rfl⟩ rfl rfl (Nat.le_of_ble_eq_true rfl) dX12_fits_58 hF (fun r10 h9 hF => ?_)
          refine mg_if_eq (pc := 61) 73 C dX12_fits_61 (by decide) (fun hc => ?_) (fun hc => ?_)
          · have hF := hF.1 hc
            refine mg_iload (pc := 73) C dX12_fits_73 4 rfl ?_
            by_cases hs0 : x4 = 0
            · have hF := hF.1 hs0
              refine mg_tabIn (pc := 75) 104 C dX12_fits_75 (by rw [hs0]; decide) (by rw [hs0]; decide) (off := 29) (by rw [hs0]; rfl) (by decide) ?_
              refine mg_aload_n (pc := 104) C dX12_fits_104 0 rfl ?_
              refine mg_geti (pc := 105) C inm_fits 53 (by decide) rfl (by decide) dX12_fits_105 (List.mem_of_getElem? (i := 3) rfl) ?_
              exact mg_retI (pc := 108) C E dX12_fits_108 hF
            have hF := hF.2
            by_cases hs1 : x4 = 1
            · have hF := hF.1 hs1
              refine mg_tabIn (pc := 75) 109 C dX12_fits_75 (by rw [hs1]; decide) (by rw [hs1]; decide) (off := 34) (by rw [hs1]; rfl) (by decide) ?_
              refine mg_aload_n (pc := 109) C dX12_fits_109 0 rfl ?_
              refine mg_cvI (pc := 110) C (fun ad => []) (met_askWhen) gX12_fits_X12_askWhen rfl ⟨rfl, rfl⟩ nd_askWhen ⟨Nat.le_of_ble_eq_true rfl, Nat.le_of_ble_eq_true rfl⟩ rfl rfl (Nat.le_of_ble_eq_true rfl) dX12_fits_110 hF (fun r12 h11 hF => ?_)
              exact mg_retI (pc := 113) C E dX12_fits_113 hF
            have hF := hF.2
            by_cases hs2 : x4 = 2
            · have hF := hF.1 hs2
              refine mg_tabIn (pc := 75) 114 C dX12_fits_75 (by rw [hs2]; decide) (by rw [hs2]; decide) (off := 39) (by rw [hs2]; rfl) (by decide) ?_
              refine mg_aload_n (pc := 114) C dX12_fits_114 0 rfl ?_
              refine mg_geti (pc := 115) C inm_fits 55 (by decide) rfl (by decide) dX12_fits_115 (List.mem_of_getElem? (i := 4) rfl) ?_
              exact mg_retI (pc := 118) C E dX12_fits_118 hF
            have hF := hF.2
            by_cases hs3 : x4 = 3
            · have hF := hF.1 hs3
              refine mg_tabIn (pc := 75) 119 C dX12_fits_75 (by rw [hs3]; decide) (by rw [hs3]; decide) (off := 44) (by rw [hs3]; rfl) (by decide) ?_
              refine mg_aload_n (pc := 119) C dX12_fits_119 0 rfl ?_
              refine mg_geti (pc := 120) C inm_fits 56 (by decide) rfl (by decide) dX12_fits_120 (List.mem_of_getElem? (i := 5) rfl) ?_
              exact mg_retI (pc := 123) C E dX12_fits_123 hF
            have hF := hF.2
            have hF := hF hs0 hs1 hs2 hs3
            refine mg_tabOut (pc := 75) 124 C dX12_fits_75 (mg_swd x4 0 3 (fun v h1 h2 => ?_)) (by decide) ?_
            · rcases (show v = 0 ∨ v = 1 ∨ v = 2 ∨ v = 3 by omega) with rfl | rfl | rfl | rfl
              · exact hs0
              · exact hs1
              · exact hs2
              · exact hs3
            refine mg_bipush (pc := 124) (v := (-2)) C dX12_fits_124 (by decide) ?_
            exact mg_retI (pc := 126) C E dX12_fits_126 hF
          · have hF := hF.2 hc
            refine mg_aload_n (pc := 64) C dX12_fits_64 0 rfl ?_
            refine mg_iload (pc := 65) C dX12_fits_65 4 rfl ?_
            refine mg_iconst (pc := 67) (v := 4) C dX12_fits_67 (by decide) ?_
            refine mg_isub (pc := 68) C dX12_fits_68 ?_
            refine mg_cvI (pc := 69) C (fun ad => [.int (x4 - 4)]) (met_sure (x4 - 4)) gX12_fits_X12_sure rfl ⟨rfl, rfl⟩ nd_sure ⟨Nat.le_of_ble_eq_true rfl, Nat.le_of_ble_eq_true rfl⟩ rfl rfl (Nat.le_of_ble_eq_true rfl) dX12_fits_69 hF (fun r14 h13 hF => ?_)
            exact mg_retI (pc := 72) C E dX12_fits_72 hF
        · have hF := hF.2 hc
          refine mg_aload_n (pc := 48) C dX12_fits_48 0 rfl ?_
          refine mg_geti (pc := 49) C inm_fits 54 (by decide) rfl (by decide) dX12_fits_49 (List.mem_of_getElem? (i := 2) rfl) ?_
          exact mg_retI (pc := 52) C E dX12_fits_52 hF
      · have hF := hF.2 hc
        refine mg_bipush (pc := 29) (v := (-2)) C dX12_fits_29 (by decide) ?_
        exact mg_retI (pc := 31) C E dX12_fits_31 hF
def rm_draw : Room := { frames := 0, cells := 0, slots := 0, locals := 0 }
theorem nd_draw : yX12_draw.cls = RX12 ∧ yX12_draw.cls ≠ "java/lang/invoke/MethodHandle" ∧ yX12_draw.cls ≠ "java/lang/invoke/VarHandle" ∧ (parseMethodDescriptor yX12_draw.desc).map (fun d => d.parameters.length) = some 1 := by decide +kernel
theorem inm_draw : ∀ w ∈ wsX120, w ∈ wsX12_draw := fun _ h9 => List.mem_cons_of_mem _ (List.mem_append_right _ h9)
set_option maxHeartbeats 4000000 in
set_option maxRecDepth 100000 in
theorem met_draw (x1 : Int32) : mg_MI yX12_draw wsX12_draw rm_draw (fun ad => [.ref (ad 0), .int x1]) (fun Q h => wp_draw Q x1 h) := by
  refine mg_startI (cc := cX12_draw) (maxL := 2) (by decide) rfl rfl (fun ad => Nat.le_of_ble_eq_true rfl) (fun X Q h C hnL E hw => ?_)
  unfold wp_draw at hw
  refine mg_sub (lv2 := [(0, .ref (mg_ad X 0)), (1, .int x1)]) [0, 1] rfl ?_
  have hF := hw
  refine mg_aload_n (pc := 0) C dX12_draw_0 0 rfl ?_
  refine mg_aload_n (pc := 1) C dX12_draw_1 0 rfl ?_
  refine mg_geti (pc := 2) C inm_draw 59 (by decide) rfl (by decide) dX12_draw_2 (List.mem_of_getElem? (i := 1) rfl) ?_
  refine mg_ldcw (pc := 5) (v := 1103515245) C dX12_draw_5 (List.mem_of_getElem? (i := 2) rfl) ?_
  refine mg_imul (pc := 8) C dX12_draw_8 ?_
  refine mg_sipush (pc := 9) (v := 12345) C dX12_draw_9 (by decide) ?_
  refine mg_iadd (pc := 12) C dX12_draw_12 ?_
  refine mg_puti (pc := 13) C inm_draw 59 (by decide) rfl (by decide) dX12_draw_13 (List.mem_of_getElem? (i := 1) rfl) rfl (tyX12_ok 59 (by decide)) (fun h1 eh1 => ?_)
  have hF := hF h1 eh1
  refine mg_aload_n (pc := 16) C dX12_draw_16 0 rfl ?_
  refine mg_geti (pc := 17) C inm_draw 59 (by decide) rfl (by decide) dX12_draw_17 (List.mem_of_getElem? (i := 1) rfl) ?_
  refine mg_bipush (pc := 20) (v := 16) C dX12_draw_20 (by decide) ?_
  refine mg_iushr (pc := 22) C dX12_draw_22 ?_
  refine mg_iload_n (pc := 23) C dX12_draw_23 1 rfl ?_
  obtain ⟨hne, hF⟩ := hF
  refine mg_irem (pc := 24) C dX12_draw_24 hne ?_
  exact mg_retI (pc := 25) C E dX12_draw_25 hF
def rm_drawDeed : Room := { frames := 5, cells := 0, slots := 0, locals := 109 }
theorem nd_drawDeed : yX12_drawDeed.cls = RX12 ∧ yX12_drawDeed.cls ≠ "java/lang/invoke/MethodHandle" ∧ yX12_drawDeed.cls ≠ "java/lang/invoke/VarHandle" ∧ (parseMethodDescriptor yX12_drawDeed.desc).map (fun d => d.parameters.length) = some 0 := by decide +kernel
theorem inm_drawDeed : ∀ w ∈ wsX120, w ∈ wsX12_drawDeed := fun _ h9 => List.mem_cons_of_mem _ (List.mem_append_right _ h9)
set_option maxHeartbeats 4000000 in
set_option maxRecDepth 100000 in
theorem met_drawDeed : mg_MV yX12_drawDeed wsX12_drawDeed rm_drawDeed (fun ad => [.ref (ad 0)]) (fun Q h => wp_drawDeed Q h) := by
  refine mg_startV (cc := cX12_drawDeed) (maxL := 2) (by decide) rfl rfl (fun ad => Nat.le_of_ble_eq_true rfl) (fun X Q h C hnL E hw => ?_)
  unfold wp_drawDeed at hw
  refine mg_sub (lv2 := [(0, .ref (mg_ad X 0))]) [0] rfl ?_
  refine mg_use (hw (fun (s0 : Int32) (h : mg_H) => mg_W X 68 [(0, .ref (mg_ad X 0))] [.int s0, .ref (mg_ad X 0)] h) ?_) (fun hF => ?_)
  · intro s0 h hF
    refine mg_aload_n (pc := 68) C dX12_drawDeed_68 0 rfl ?_
    refine mg_aload_n (pc := 69) C dX12_drawDeed_69 0 rfl ?_
    refine mg_geti (pc := 70) C inm_drawDeed 24 (by decide) rfl (by decide) dX12_drawDeed_70 (List.mem_of_getElem? (i := 1) rfl) ?_
    refine mg_cvI (pc := 73) C (fun ad => [.int (mg_i h 0 24)]) (met_draw (mg_i h 0 24)) gX12_drawDeed_X12_draw rfl ⟨rfl, rfl⟩ nd_draw ⟨Nat.le_of_ble_eq_true rfl, Nat.le_of_ble_eq_true rfl⟩ rfl rfl (Nat.le_of_ble_eq_true rfl) dX12_drawDeed_73 hF (fun r8 h7 hF => ?_)
    refine mg_cvI (pc := 76) C (fun ad => [.int s0, .int r8]) (met_does s0 r8) gX12_drawDeed_X12_does rfl ⟨rfl, rfl⟩ nd_does ⟨Nat.le_of_ble_eq_true rfl, Nat.le_of_ble_eq_true rfl⟩ rfl rfl (Nat.le_of_ble_eq_true rfl) dX12_drawDeed_76 hF (fun r10 h9 hF => ?_)
    refine mg_pop (pc := 79) C dX12_drawDeed_79 rfl ?_
    exact mg_retV (pc := 80) C E dX12_drawDeed_80 hF
  · skip
    refine mg_aload_n (pc := 0) C dX12_drawDeed_0 0 rfl ?_
    refine mg_bipush (pc := 1) (v := 10) C dX12_drawDeed_1 (by decide) ?_
    refine mg_cvI (pc := 3) C (fun ad => [.int 10]) (met_draw 10) gX12_drawDeed_X12_draw rfl ⟨rfl, rfl⟩ nd_draw ⟨Nat.le_of_ble_eq_true rfl, Nat.le_of_ble_eq_true rfl⟩ rfl rfl (Nat.le_of_ble_eq_true rfl) dX12_drawDeed_3 hF (fun r2 h1 hF => ?_)
    refine mg_istore_n (pc := 6) (lv2 := [(1, .int r2), (0, .ref (mg_ad X 0))]) C dX12_drawDeed_6 2 hnL (by decide) rfl ?_
    refine mg_iload_n (pc := 7) C dX12_drawDeed_7 0 rfl ?_
    refine mg_iconst (pc := 8) (v := 3) C dX12_drawDeed_8 (by decide) ?_
    refine mg_icmp_ge (pc := 9) 29 C dX12_drawDeed_9 (by decide) (fun hc => ?_) (fun hc => ?_)
    · have hF := hF.1 hc
      refine mg_aload_n (pc := 29) C dX12_drawDeed_29 1 rfl ?_
      refine mg_geti (pc := 30) C inm_drawDeed 24 (by decide) rfl (by decide) dX12_drawDeed_30 (List.mem_of_getElem? (i := 1) rfl) ?_
      refine mg_if_le (pc := 33) 80 C dX12_drawDeed_33 (by decide) (fun hc => ?_) (fun hc => ?_)
      · have hF := hF.1 hc
        exact mg_retV (pc := 80) C E dX12_drawDeed_80 hF
      · have hF := hF.2 hc
        refine mg_aload_n (pc := 36) C dX12_drawDeed_36 1 rfl ?_
        refine mg_iload_n (pc := 37) C dX12_drawDeed_37 0 rfl ?_
        refine mg_bipush (pc := 38) (v := 6) C dX12_drawDeed_38 (by decide) ?_
        refine mg_icmp_ge (pc := 40) 47 C dX12_drawDeed_40 (by decide) (fun hc => ?_) (fun hc => ?_)
        · have hF := hF.1 hc
          refine mg_iload_n (pc := 47) C dX12_drawDeed_47 0 rfl ?_
          refine mg_bipush (pc := 48) (v := 6) C dX12_drawDeed_48 (by decide) ?_
          refine mg_icmp_ne (pc := 50) 57 C dX12_drawDeed_50 (by decide) (fun hc => ?_) (fun hc => ?_)
          · have hF := hF.1 hc
            refine mg_iload_n (pc := 57) C dX12_drawDeed_57 0 rfl ?_
            refine mg_bipush (pc := 58) (v := 9) C dX12_drawDeed_58 (by decide) ?_
            refine mg_icmp_ge (pc := 60) 67 C dX12_drawDeed_60 (by decide) (fun hc => ?_) (fun hc => ?_)
            · have hF := hF.1 hc
              refine mg_iconst (pc := 67) (v := 4) C dX12_drawDeed_67 (by decide) ?_
              refine mg_sub (lv2 := [(0, .ref (mg_ad X 0))]) [1] rfl ?_
              exact hF
            · have hF := hF.2 hc
              refine mg_iconst (pc := 63) (v := 3) C dX12_drawDeed_63 (by decide) ?_
              refine mg_goto (pc := 64) 68 C dX12_drawDeed_64 (by decide) ?_
              refine mg_sub (lv2 := [(0, .ref (mg_ad X 0))]) [1] rfl ?_
              exact hF
          · have hF := hF.2 hc
            refine mg_iconst (pc := 53) (v := 2) C dX12_drawDeed_53 (by decide) ?_
            refine mg_goto (pc := 54) 68 C dX12_drawDeed_54 (by decide) ?_
            refine mg_sub (lv2 := [(0, .ref (mg_ad X 0))]) [1] rfl ?_
            exact hF
        · have hF := hF.2 hc
          refine mg_iconst (pc := 43) (v := 1) C dX12_drawDeed_43 (by decide) ?_
          refine mg_goto (pc := 44) 68 C dX12_drawDeed_44 (by decide) ?_
          refine mg_sub (lv2 := [(0, .ref (mg_ad X 0))]) [1] rfl ?_
          exact hF
    · have hF := hF.2 hc
      refine mg_aload_n (pc := 12) C dX12_drawDeed_12 1 rfl ?_
      refine mg_iconst (pc := 13) (v := 0) C dX12_drawDeed_13 (by decide) ?_
      refine mg_iconst (pc := 14) (v := 1) C dX12_drawDeed_14 (by decide) ?_
      refine mg_aload_n (pc := 15) C dX12_drawDeed_15 1 rfl ?_
      refine mg_bipush (pc := 16) (v := 9) C dX12_drawDeed_16 (by decide) ?_
      refine mg_cvI (pc := 18) C (fun ad => [.int 9]) (met_draw 9) gX12_drawDeed_X12_draw rfl ⟨rfl, rfl⟩ nd_draw ⟨Nat.le_of_ble_eq_true rfl, Nat.le_of_ble_eq_true rfl⟩ rfl rfl (Nat.le_of_ble_eq_true rfl) dX12_drawDeed_18 hF (fun r4 h3 hF => ?_)
      refine mg_iadd (pc := 21) C dX12_drawDeed_21 ?_
      refine mg_cvI (pc := 22) C (fun ad => [.int 0, .int (1 + r4)]) (met_does 0 (1 + r4)) gX12_drawDeed_X12_does rfl ⟨rfl, rfl⟩ nd_does ⟨Nat.le_of_ble_eq_true rfl, Nat.le_of_ble_eq_true rfl⟩ rfl rfl (Nat.le_of_ble_eq_true rfl) dX12_drawDeed_22 hF (fun r6 h5 hF => ?_)
      refine mg_pop (pc := 25) C dX12_drawDeed_25 rfl ?_
      refine mg_goto (pc := 26) 80 C dX12_drawDeed_26 (by decide) ?_
      exact mg_retV (pc := 80) C E dX12_drawDeed_80 hF
def rm_drawn : Room := { frames := 6, cells := 0, slots := 0, locals := 130 }
theorem nd_drawn : yX12_drawn.cls = RX12 ∧ yX12_drawn.cls ≠ "java/lang/invoke/MethodHandle" ∧ yX12_drawn.cls ≠ "java/lang/invoke/VarHandle" ∧ (parseMethodDescriptor yX12_drawn.desc).map (fun d => d.parameters.length) = some 4 := by decide +kernel
theorem inm_drawn : ∀ w ∈ wsX120, w ∈ wsX12_drawn := fun _ h9 => List.mem_cons_of_mem _ (List.mem_append_right _ h9)
set_option maxHeartbeats 4000000 in
set_option maxRecDepth 100000 in
theorem met_drawn (x1 : Int32) (x2 : Int32) (x3 : Int32) (x4 : Int32) : mg_MI yX12_drawn wsX12_drawn rm_drawn (fun ad => [.ref (ad 0), .int x1, .int x2, .int x3, .int x4]) (fun Q h => wp_drawn Q x1 x2 x3 x4 h) := by
  refine mg_startI (cc := cX12_drawn) (maxL := 6) (by decide) rfl rfl (fun ad => Nat.le_of_ble_eq_true rfl) (fun X Q h C hnL E hw => ?_)
  unfold wp_drawn at hw
  refine mg_sub (lv2 := [(0, .ref (mg_ad X 0)), (1, .int x1), (2, .int x2), (3, .int x3), (4, .int x4)]) [0, 1, 2, 3, 4] rfl ?_
  refine mg_use (hw (fun (y5 : Int32) (h : mg_H) => mg_W X 37 [(0, .ref (mg_ad X 0)), (3, .int x3), (4, .int x4), (5, .int y5)] [] h) ?_) (fun hF => ?_)
  · intro y5 h hF
    refine mg_iload (pc := 37) C dX12_drawn_37 3 rfl ?_
    refine mg_iload_n (pc := 39) C dX12_drawn_39 1 rfl ?_
    refine mg_icmp_ge (pc := 40) 53 C dX12_drawn_40 (by decide) (fun hc => ?_) (fun hc => ?_)
    · have hF := hF.1 hc
      refine mg_aload_n (pc := 53) C dX12_drawn_53 0 rfl ?_
      refine mg_iload (pc := 54) C dX12_drawn_54 2 rfl ?_
      refine mg_cvI (pc := 56) C (fun ad => [.int x4]) (met_ofState x4) gX12_drawn_X12_ofState rfl ⟨rfl, rfl⟩ nd_ofState ⟨Nat.le_of_ble_eq_true rfl, Nat.le_of_ble_eq_true rfl⟩ rfl rfl (Nat.le_of_ble_eq_true rfl) dX12_drawn_56 hF (fun r9 h8 hF => ?_)
      exact mg_retI (pc := 59) C E dX12_drawn_59 hF
    · have hF := hF.2 hc
      refine mg_aload_n (pc := 43) C dX12_drawn_43 0 rfl ?_
      refine mg_cvV (pc := 44) C (fun ad => []) (met_drawDeed) gX12_drawn_X12_drawDeed rfl ⟨rfl, rfl⟩ nd_drawDeed ⟨Nat.le_of_ble_eq_true rfl, Nat.le_of_ble_eq_true rfl⟩ rfl rfl (Nat.le_of_ble_eq_true rfl) dX12_drawn_44 hF (fun h10 hF => ?_)
      obtain ⟨z11, ez11⟩ : ∃ y : Int32, y = y5 + 1 := ⟨_, rfl⟩
      have hF := hF z11 ez11
      refine mg_iinc (pc := 47) (v := z11) (lv2 := [(5, .int z11), (0, .ref (mg_ad X 0)), (3, .int x3), (4, .int x4)]) C dX12_drawn_47 3 rfl (by rw [ez11]; rfl) 6 hnL (by decide) rfl ?_
      refine mg_goto (pc := 50) 37 C dX12_drawn_50 (by decide) ?_
      refine mg_sub (lv2 := [(0, .ref (mg_ad X 0)), (3, .int x3), (4, .int x4), (5, .int z11)]) [1, 2, 3, 0] rfl ?_
      exact hF
  · skip
    refine mg_aload_n (pc := 0) C dX12_drawn_0 0 rfl ?_
    refine mg_iconst (pc := 1) (v := 0) C dX12_drawn_1 (by decide) ?_
    refine mg_puti (pc := 2) C inm_drawn 0 (by decide) rfl (by decide) dX12_drawn_2 (List.mem_of_getElem? (i := 1) rfl) rfl (tyX12_ok 0 (by decide)) (fun h1 eh1 => ?_)
    have hF := hF h1 eh1
    refine mg_iload_n (pc := 5) C dX12_drawn_5 3 rfl ?_
    refine mg_iconst (pc := 6) (v := 0) C dX12_drawn_6 (by decide) ?_
    refine mg_bipush (pc := 7) (v := 60) C dX12_drawn_7 (by decide) ?_
    refine mg_csI (pc := 9) C (fun ad => [.int x3, .int 0, .int 60]) (met_in x3 0 60) gX12_drawn_X12_in rfl ⟨rfl, rfl⟩ nd_in.2 ⟨Nat.le_of_ble_eq_true rfl, Nat.le_of_ble_eq_true rfl⟩ rfl rfl (Nat.le_of_ble_eq_true rfl) dX12_drawn_9 hF (fun r3 h2 hF => ?_)
    refine mg_if_eq (pc := 12) 23 C dX12_drawn_12 (by decide) (fun hc => ?_) (fun hc => ?_)
    · have hF := hF.1 hc
      refine mg_iconst (pc := 23) (v := (-1)) C dX12_drawn_23 (by decide) ?_
      exact mg_retI (pc := 24) C E dX12_drawn_24 hF
    · have hF := hF.2 hc
      refine mg_aload_n (pc := 15) C dX12_drawn_15 0 rfl ?_
      refine mg_iload_n (pc := 16) C dX12_drawn_16 1 rfl ?_
      refine mg_cvI (pc := 17) C (fun ad => [.int x1]) (met_hand x1) gX12_drawn_X12_hand rfl ⟨rfl, rfl⟩ nd_hand ⟨Nat.le_of_ble_eq_true rfl, Nat.le_of_ble_eq_true rfl⟩ rfl rfl (Nat.le_of_ble_eq_true rfl) dX12_drawn_17 hF (fun r5 h4 hF => ?_)
      refine mg_if_ne (pc := 20) 25 C dX12_drawn_20 (by decide) (fun hc => ?_) (fun hc => ?_)
      · have hF := hF.1 hc
        refine mg_aload_n (pc := 25) C dX12_drawn_25 0 rfl ?_
        refine mg_cvV (pc := 26) C (fun ad => []) (met_beginDay) gX12_drawn_X12_beginDay rfl ⟨rfl, rfl⟩ nd_beginDay ⟨Nat.le_of_ble_eq_true rfl, Nat.le_of_ble_eq_true rfl⟩ rfl rfl (Nat.le_of_ble_eq_true rfl) dX12_drawn_26 hF (fun h6 hF => ?_)
        refine mg_aload_n (pc := 29) C dX12_drawn_29 0 rfl ?_
        refine mg_iload_n (pc := 30) C dX12_drawn_30 2 rfl ?_
        refine mg_puti (pc := 31) C inm_drawn 59 (by decide) rfl (by decide) dX12_drawn_31 (List.mem_of_getElem? (i := 2) rfl) rfl (tyX12_ok 59 (by decide)) (fun h7 eh7 => ?_)
        have hF := hF h7 eh7
        refine mg_iconst (pc := 34) (v := 0) C dX12_drawn_34 (by decide) ?_
        refine mg_istore (pc := 35) (lv2 := [(5, .int 0), (0, .ref (mg_ad X 0)), (1, .int x1), (2, .int x2), (3, .int x3), (4, .int x4)]) C dX12_drawn_35 6 hnL (by decide) rfl ?_
        refine mg_sub (lv2 := [(0, .ref (mg_ad X 0)), (3, .int x3), (4, .int x4), (5, .int 0)]) [1, 4, 5, 0] rfl ?_
        exact hF
      · have hF := hF.2 hc
        refine mg_iconst (pc := 23) (v := (-1)) C dX12_drawn_23 (by decide) ?_
        exact mg_retI (pc := 24) C E dX12_drawn_24 hF
def rm_reachedTops : Room := { frames := 0, cells := 0, slots := 0, locals := 0 }
theorem nd_reachedTops : yX12_reachedTops.cls = RX12 ∧ yX12_reachedTops.cls ≠ "java/lang/invoke/MethodHandle" ∧ yX12_reachedTops.cls ≠ "java/lang/invoke/VarHandle" ∧ (parseMethodDescriptor yX12_reachedTops.desc).map (fun d => d.parameters.length) = some 0 := by decide +kernel
theorem inm_reachedTops : ∀ w ∈ wsX120, w ∈ wsX12_reachedTops := fun _ h9 => List.mem_cons_of_mem _ (List.mem_append_right _ h9)
set_option maxHeartbeats 4000000 in
set_option maxRecDepth 100000 in
theorem met_reachedTops : mg_MI yX12_reachedTops wsX12_reachedTops rm_reachedTops (fun ad => [.ref (ad 0)]) (fun Q h => wp_reachedTops Q h) := by
  refine mg_startI (cc := cX12_reachedTops) (maxL := 5) (by decide) rfl rfl (fun ad => Nat.le_of_ble_eq_true rfl) (fun X Q h C hnL E hw => ?_)
  unfold wp_reachedTops at hw
  refine mg_sub (lv2 := [(0, .ref (mg_ad X 0))]) [0] rfl ?_
  refine mg_use (hw (fun (y1 : Int32) (y2 : Int32) (h : mg_H) => mg_W X 4 [(0, .ref (mg_ad X 0)), (1, .int y1), (2, .int y2)] [] h) (fun (y1 : Int32) (y2 : Int32) (y3 : Int32) (y4 : Int32) (h : mg_H) => mg_W X 16 [(0, .ref (mg_ad X 0)), (1, .int y1), (2, .int y2), (3, .int y3), (4, .int y4)] [] h) (fun (y1 : Int32) (y2 : Int32) (y3 : Int32) (h : mg_H) => mg_W X 56 [(0, .ref (mg_ad X 0)), (1, .int y1), (2, .int y2), (3, .int y3)] [] h) (fun (y1 : Int32) (y2 : Int32) (y4 : Int32) (s0 : Int32) (h : mg_H) => mg_W X 49 [(0, .ref (mg_ad X 0)), (1, .int y1), (2, .int y2), (4, .int y4)] [.int s0] h) (fun (y2 : Int32) (s0 : Int32) (s1 : Int32) (h : mg_H) => mg_W X 66 [(0, .ref (mg_ad X 0)), (2, .int y2)] [.int s0, .int s1] h) ?_ ?_ ?_ ?_ ?_) (fun hF => ?_)
  · intro y1 y2 h hF
    refine mg_iload_n (pc := 4) C dX12_reachedTops_4 2 rfl ?_
    refine mg_sipush (pc := 5) (v := 4096) C dX12_reachedTops_5 (by decide) ?_
    refine mg_icmp_ge (pc := 8) 74 C dX12_reachedTops_8 (by decide) (fun hc => ?_) (fun hc => ?_)
    · have hF := hF.1 hc
      refine mg_iload_n (pc := 74) C dX12_reachedTops_74 1 rfl ?_
      exact mg_retI (pc := 75) C E dX12_reachedTops_75 hF
    · have hF := hF.2 hc
      refine mg_iconst (pc := 11) (v := 0) C dX12_reachedTops_11 (by decide) ?_
      refine mg_istore_n (pc := 12) (lv2 := [(3, .int 0), (0, .ref (mg_ad X 0)), (1, .int y1), (2, .int y2)]) C dX12_reachedTops_12 5 hnL (by decide) rfl ?_
      refine mg_iconst (pc := 13) (v := 0) C dX12_reachedTops_13 (by decide) ?_
      refine mg_istore (pc := 14) (lv2 := [(4, .int 0), (3, .int 0), (0, .ref (mg_ad X 0)), (1, .int y1), (2, .int y2)]) C dX12_reachedTops_14 5 hnL (by decide) rfl ?_
      refine mg_sub (lv2 := [(0, .ref (mg_ad X 0)), (1, .int y1), (2, .int y2), (3, .int 0), (4, .int 0)]) [2, 3, 4, 1, 0] rfl ?_
      exact hF
  · intro y1 y2 y3 y4 h hF
    refine mg_iload (pc := 16) C dX12_reachedTops_16 4 rfl ?_
    refine mg_bipush (pc := 18) (v := 30) C dX12_reachedTops_18 (by decide) ?_
    refine mg_icmp_gt (pc := 20) 56 C dX12_reachedTops_20 (by decide) (fun hc => ?_) (fun hc => ?_)
    · have hF := hF.1 hc
      refine mg_sub (lv2 := [(0, .ref (mg_ad X 0)), (1, .int y1), (2, .int y2), (3, .int y3)]) [0, 1, 2, 3] rfl ?_
      exact hF
    · have hF := hF.2 hc
      refine mg_iload_n (pc := 23) C dX12_reachedTops_23 3 rfl ?_
      refine mg_if_ne (pc := 24) 56 C dX12_reachedTops_24 (by decide) (fun hc => ?_) (fun hc => ?_)
      · have hF := hF.1 hc
        refine mg_sub (lv2 := [(0, .ref (mg_ad X 0)), (1, .int y1), (2, .int y2), (3, .int y3)]) [0, 1, 2, 3] rfl ?_
        exact hF
      · have hF := hF.2 hc
        refine mg_aload_n (pc := 27) C dX12_reachedTops_27 0 rfl ?_
        refine mg_getr (pc := 28) C inm_reachedTops 40 (by decide) (by decide) dX12_reachedTops_28 (List.mem_of_getElem? (i := 1) rfl) ?_
        refine mg_sipush (pc := 31) (v := 4096) C dX12_reachedTops_31 (by decide) ?_
        refine mg_iload (pc := 34) C dX12_reachedTops_34 4 rfl ?_
        refine mg_imul (pc := 36) C dX12_reachedTops_36 ?_
        refine mg_iload_n (pc := 37) C dX12_reachedTops_37 2 rfl ?_
        refine mg_iadd (pc := 38) C dX12_reachedTops_38 ?_
        obtain ⟨hi, hF⟩ := hF
        refine mg_iald (pc := 39) C (by decide) rfl hi dX12_reachedTops_39 ?_
        refine mg_iconst (pc := 40) (v := (-1)) C dX12_reachedTops_40 (by decide) ?_
        refine mg_icmp_eq (pc := 41) 48 C dX12_reachedTops_41 (by decide) (fun hc => ?_) (fun hc => ?_)
        · have hF := hF.1 hc
          refine mg_iconst (pc := 48) (v := 0) C dX12_reachedTops_48 (by decide) ?_
          refine mg_sub (lv2 := [(0, .ref (mg_ad X 0)), (1, .int y1), (2, .int y2), (4, .int y4)]) [0, 1, 2, 4] rfl ?_
          exact hF
        · have hF := hF.2 hc
          refine mg_iconst (pc := 44) (v := 1) C dX12_reachedTops_44 (by decide) ?_
          refine mg_goto (pc := 45) 49 C dX12_reachedTops_45 (by decide) ?_
          refine mg_sub (lv2 := [(0, .ref (mg_ad X 0)), (1, .int y1), (2, .int y2), (4, .int y4)]) [0, 1, 2, 4] rfl ?_
          exact hF
  · intro y1 y2 y3 h hF
    refine mg_iload_n (pc := 56) C dX12_reachedTops_56 1 rfl ?_
    refine mg_iload_n (pc := 57) C dX12_reachedTops_57 3 rfl ?_
    refine mg_if_eq (pc := 58) 65 C dX12_reachedTops_58 (by decide) (fun hc => ?_) (fun hc => ?_)
    · have hF := hF.1 hc
      refine mg_iconst (pc := 65) (v := 0) C dX12_reachedTops_65 (by decide) ?_
      refine mg_sub (lv2 := [(0, .ref (mg_ad X 0)), (2, .int y2)]) [0, 2] rfl ?_
      exact hF
    · have hF := hF.2 hc
      refine mg_iconst (pc := 61) (v := 1) C dX12_reachedTops_61 (by decide) ?_
      refine mg_goto (pc := 62) 66 C dX12_reachedTops_62 (by decide) ?_
      refine mg_sub (lv2 := [(0, .ref (mg_ad X 0)), (2, .int y2)]) [0, 2] rfl ?_
      exact hF
  · intro y1 y2 y4 s0 h hF
    refine mg_istore_n (pc := 49) (lv2 := [(3, .int s0), (0, .ref (mg_ad X 0)), (1, .int y1), (2, .int y2), (4, .int y4)]) C dX12_reachedTops_49 5 hnL (by decide) rfl ?_
    obtain ⟨z1, ez1⟩ : ∃ y : Int32, y = y4 + 1 := ⟨_, rfl⟩
    have hF := hF z1 ez1
    refine mg_iinc (pc := 50) (v := z1) (lv2 := [(4, .int z1), (3, .int s0), (0, .ref (mg_ad X 0)), (1, .int y1), (2, .int y2)]) C dX12_reachedTops_50 4 rfl (by rw [ez1]; rfl) 5 hnL (by decide) rfl ?_
    refine mg_goto (pc := 53) 16 C dX12_reachedTops_53 (by decide) ?_
    refine mg_sub (lv2 := [(0, .ref (mg_ad X 0)), (1, .int y1), (2, .int y2), (3, .int s0), (4, .int z1)]) [2, 3, 4, 1, 0] rfl ?_
    exact hF
  · intro y2 s0 s1 h hF
    refine mg_iadd (pc := 66) C dX12_reachedTops_66 ?_
    refine mg_topi (pc := 67) (fun z2 ez2 => ?_)
    have hF := hF z2 ez2
    refine mg_istore_n (pc := 67) (lv2 := [(1, .int z2), (0, .ref (mg_ad X 0)), (2, .int y2)]) C dX12_reachedTops_67 5 hnL (by decide) rfl ?_
    obtain ⟨z3, ez3⟩ : ∃ y : Int32, y = y2 + 1 := ⟨_, rfl⟩
    have hF := hF z3 ez3
    refine mg_iinc (pc := 68) (v := z3) (lv2 := [(2, .int z3), (1, .int z2), (0, .ref (mg_ad X 0))]) C dX12_reachedTops_68 2 rfl (by rw [ez3]; rfl) 5 hnL (by decide) rfl ?_
    refine mg_goto (pc := 71) 4 C dX12_reachedTops_71 (by decide) ?_
    refine mg_sub (lv2 := [(0, .ref (mg_ad X 0)), (1, .int z2), (2, .int z3)]) [2, 1, 0] rfl ?_
    exact hF
  · skip
    refine mg_iconst (pc := 0) (v := 0) C dX12_reachedTops_0 (by decide) ?_
    refine mg_istore_n (pc := 1) (lv2 := [(1, .int 0), (0, .ref (mg_ad X 0))]) C dX12_reachedTops_1 5 hnL (by decide) rfl ?_
    refine mg_iconst (pc := 2) (v := 0) C dX12_reachedTops_2 (by decide) ?_
    refine mg_istore_n (pc := 3) (lv2 := [(2, .int 0), (1, .int 0), (0, .ref (mg_ad X 0))]) C dX12_reachedTops_3 5 hnL (by decide) rfl ?_
    refine mg_sub (lv2 := [(0, .ref (mg_ad X 0)), (1, .int 0), (2, .int 0)]) [2, 1, 0] rfl ?_
    exact hF
def rm_edge : Room := { frames := 1, cells := 0, slots := 0, locals := 21 }
theorem nd_edge : yX12_edge.cls = RX12 ∧ yX12_edge.cls ≠ "java/lang/invoke/MethodHandle" ∧ yX12_edge.cls ≠ "java/lang/invoke/VarHandle" ∧ (parseMethodDescriptor yX12_edge.desc).map (fun d => d.parameters.length) = some 2 := by decide +kernel
set_option maxHeartbeats 4000000 in
set_option maxRecDepth 100000 in
theorem met_edge (x0 : Int32) (x1 : Int32) : mg_MI yX12_edge wsX12_edge rm_edge (fun ad => [.int x0, .int x1]) (fun Q h => wp_edge Q x0 x1 h) := by
  refine mg_startI (cc := cX12_edge) (maxL := 4) (by decide) rfl rfl (fun ad => Nat.le_of_ble_eq_true rfl) (fun X Q h C hnL E hw => ?_)
  unfold wp_edge at hw
  refine mg_sub (lv2 := [(0, .int x0), (1, .int x1)]) [0, 1] rfl ?_
  refine mg_use (hw (fun (y2 : Int32) (y3 : Int32) (h : mg_H) => mg_W X 4 [(0, .int x0), (1, .int x1), (2, .int y2), (3, .int y3)] [] h) (fun (y2 : Int32) (y3 : Int32) (h : mg_H) => mg_W X 31 [(0, .int x0), (1, .int x1), (2, .int y2), (3, .int y3)] [] h) (fun (y3 : Int32) (h : mg_H) => mg_W X 27 [(0, .int x0), (1, .int x1), (3, .int y3)] [] h) (fun (y3 : Int32) (s0 : Int32) (h : mg_H) => mg_W X 32 [(0, .int x0), (1, .int x1), (3, .int y3)] [.int s0] h) ?_ ?_ ?_ ?_) (fun hF => ?_)
  · intro y2 y3 h hF
    refine mg_iload_n (pc := 4) C dX12_edge_4 3 rfl ?_
    refine mg_bipush (pc := 5) (v := 30) C dX12_edge_5 (by decide) ?_
    refine mg_icmp_gt (pc := 7) 39 C dX12_edge_7 (by decide) (fun hc => ?_) (fun hc => ?_)
    · have hF := hF.1 hc
      refine mg_iload_n (pc := 39) C dX12_edge_39 2 rfl ?_
      exact mg_retI (pc := 40) C E dX12_edge_40 hF
    · have hF := hF.2 hc
      refine mg_iload_n (pc := 10) C dX12_edge_10 0 rfl ?_
      refine mg_iload_n (pc := 11) C dX12_edge_11 3 rfl ?_
      refine mg_csI (pc := 12) C (fun ad => [.int x0, .int y3]) (met_has x0 y3) gX12_edge_X12_has rfl ⟨rfl, rfl⟩ nd_has.2 ⟨Nat.le_of_ble_eq_true rfl, Nat.le_of_ble_eq_true rfl⟩ rfl rfl (Nat.le_of_ble_eq_true rfl) dX12_edge_12 hF (fun r2 h1 hF => ?_)
      refine mg_if_eq (pc := 15) 31 C dX12_edge_15 (by decide) (fun hc => ?_) (fun hc => ?_)
      · have hF := hF.1 hc
        exact hF
      · have hF := hF.2 hc
        refine mg_iload_n (pc := 18) C dX12_edge_18 1 rfl ?_
        refine mg_if_ne (pc := 19) 27 C dX12_edge_19 (by decide) (fun hc => ?_) (fun hc => ?_)
        · have hF := hF.1 hc
          refine mg_sub (lv2 := [(0, .int x0), (1, .int x1), (3, .int y3)]) [0, 1, 3] rfl ?_
          exact hF
        · have hF := hF.2 hc
          refine mg_iload_n (pc := 22) C dX12_edge_22 2 rfl ?_
          refine mg_iconst (pc := 23) (v := (-1)) C dX12_edge_23 (by decide) ?_
          refine mg_icmp_ne (pc := 24) 31 C dX12_edge_24 (by decide) (fun hc => ?_) (fun hc => ?_)
          · have hF := hF.1 hc
            exact hF
          · have hF := hF.2 hc
            refine mg_sub (lv2 := [(0, .int x0), (1, .int x1), (3, .int y3)]) [0, 1, 3] rfl ?_
            exact hF
  · intro y2 y3 h hF
    refine mg_iload_n (pc := 31) C dX12_edge_31 2 rfl ?_
    refine mg_sub (lv2 := [(0, .int x0), (1, .int x1), (3, .int y3)]) [0, 1, 3] rfl ?_
    exact hF
  · intro y3 h hF
    refine mg_iload_n (pc := 27) C dX12_edge_27 2 rfl ?_
    refine mg_goto (pc := 28) 32 C dX12_edge_28 (by decide) ?_
    exact hF
  · intro y3 s0 h hF
    refine mg_istore_n (pc := 32) (lv2 := [(2, .int s0), (0, .int x0), (1, .int x1), (3, .int y3)]) C dX12_edge_32 4 hnL (by decide) rfl ?_
    obtain ⟨z3, ez3⟩ : ∃ y : Int32, y = y3 + 1 := ⟨_, rfl⟩
    have hF := hF z3 ez3
    refine mg_iinc (pc := 33) (v := z3) (lv2 := [(3, .int z3), (2, .int s0), (0, .int x0), (1, .int x1)]) C dX12_edge_33 3 rfl (by rw [ez3]; rfl) 4 hnL (by decide) rfl ?_
    refine mg_goto (pc := 36) 4 C dX12_edge_36 (by decide) ?_
    refine mg_sub (lv2 := [(0, .int x0), (1, .int x1), (2, .int s0), (3, .int z3)]) [2, 3, 1, 0] rfl ?_
    exact hF
  · skip
    refine mg_iconst (pc := 0) (v := (-1)) C dX12_edge_0 (by decide) ?_
    refine mg_istore_n (pc := 1) (lv2 := [(2, .int (-1)), (0, .int x0), (1, .int x1)]) C dX12_edge_1 4 hnL (by decide) rfl ?_
    refine mg_iconst (pc := 2) (v := 1) C dX12_edge_2 (by decide) ?_
    refine mg_istore_n (pc := 3) (lv2 := [(3, .int 1), (2, .int (-1)), (0, .int x0), (1, .int x1)]) C dX12_edge_3 4 hnL (by decide) rfl ?_
    refine mg_sub (lv2 := [(0, .int x0), (1, .int x1), (2, .int (-1)), (3, .int 1)]) [2, 3, 1, 0] rfl ?_
    exact hF
def rm_longestRow : Room := { frames := 1, cells := 0, slots := 0, locals := 21 }
theorem nd_longestRow : yX12_longestRow.cls = RX12 ∧ yX12_longestRow.cls ≠ "java/lang/invoke/MethodHandle" ∧ yX12_longestRow.cls ≠ "java/lang/invoke/VarHandle" ∧ (parseMethodDescriptor yX12_longestRow.desc).map (fun d => d.parameters.length) = some 1 := by decide +kernel
set_option maxHeartbeats 4000000 in
set_option maxRecDepth 100000 in
theorem met_longestRow (x0 : Int32) : mg_MI yX12_longestRow wsX12_longestRow rm_longestRow (fun ad => [.int x0]) (fun Q h => wp_longestRow Q x0 h) := by
  refine mg_startI (cc := cX12_longestRow) (maxL := 4) (by decide) rfl rfl (fun ad => Nat.le_of_ble_eq_true rfl) (fun X Q h C hnL E hw => ?_)
  unfold wp_longestRow at hw
  refine mg_sub (lv2 := [(0, .int x0)]) [0] rfl ?_
  refine mg_use (hw (fun (y1 : Int32) (y2 : Int32) (y3 : Int32) (h : mg_H) => mg_W X 6 [(0, .int x0), (1, .int y1), (2, .int y2), (3, .int y3)] [] h) (fun (y1 : Int32) (y3 : Int32) (s0 : Int32) (h : mg_H) => mg_W X 27 [(0, .int x0), (1, .int y1), (3, .int y3)] [.int s0] h) ?_ ?_) (fun hF => ?_)
  · intro y1 y2 y3 h hF
    refine mg_iload_n (pc := 6) C dX12_longestRow_6 3 rfl ?_
    refine mg_bipush (pc := 7) (v := 30) C dX12_longestRow_7 (by decide) ?_
    refine mg_icmp_gt (pc := 9) 40 C dX12_longestRow_9 (by decide) (fun hc => ?_) (fun hc => ?_)
    · have hF := hF.1 hc
      refine mg_iload_n (pc := 40) C dX12_longestRow_40 1 rfl ?_
      exact mg_retI (pc := 41) C E dX12_longestRow_41 hF
    · have hF := hF.2 hc
      refine mg_iload_n (pc := 12) C dX12_longestRow_12 0 rfl ?_
      refine mg_iload_n (pc := 13) C dX12_longestRow_13 3 rfl ?_
      refine mg_csI (pc := 14) C (fun ad => [.int x0, .int y3]) (met_has x0 y3) gX12_longestRow_X12_has rfl ⟨rfl, rfl⟩ nd_has.2 ⟨Nat.le_of_ble_eq_true rfl, Nat.le_of_ble_eq_true rfl⟩ rfl rfl (Nat.le_of_ble_eq_true rfl) dX12_longestRow_14 hF (fun r2 h1 hF => ?_)
      refine mg_if_eq (pc := 17) 26 C dX12_longestRow_17 (by decide) (fun hc => ?_) (fun hc => ?_)
      · have hF := hF.1 hc
        refine mg_iconst (pc := 26) (v := 0) C dX12_longestRow_26 (by decide) ?_
        refine mg_sub (lv2 := [(0, .int x0), (1, .int y1), (3, .int y3)]) [0, 1, 3] rfl ?_
        exact hF
      · have hF := hF.2 hc
        refine mg_iload_n (pc := 20) C dX12_longestRow_20 2 rfl ?_
        refine mg_iconst (pc := 21) (v := 1) C dX12_longestRow_21 (by decide) ?_
        refine mg_iadd (pc := 22) C dX12_longestRow_22 ?_
        refine mg_goto (pc := 23) 27 C dX12_longestRow_23 (by decide) ?_
        refine mg_sub (lv2 := [(0, .int x0), (1, .int y1), (3, .int y3)]) [0, 1, 3] rfl ?_
        exact hF
  · intro y1 y3 s0 h hF
    refine mg_istore_n (pc := 27) (lv2 := [(2, .int s0), (0, .int x0), (1, .int y1), (3, .int y3)]) C dX12_longestRow_27 4 hnL (by decide) rfl ?_
    refine mg_iload_n (pc := 28) C dX12_longestRow_28 2 rfl ?_
    refine mg_iload_n (pc := 29) C dX12_longestRow_29 0 rfl ?_
    refine mg_csI (pc := 30) C (fun ad => [.int y1, .int s0]) (met_greater y1 s0) gX12_longestRow_X12_greater rfl ⟨rfl, rfl⟩ nd_greater.2 ⟨Nat.le_of_ble_eq_true rfl, Nat.le_of_ble_eq_true rfl⟩ rfl rfl (Nat.le_of_ble_eq_true rfl) dX12_longestRow_30 hF (fun r4 h3 hF => ?_)
    refine mg_istore_n (pc := 33) (lv2 := [(1, .int r4), (2, .int s0), (0, .int x0), (3, .int y3)]) C dX12_longestRow_33 4 hnL (by decide) rfl ?_
    obtain ⟨z5, ez5⟩ : ∃ y : Int32, y = y3 + 1 := ⟨_, rfl⟩
    have hF := hF z5 ez5
    refine mg_iinc (pc := 34) (v := z5) (lv2 := [(3, .int z5), (1, .int r4), (2, .int s0), (0, .int x0)]) C dX12_longestRow_34 3 rfl (by rw [ez5]; rfl) 4 hnL (by decide) rfl ?_
    refine mg_goto (pc := 37) 6 C dX12_longestRow_37 (by decide) ?_
    refine mg_sub (lv2 := [(0, .int x0), (1, .int r4), (2, .int s0), (3, .int z5)]) [3, 1, 2, 0] rfl ?_
    exact hF
  · skip
    refine mg_iconst (pc := 0) (v := 0) C dX12_longestRow_0 (by decide) ?_
    refine mg_istore_n (pc := 1) (lv2 := [(1, .int 0), (0, .int x0)]) C dX12_longestRow_1 4 hnL (by decide) rfl ?_
    refine mg_iconst (pc := 2) (v := 0) C dX12_longestRow_2 (by decide) ?_
    refine mg_istore_n (pc := 3) (lv2 := [(2, .int 0), (1, .int 0), (0, .int x0)]) C dX12_longestRow_3 4 hnL (by decide) rfl ?_
    refine mg_iconst (pc := 4) (v := 1) C dX12_longestRow_4 (by decide) ?_
    refine mg_istore_n (pc := 5) (lv2 := [(3, .int 1), (2, .int 0), (1, .int 0), (0, .int x0)]) C dX12_longestRow_5 4 hnL (by decide) rfl ?_
    refine mg_sub (lv2 := [(0, .int x0), (1, .int 0), (2, .int 0), (3, .int 1)]) [3, 2, 1, 0] rfl ?_
    exact hF
def rm_dearest : Room := { frames := 1, cells := 0, slots := 0, locals := 24 }
theorem nd_dearest : yX12_dearest.cls = RX12 ∧ yX12_dearest.cls ≠ "java/lang/invoke/MethodHandle" ∧ yX12_dearest.cls ≠ "java/lang/invoke/VarHandle" ∧ (parseMethodDescriptor yX12_dearest.desc).map (fun d => d.parameters.length) = some 0 := by decide +kernel
set_option maxHeartbeats 4000000 in
set_option maxRecDepth 100000 in
theorem met_dearest : mg_MI yX12_dearest wsX12_dearest rm_dearest (fun ad => [.ref (ad 0)]) (fun Q h => wp_dearest Q h) := by
  refine mg_startI (cc := cX12_dearest) (maxL := 4) (by decide) rfl rfl (fun ad => Nat.le_of_ble_eq_true rfl) (fun X Q h C hnL E hw => ?_)
  unfold wp_dearest at hw
  refine mg_sub (lv2 := [(0, .ref (mg_ad X 0))]) [0] rfl ?_
  refine mg_use (hw (fun (y1 : Int32) (y2 : Int32) (y3 : Int32) (h : mg_H) => mg_W X 6 [(0, .ref (mg_ad X 0)), (1, .int y1), (2, .int y2), (3, .int y3)] [] h) (fun (y2 : Int32) (y3 : Int32) (s0 : Int32) (h : mg_H) => mg_W X 26 [(0, .ref (mg_ad X 0)), (2, .int y2), (3, .int y3)] [.int s0] h) ?_ ?_) (fun hF => ?_)
  · intro y1 y2 y3 h hF
    refine mg_iload_n (pc := 6) C dX12_dearest_6 3 rfl ?_
    refine mg_bipush (pc := 7) (v := 30) C dX12_dearest_7 (by decide) ?_
    refine mg_icmp_gt (pc := 9) 43 C dX12_dearest_9 (by decide) (fun hc => ?_) (fun hc => ?_)
    · have hF := hF.1 hc
      refine mg_iload_n (pc := 43) C dX12_dearest_43 1 rfl ?_
      exact mg_retI (pc := 44) C E dX12_dearest_44 hF
    · have hF := hF.2 hc
      refine mg_aload_n (pc := 12) C dX12_dearest_12 0 rfl ?_
      refine mg_iload_n (pc := 13) C dX12_dearest_13 3 rfl ?_
      refine mg_cvI (pc := 14) C (fun ad => [.int y3]) (met_leastAt y3) gX12_dearest_X12_leastAt rfl ⟨rfl, rfl⟩ nd_leastAt ⟨Nat.le_of_ble_eq_true rfl, Nat.le_of_ble_eq_true rfl⟩ rfl rfl (Nat.le_of_ble_eq_true rfl) dX12_dearest_14 hF (fun r2 h1 hF => ?_)
      refine mg_iload_n (pc := 17) C dX12_dearest_17 2 rfl ?_
      refine mg_icmp_le (pc := 18) 25 C dX12_dearest_18 (by decide) (fun hc => ?_) (fun hc => ?_)
      · have hF := hF.1 hc
        refine mg_iload_n (pc := 25) C dX12_dearest_25 1 rfl ?_
        refine mg_sub (lv2 := [(0, .ref (mg_ad X 0)), (2, .int y2), (3, .int y3)]) [0, 2, 3] rfl ?_
        exact hF
      · have hF := hF.2 hc
        refine mg_iload_n (pc := 21) C dX12_dearest_21 3 rfl ?_
        refine mg_goto (pc := 22) 26 C dX12_dearest_22 (by decide) ?_
        refine mg_sub (lv2 := [(0, .ref (mg_ad X 0)), (2, .int y2), (3, .int y3)]) [0, 2, 3] rfl ?_
        exact hF
  · intro y2 y3 s0 h hF
    refine mg_istore_n (pc := 26) (lv2 := [(1, .int s0), (0, .ref (mg_ad X 0)), (2, .int y2), (3, .int y3)]) C dX12_dearest_26 4 hnL (by decide) rfl ?_
    refine mg_iload_n (pc := 27) C dX12_dearest_27 2 rfl ?_
    refine mg_aload_n (pc := 28) C dX12_dearest_28 1 rfl ?_
    refine mg_iload_n (pc := 29) C dX12_dearest_29 3 rfl ?_
    refine mg_cvI (pc := 30) C (fun ad => [.int y3]) (met_leastAt y3) gX12_dearest_X12_leastAt rfl ⟨rfl, rfl⟩ nd_leastAt ⟨Nat.le_of_ble_eq_true rfl, Nat.le_of_ble_eq_true rfl⟩ rfl rfl (Nat.le_of_ble_eq_true rfl) dX12_dearest_30 hF (fun r4 h3 hF => ?_)
    refine mg_csI (pc := 33) C (fun ad => [.int y2, .int r4]) (met_greater y2 r4) gX12_dearest_X12_greater rfl ⟨rfl, rfl⟩ nd_greater.2 ⟨Nat.le_of_ble_eq_true rfl, Nat.le_of_ble_eq_true rfl⟩ rfl rfl (Nat.le_of_ble_eq_true rfl) dX12_dearest_33 hF (fun r6 h5 hF => ?_)
    refine mg_istore_n (pc := 36) (lv2 := [(2, .int r6), (1, .int s0), (0, .ref (mg_ad X 0)), (3, .int y3)]) C dX12_dearest_36 4 hnL (by decide) rfl ?_
    obtain ⟨z7, ez7⟩ : ∃ y : Int32, y = y3 + 1 := ⟨_, rfl⟩
    have hF := hF z7 ez7
    refine mg_iinc (pc := 37) (v := z7) (lv2 := [(3, .int z7), (2, .int r6), (1, .int s0), (0, .ref (mg_ad X 0))]) C dX12_dearest_37 3 rfl (by rw [ez7]; rfl) 4 hnL (by decide) rfl ?_
    refine mg_goto (pc := 40) 6 C dX12_dearest_40 (by decide) ?_
    refine mg_sub (lv2 := [(0, .ref (mg_ad X 0)), (1, .int s0), (2, .int r6), (3, .int z7)]) [3, 2, 1, 0] rfl ?_
    exact hF
  · skip
    refine mg_iconst (pc := 0) (v := (-1)) C dX12_dearest_0 (by decide) ?_
    refine mg_istore_n (pc := 1) (lv2 := [(1, .int (-1)), (0, .ref (mg_ad X 0))]) C dX12_dearest_1 4 hnL (by decide) rfl ?_
    refine mg_iconst (pc := 2) (v := (-1)) C dX12_dearest_2 (by decide) ?_
    refine mg_istore_n (pc := 3) (lv2 := [(2, .int (-1)), (1, .int (-1)), (0, .ref (mg_ad X 0))]) C dX12_dearest_3 4 hnL (by decide) rfl ?_
    refine mg_iconst (pc := 4) (v := 1) C dX12_dearest_4 (by decide) ?_
    refine mg_istore_n (pc := 5) (lv2 := [(3, .int 1), (2, .int (-1)), (1, .int (-1)), (0, .ref (mg_ad X 0))]) C dX12_dearest_5 4 hnL (by decide) rfl ?_
    refine mg_sub (lv2 := [(0, .ref (mg_ad X 0)), (1, .int (-1)), (2, .int (-1)), (3, .int 1)]) [3, 2, 1, 0] rfl ?_
    exact hF
def rm_common : Room := { frames := 0, cells := 0, slots := 0, locals := 0 }
theorem nd_common : yX12_common.cls = RX12 ∧ yX12_common.cls ≠ "java/lang/invoke/MethodHandle" ∧ yX12_common.cls ≠ "java/lang/invoke/VarHandle" ∧ (parseMethodDescriptor yX12_common.desc).map (fun d => d.parameters.length) = some 2 := by decide +kernel
set_option maxHeartbeats 4000000 in
set_option maxRecDepth 100000 in
theorem met_common (x0 : Int32) (x1 : Int32) : mg_MI yX12_common wsX12_common rm_common (fun ad => [.int x0, .int x1]) (fun Q h => wp_common Q x0 x1 h) := by
  refine mg_startI (cc := cX12_common) (maxL := 5) (by decide) rfl rfl (fun ad => Nat.le_of_ble_eq_true rfl) (fun X Q h C hnL E hw => ?_)
  unfold wp_common at hw
  refine mg_sub (lv2 := [(0, .int x0), (1, .int x1)]) [0, 1] rfl ?_
  refine mg_use (hw (fun (y2 : Int32) (y3 : Int32) (h : mg_H) => mg_W X 4 [(2, .int y2), (3, .int y3)] [] h) ?_) (fun hF => ?_)
  · intro y2 y3 h hF
    refine mg_iload_n (pc := 4) C dX12_common_4 1 rfl ?_
    refine mg_if_eq (pc := 5) 21 C dX12_common_5 (by decide) (fun hc => ?_) (fun hc => ?_)
    · have hF := hF.1 hc
      refine mg_iload_n (pc := 21) C dX12_common_21 0 rfl ?_
      exact mg_retI (pc := 22) C E dX12_common_22 hF
    · have hF := hF.2 hc
      refine mg_iload_n (pc := 8) C dX12_common_8 0 rfl ?_
      refine mg_iload_n (pc := 9) C dX12_common_9 1 rfl ?_
      obtain ⟨hne, hF⟩ := hF
      refine mg_irem (pc := 10) C dX12_common_10 hne ?_
      refine mg_topi (pc := 11) (fun z1 ez1 => ?_)
      have hF := hF z1 ez1
      refine mg_istore (pc := 11) (lv2 := [(4, .int z1), (2, .int y2), (3, .int y3)]) C dX12_common_11 5 hnL (by decide) rfl ?_
      refine mg_iload_n (pc := 13) C dX12_common_13 2 rfl ?_
      refine mg_istore_n (pc := 14) (lv2 := [(2, .int y3), (4, .int z1), (3, .int y3)]) C dX12_common_14 5 hnL (by decide) rfl ?_
      refine mg_iload (pc := 15) C dX12_common_15 1 rfl ?_
      refine mg_istore_n (pc := 17) (lv2 := [(3, .int z1), (2, .int y3), (4, .int z1)]) C dX12_common_17 5 hnL (by decide) rfl ?_
      refine mg_goto (pc := 18) 4 C dX12_common_18 (by decide) ?_
      refine mg_sub (lv2 := [(2, .int y3), (3, .int z1)]) [1, 0] rfl ?_
      exact hF
  · skip
    refine mg_iload_n (pc := 0) C dX12_common_0 0 rfl ?_
    refine mg_istore_n (pc := 1) (lv2 := [(2, .int x0), (0, .int x0), (1, .int x1)]) C dX12_common_1 5 hnL (by decide) rfl ?_
    refine mg_iload_n (pc := 2) C dX12_common_2 2 rfl ?_
    refine mg_istore_n (pc := 3) (lv2 := [(3, .int x1), (2, .int x0), (0, .int x0), (1, .int x1)]) C dX12_common_3 5 hnL (by decide) rfl ?_
    refine mg_sub (lv2 := [(2, .int x0), (3, .int x1)]) [1, 0] rfl ?_
    exact hF
def rm_commonSize : Room := { frames := 1, cells := 0, slots := 0, locals := 24 }
theorem nd_commonSize : yX12_commonSize.cls = RX12 ∧ yX12_commonSize.cls ≠ "java/lang/invoke/MethodHandle" ∧ yX12_commonSize.cls ≠ "java/lang/invoke/VarHandle" ∧ (parseMethodDescriptor yX12_commonSize.desc).map (fun d => d.parameters.length) = some 0 := by decide +kernel
theorem inm_commonSize : ∀ w ∈ wsX120, w ∈ wsX12_commonSize := fun _ h9 => List.mem_cons_of_mem _ (List.mem_append_right _ h9)
set_option maxHeartbeats 4000000 in
set_option maxRecDepth 100000 in
theorem met_commonSize : mg_MI yX12_commonSize wsX12_commonSize rm_commonSize (fun ad => [.ref (ad 0)]) (fun Q h => wp_commonSize Q h) := by
  refine mg_startI (cc := cX12_commonSize) (maxL := 3) (by decide) rfl rfl (fun ad => Nat.le_of_ble_eq_true rfl) (fun X Q h C hnL E hw => ?_)
  unfold wp_commonSize at hw
  refine mg_sub (lv2 := [(0, .ref (mg_ad X 0))]) [0] rfl ?_
  refine mg_use (hw (fun (y1 : Int32) (y2 : Int32) (h : mg_H) => mg_W X 4 [(0, .ref (mg_ad X 0)), (1, .int y1), (2, .int y2)] [] h) ?_) (fun hF => ?_)
  · intro y1 y2 h hF
    refine mg_iload_n (pc := 4) C dX12_commonSize_4 2 rfl ?_
    refine mg_aload_n (pc := 5) C dX12_commonSize_5 0 rfl ?_
    refine mg_geti (pc := 6) C inm_commonSize 24 (by decide) rfl (by decide) dX12_commonSize_6 (List.mem_of_getElem? (i := 1) rfl) ?_
    refine mg_icmp_ge (pc := 9) 29 C dX12_commonSize_9 (by decide) (fun hc => ?_) (fun hc => ?_)
    · have hF := hF.1 hc
      refine mg_iload_n (pc := 29) C dX12_commonSize_29 1 rfl ?_
      exact mg_retI (pc := 30) C E dX12_commonSize_30 hF
    · have hF := hF.2 hc
      refine mg_iload_n (pc := 12) C dX12_commonSize_12 1 rfl ?_
      refine mg_aload_n (pc := 13) C dX12_commonSize_13 0 rfl ?_
      refine mg_getr (pc := 14) C inm_commonSize 27 (by decide) (by decide) dX12_commonSize_14 (List.mem_of_getElem? (i := 2) rfl) ?_
      refine mg_iload_n (pc := 17) C dX12_commonSize_17 2 rfl ?_
      obtain ⟨hi, hF⟩ := hF
      refine mg_iald (pc := 18) C (by decide) rfl hi dX12_commonSize_18 ?_
      refine mg_csI (pc := 19) C (fun ad => [.int y1, .int (mg_i h 27 y2.toNatClampNeg)]) (met_common y1 (mg_i h 27 y2.toNatClampNeg)) gX12_commonSize_X12_common rfl ⟨rfl, rfl⟩ nd_common.2 ⟨Nat.le_of_ble_eq_true rfl, Nat.le_of_ble_eq_true rfl⟩ rfl rfl (Nat.le_of_ble_eq_true rfl) dX12_commonSize_19 hF (fun r2 h1 hF => ?_)
      refine mg_istore_n (pc := 22) (lv2 := [(1, .int r2), (0, .ref (mg_ad X 0)), (2, .int y2)]) C dX12_commonSize_22 3 hnL (by decide) rfl ?_
      obtain ⟨z3, ez3⟩ : ∃ y : Int32, y = y2 + 1 := ⟨_, rfl⟩
      have hF := hF z3 ez3
      refine mg_iinc (pc := 23) (v := z3) (lv2 := [(2, .int z3), (1, .int r2), (0, .ref (mg_ad X 0))]) C dX12_commonSize_23 2 rfl (by rw [ez3]; rfl) 3 hnL (by decide) rfl ?_
      refine mg_goto (pc := 26) 4 C dX12_commonSize_26 (by decide) ?_
      refine mg_sub (lv2 := [(0, .ref (mg_ad X 0)), (1, .int r2), (2, .int z3)]) [2, 1, 0] rfl ?_
      exact hF
  · skip
    refine mg_iconst (pc := 0) (v := 0) C dX12_commonSize_0 (by decide) ?_
    refine mg_istore_n (pc := 1) (lv2 := [(1, .int 0), (0, .ref (mg_ad X 0))]) C dX12_commonSize_1 3 hnL (by decide) rfl ?_
    refine mg_iconst (pc := 2) (v := 0) C dX12_commonSize_2 (by decide) ?_
    refine mg_istore_n (pc := 3) (lv2 := [(2, .int 0), (1, .int 0), (0, .ref (mg_ad X 0))]) C dX12_commonSize_3 3 hnL (by decide) rfl ?_
    refine mg_sub (lv2 := [(0, .ref (mg_ad X 0)), (1, .int 0), (2, .int 0)]) [2, 1, 0] rfl ?_
    exact hF
def rm_sand : Room := { frames := 0, cells := 0, slots := 0, locals := 0 }
theorem nd_sand : yX12_sand.cls = RX12 ∧ yX12_sand.cls ≠ "java/lang/invoke/MethodHandle" ∧ yX12_sand.cls ≠ "java/lang/invoke/VarHandle" ∧ (parseMethodDescriptor yX12_sand.desc).map (fun d => d.parameters.length) = some 0 := by decide +kernel
theorem inm_sand : ∀ w ∈ wsX120, w ∈ wsX12_sand := fun _ h9 => List.mem_cons_of_mem _ (List.mem_append_right _ h9)
set_option maxHeartbeats 4000000 in
set_option maxRecDepth 100000 in
theorem met_sand : mg_MI yX12_sand wsX12_sand rm_sand (fun ad => [.ref (ad 0)]) (fun Q h => wp_sand Q h) := by
  refine mg_startI (cc := cX12_sand) (maxL := 3) (by decide) rfl rfl (fun ad => Nat.le_of_ble_eq_true rfl) (fun X Q h C hnL E hw => ?_)
  unfold wp_sand at hw
  refine mg_sub (lv2 := [(0, .ref (mg_ad X 0))]) [0] rfl ?_
  refine mg_use (hw (fun (y1 : Int32) (y2 : Int32) (h : mg_H) => mg_W X 4 [(0, .ref (mg_ad X 0)), (1, .int y1), (2, .int y2)] [] h) ?_) (fun hF => ?_)
  · intro y1 y2 h hF
    refine mg_iload_n (pc := 4) C dX12_sand_4 2 rfl ?_
    refine mg_aload_n (pc := 5) C dX12_sand_5 0 rfl ?_
    refine mg_geti (pc := 6) C inm_sand 24 (by decide) rfl (by decide) dX12_sand_6 (List.mem_of_getElem? (i := 1) rfl) ?_
    refine mg_icmp_ge (pc := 9) 27 C dX12_sand_9 (by decide) (fun hc => ?_) (fun hc => ?_)
    · have hF := hF.1 hc
      refine mg_iload_n (pc := 27) C dX12_sand_27 1 rfl ?_
      exact mg_retI (pc := 28) C E dX12_sand_28 hF
    · have hF := hF.2 hc
      refine mg_iload_n (pc := 12) C dX12_sand_12 1 rfl ?_
      refine mg_aload_n (pc := 13) C dX12_sand_13 0 rfl ?_
      refine mg_getr (pc := 14) C inm_sand 28 (by decide) (by decide) dX12_sand_14 (List.mem_of_getElem? (i := 2) rfl) ?_
      refine mg_iload_n (pc := 17) C dX12_sand_17 2 rfl ?_
      obtain ⟨hi, hF⟩ := hF
      refine mg_iald (pc := 18) C (by decide) rfl hi dX12_sand_18 ?_
      refine mg_iadd (pc := 19) C dX12_sand_19 ?_
      refine mg_topi (pc := 20) (fun z1 ez1 => ?_)
      have hF := hF z1 ez1
      refine mg_istore_n (pc := 20) (lv2 := [(1, .int z1), (0, .ref (mg_ad X 0)), (2, .int y2)]) C dX12_sand_20 3 hnL (by decide) rfl ?_
      obtain ⟨z2, ez2⟩ : ∃ y : Int32, y = y2 + 1 := ⟨_, rfl⟩
      have hF := hF z2 ez2
      refine mg_iinc (pc := 21) (v := z2) (lv2 := [(2, .int z2), (1, .int z1), (0, .ref (mg_ad X 0))]) C dX12_sand_21 2 rfl (by rw [ez2]; rfl) 3 hnL (by decide) rfl ?_
      refine mg_goto (pc := 24) 4 C dX12_sand_24 (by decide) ?_
      refine mg_sub (lv2 := [(0, .ref (mg_ad X 0)), (1, .int z1), (2, .int z2)]) [2, 1, 0] rfl ?_
      exact hF
  · skip
    refine mg_iconst (pc := 0) (v := 0) C dX12_sand_0 (by decide) ?_
    refine mg_istore_n (pc := 1) (lv2 := [(1, .int 0), (0, .ref (mg_ad X 0))]) C dX12_sand_1 3 hnL (by decide) rfl ?_
    refine mg_iconst (pc := 2) (v := 0) C dX12_sand_2 (by decide) ?_
    refine mg_istore_n (pc := 3) (lv2 := [(2, .int 0), (1, .int 0), (0, .ref (mg_ad X 0))]) C dX12_sand_3 3 hnL (by decide) rfl ?_
    refine mg_sub (lv2 := [(0, .ref (mg_ad X 0)), (1, .int 0), (2, .int 0)]) [2, 1, 0] rfl ?_
    exact hF
def rm_even : Room := { frames := 0, cells := 0, slots := 0, locals := 0 }
theorem nd_even : yX12_even.cls = RX12 ∧ yX12_even.cls ≠ "java/lang/invoke/MethodHandle" ∧ yX12_even.cls ≠ "java/lang/invoke/VarHandle" ∧ (parseMethodDescriptor yX12_even.desc).map (fun d => d.parameters.length) = some 0 := by decide +kernel
theorem inm_even : ∀ w ∈ wsX120, w ∈ wsX12_even := fun _ h9 => List.mem_cons_of_mem _ (List.mem_append_right _ h9)
set_option maxHeartbeats 4000000 in
set_option maxRecDepth 100000 in
theorem met_even : mg_MI yX12_even wsX12_even rm_even (fun ad => [.ref (ad 0)]) (fun Q h => wp_even Q h) := by
  refine mg_startI (cc := cX12_even) (maxL := 3) (by decide) rfl rfl (fun ad => Nat.le_of_ble_eq_true rfl) (fun X Q h C hnL E hw => ?_)
  unfold wp_even at hw
  refine mg_sub (lv2 := [(0, .ref (mg_ad X 0))]) [0] rfl ?_
  refine mg_use (hw (fun (y1 : Int32) (y2 : Int32) (h : mg_H) => mg_W X 4 [(0, .ref (mg_ad X 0)), (1, .int y1), (2, .int y2)] [] h) (fun (y2 : Int32) (s0 : Int32) (s1 : Int32) (h : mg_H) => mg_W X 37 [(0, .ref (mg_ad X 0)), (2, .int y2)] [.int s0, .int s1] h) ?_ ?_) (fun hF => ?_)
  · intro y1 y2 h hF
    refine mg_iload_n (pc := 4) C dX12_even_4 2 rfl ?_
    refine mg_aload_n (pc := 5) C dX12_even_5 0 rfl ?_
    refine mg_geti (pc := 6) C inm_even 24 (by decide) rfl (by decide) dX12_even_6 (List.mem_of_getElem? (i := 1) rfl) ?_
    refine mg_icmp_ge (pc := 9) 45 C dX12_even_9 (by decide) (fun hc => ?_) (fun hc => ?_)
    · have hF := hF.1 hc
      refine mg_iload_n (pc := 45) C dX12_even_45 1 rfl ?_
      exact mg_retI (pc := 46) C E dX12_even_46 hF
    · have hF := hF.2 hc
      refine mg_iload_n (pc := 12) C dX12_even_12 1 rfl ?_
      refine mg_iconst (pc := 13) (v := 2) C dX12_even_13 (by decide) ?_
      refine mg_aload_n (pc := 14) C dX12_even_14 0 rfl ?_
      refine mg_getr (pc := 15) C inm_even 28 (by decide) (by decide) dX12_even_15 (List.mem_of_getElem? (i := 2) rfl) ?_
      refine mg_iload_n (pc := 18) C dX12_even_18 2 rfl ?_
      obtain ⟨hi, hF⟩ := hF
      refine mg_iald (pc := 19) C (by decide) rfl hi dX12_even_19 ?_
      refine mg_imul (pc := 20) C dX12_even_20 ?_
      refine mg_aload_n (pc := 21) C dX12_even_21 0 rfl ?_
      refine mg_getr (pc := 22) C inm_even 27 (by decide) (by decide) dX12_even_22 (List.mem_of_getElem? (i := 3) rfl) ?_
      refine mg_iload_n (pc := 25) C dX12_even_25 2 rfl ?_
      obtain ⟨hi, hF⟩ := hF
      refine mg_iald (pc := 26) C (by decide) rfl hi dX12_even_26 ?_
      refine mg_icmp_ne (pc := 27) 36 C dX12_even_27 (by decide) (fun hc => ?_) (fun hc => ?_)
      · have hF := hF.1 hc
        refine mg_iconst (pc := 36) (v := 0) C dX12_even_36 (by decide) ?_
        refine mg_sub (lv2 := [(0, .ref (mg_ad X 0)), (2, .int y2)]) [0, 2] rfl ?_
        exact hF
      · have hF := hF.2 hc
        refine mg_iconst (pc := 30) (v := 1) C dX12_even_30 (by decide) ?_
        refine mg_iload_n (pc := 31) C dX12_even_31 2 rfl ?_
        refine mg_ishl (pc := 32) C dX12_even_32 ?_
        refine mg_goto (pc := 33) 37 C dX12_even_33 (by decide) ?_
        refine mg_sub (lv2 := [(0, .ref (mg_ad X 0)), (2, .int y2)]) [0, 2] rfl ?_
        exact hF
  · intro y2 s0 s1 h hF
    refine mg_ior (pc := 37) C dX12_even_37 ?_
    refine mg_topi (pc := 38) (fun z1 ez1 => ?_)
    have hF := hF z1 ez1
    refine mg_istore_n (pc := 38) (lv2 := [(1, .int z1), (0, .ref (mg_ad X 0)), (2, .int y2)]) C dX12_even_38 3 hnL (by decide) rfl ?_
    obtain ⟨z2, ez2⟩ : ∃ y : Int32, y = y2 + 1 := ⟨_, rfl⟩
    have hF := hF z2 ez2
    refine mg_iinc (pc := 39) (v := z2) (lv2 := [(2, .int z2), (1, .int z1), (0, .ref (mg_ad X 0))]) C dX12_even_39 2 rfl (by rw [ez2]; rfl) 3 hnL (by decide) rfl ?_
    refine mg_goto (pc := 42) 4 C dX12_even_42 (by decide) ?_
    refine mg_sub (lv2 := [(0, .ref (mg_ad X 0)), (1, .int z1), (2, .int z2)]) [2, 1, 0] rfl ?_
    exact hF
  · skip
    refine mg_iconst (pc := 0) (v := 0) C dX12_even_0 (by decide) ?_
    refine mg_istore_n (pc := 1) (lv2 := [(1, .int 0), (0, .ref (mg_ad X 0))]) C dX12_even_1 3 hnL (by decide) rfl ?_
    refine mg_iconst (pc := 2) (v := 0) C dX12_even_2 (by decide) ?_
    refine mg_istore_n (pc := 3) (lv2 := [(2, .int 0), (1, .int 0), (0, .ref (mg_ad X 0))]) C dX12_even_3 3 hnL (by decide) rfl ?_
    refine mg_sub (lv2 := [(0, .ref (mg_ad X 0)), (1, .int 0), (2, .int 0)]) [2, 1, 0] rfl ?_
    exact hF
