def rm_orderLine : Room := { frames := 3, cells := 0, slots := 0, locals := 67 }
theorem nd_orderLine : yX12_orderLine.cls = RX12 ∧ yX12_orderLine.cls ≠ "java/lang/invoke/MethodHandle" ∧ yX12_orderLine.cls ≠ "java/lang/invoke/VarHandle" ∧ (parseMethodDescriptor yX12_orderLine.desc).map (fun d => d.parameters.length) = some 2 := by decide +kernel
theorem inm_orderLine : ∀ w ∈ wsX120, w ∈ wsX12_orderLine := fun _ h9 => List.mem_cons_of_mem _ (List.mem_append_right _ h9)
set_option maxHeartbeats 4000000 in
set_option maxRecDepth 100000 in
theorem met_orderLine (x1 : Int64) (x3 : Int32) : mg_MI yX12_orderLine wsX12_orderLine rm_orderLine (fun ad => [.ref (ad 0), .long x1, .int x3]) (fun Q h => wp_orderLine Q x1 x3 h) := by
  refine mg_startI (cc := cX12_orderLine) (maxL := 5) (by decide) rfl rfl (fun ad => Nat.le_of_ble_eq_true rfl) (fun X Q h C hnL E hw => ?_)
  unfold wp_orderLine at hw
  refine mg_sub (lv2 := [(0, .ref (mg_ad X 0)), (1, .long x1), (3, .int x3)]) [0, 1, 2] rfl ?_
  refine mg_use (hw (fun (y4 : Int32) (h : mg_H) => mg_W X 67 [(0, .ref (mg_ad X 0)), (4, .int y4)] [] h) ?_) (fun hF => ?_)
  · intro y4 h hF
    refine mg_aload_n (pc := 67) C dX12_orderLine_67 0 rfl ?_
    refine mg_getr (pc := 68) C inm_orderLine 19 (by decide) (by decide) dX12_orderLine_68 (List.mem_of_getElem? (i := 2) rfl) ?_
    refine mg_iconst (pc := 71) (v := 0) C dX12_orderLine_71 (by decide) ?_
    refine mg_bipush (pc := 72) (v := 6) C dX12_orderLine_72 (by decide) ?_
    refine mg_iload (pc := 74) C dX12_orderLine_74 1 rfl ?_
    refine mg_iconst (pc := 76) (v := 1) C dX12_orderLine_76 (by decide) ?_
    refine mg_iadd (pc := 77) C dX12_orderLine_77 ?_
    refine mg_csI (pc := 78) C (fun ad => [.int 6, .int (y4 + 1)]) (met_lesser 6 (y4 + 1)) gX12_orderLine_X12_lesser rfl ⟨rfl, rfl⟩ nd_lesser.2 ⟨Nat.le_of_ble_eq_true rfl, Nat.le_of_ble_eq_true rfl⟩ rfl rfl (Nat.le_of_ble_eq_true rfl) dX12_orderLine_78 hF (fun r10 h9 hF => ?_)
    obtain ⟨hi, hF⟩ := hF
    refine mg_iast (pc := 81) C (by decide) rfl hi dX12_orderLine_81 (fun h11 eh11 => ?_)
    have hF := hF h11 eh11
    refine mg_iconst (pc := 82) (v := 1) C dX12_orderLine_82 (by decide) ?_
    exact mg_retZ (pc := 83) C E (Or.inr rfl) dX12_orderLine_83 hF
  · skip
    refine mg_lload_n (pc := 0) C dX12_orderLine_0 1 rfl ?_
    refine mg_ldc2 (pc := 1) (v := 1936744814) C dX12_orderLine_1 (List.mem_of_getElem? (i := 1) rfl) ?_
    refine mg_lcmp (pc := 4) C dX12_orderLine_4 ?_
    refine mg_if_eq (pc := 5) 13 C dX12_orderLine_5 (by decide) (fun hc => ?_) (fun hc => ?_)
    · have hF := hF.1 hc
      refine mg_aload_n (pc := 13) C dX12_orderLine_13 0 rfl ?_
      refine mg_bipush (pc := 14) (v := 6) C dX12_orderLine_14 (by decide) ?_
      refine mg_iload_n (pc := 16) C dX12_orderLine_16 2 rfl ?_
      refine mg_cvV (pc := 17) C (fun ad => [.int 6, .int x3]) (met_full 6 x3) gX12_orderLine_X12_full rfl ⟨rfl, rfl⟩ nd_full ⟨Nat.le_of_ble_eq_true rfl, Nat.le_of_ble_eq_true rfl⟩ rfl rfl (Nat.le_of_ble_eq_true rfl) dX12_orderLine_17 hF (fun h1 hF => ?_)
      refine mg_aload_n (pc := 20) C dX12_orderLine_20 0 rfl ?_
      refine mg_cvV (pc := 21) C (fun ad => []) (met_token) gX12_orderLine_X12_token rfl ⟨rfl, rfl⟩ nd_token ⟨Nat.le_of_ble_eq_true rfl, Nat.le_of_ble_eq_true rfl⟩ rfl rfl (Nat.le_of_ble_eq_true rfl) dX12_orderLine_21 hF (fun h2 hF => ?_)
      refine mg_aload_n (pc := 24) C dX12_orderLine_24 0 rfl ?_
      refine mg_iconst (pc := 25) (v := 0) C dX12_orderLine_25 (by decide) ?_
      refine mg_iconst (pc := 26) (v := 1) C dX12_orderLine_26 (by decide) ?_
      refine mg_bipush (pc := 27) (v := 30) C dX12_orderLine_27 (by decide) ?_
      refine mg_cvI (pc := 29) C (fun ad => [.int 0, .int 1, .int 30]) (met_take 0 1 30) gX12_orderLine_X12_take rfl ⟨rfl, rfl⟩ nd_take ⟨Nat.le_of_ble_eq_true rfl, Nat.le_of_ble_eq_true rfl⟩ rfl rfl (Nat.le_of_ble_eq_true rfl) dX12_orderLine_29 hF (fun r4 h3 hF => ?_)
      refine mg_if_ne (pc := 32) 37 C dX12_orderLine_32 (by decide) (fun hc => ?_) (fun hc => ?_)
      · have hF := hF.1 hc
        refine mg_aload_n (pc := 37) C dX12_orderLine_37 0 rfl ?_
        refine mg_getr (pc := 38) C inm_orderLine 19 (by decide) (by decide) dX12_orderLine_38 (List.mem_of_getElem? (i := 2) rfl) ?_
        refine mg_iconst (pc := 41) (v := 0) C dX12_orderLine_41 (by decide) ?_
        obtain ⟨hi, hF⟩ := hF
        refine mg_iald (pc := 42) C (by decide) rfl hi dX12_orderLine_42 ?_
        refine mg_topi (pc := 43) (fun z5 ez5 => ?_)
        have hF := hF z5 ez5
        refine mg_istore (pc := 43) (lv2 := [(4, .int z5), (0, .ref (mg_ad X 0)), (1, .long x1), (3, .int x3)]) C dX12_orderLine_43 5 hnL (by decide) rfl ?_
        refine mg_iload (pc := 45) C dX12_orderLine_45 0 rfl ?_
        refine mg_bipush (pc := 47) (v := 6) C dX12_orderLine_47 (by decide) ?_
        refine mg_icmp_ge (pc := 49) 67 C dX12_orderLine_49 (by decide) (fun hc => ?_) (fun hc => ?_)
        · have hF := hF.1 hc
          refine mg_sub (lv2 := [(0, .ref (mg_ad X 0)), (4, .int z5)]) [1, 0] rfl ?_
          exact hF
        · have hF := hF.2 hc
          refine mg_aload_n (pc := 52) C dX12_orderLine_52 1 rfl ?_
          refine mg_getr (pc := 53) C inm_orderLine 19 (by decide) (by decide) dX12_orderLine_53 (List.mem_of_getElem? (i := 2) rfl) ?_
          refine mg_iconst (pc := 56) (v := 1) C dX12_orderLine_56 (by decide) ?_
          refine mg_iload (pc := 57) C dX12_orderLine_57 0 rfl ?_
          refine mg_iadd (pc := 59) C dX12_orderLine_59 ?_
          refine mg_aload_n (pc := 60) C dX12_orderLine_60 1 rfl ?_
          refine mg_getr (pc := 61) C inm_orderLine 20 (by decide) (by decide) dX12_orderLine_61 (List.mem_of_getElem? (i := 3) rfl) ?_
          refine mg_iconst (pc := 64) (v := 0) C dX12_orderLine_64 (by decide) ?_
          obtain ⟨hi, hF⟩ := hF
          refine mg_iald (pc := 65) C (by decide) rfl hi dX12_orderLine_65 ?_
          obtain ⟨hi, hF⟩ := hF
          refine mg_iast (pc := 66) C (by decide) rfl hi dX12_orderLine_66 (fun h6 eh6 => ?_)
          have hF := hF h6 eh6
          refine mg_sub (lv2 := [(0, .ref (mg_ad X 0)), (4, .int z5)]) [1, 0] rfl ?_
          exact hF
      · have hF := hF.2 hc
        refine mg_iconst (pc := 35) (v := 0) C dX12_orderLine_35 (by decide) ?_
        exact mg_retZ (pc := 36) C E (Or.inl rfl) dX12_orderLine_36 hF
    · have hF := hF.2 hc
      refine mg_aload_n (pc := 8) C dX12_orderLine_8 0 rfl ?_
      refine mg_cvI (pc := 9) C (fun ad => []) (met_fails) gX12_orderLine_X12_fails rfl ⟨rfl, rfl⟩ nd_fails ⟨Nat.le_of_ble_eq_true rfl, Nat.le_of_ble_eq_true rfl⟩ rfl rfl (Nat.le_of_ble_eq_true rfl) dX12_orderLine_9 hF (fun r8 h7 hF => ?_)
      exact mg_retZ (pc := 12) C E hF.1 dX12_orderLine_12 hF.2
def rm_lineOf : Room := { frames := 5, cells := 0, slots := 0, locals := 112 }
theorem nd_lineOf : yX12_lineOf.cls = RX12 ∧ yX12_lineOf.cls ≠ "java/lang/invoke/MethodHandle" ∧ yX12_lineOf.cls ≠ "java/lang/invoke/VarHandle" ∧ (parseMethodDescriptor yX12_lineOf.desc).map (fun d => d.parameters.length) = some 3 := by decide +kernel
set_option maxHeartbeats 4000000 in
set_option maxRecDepth 100000 in
theorem met_lineOf (x1 : Int32) (x2 : Int64) (x4 : Int32) : mg_MI yX12_lineOf wsX12_lineOf rm_lineOf (fun ad => [.ref (ad 0), .int x1, .long x2, .int x4]) (fun Q h => wp_lineOf Q x1 x2 x4 h) := by
  refine mg_startI (cc := cX12_lineOf) (maxL := 5) (by decide) rfl rfl (fun ad => Nat.le_of_ble_eq_true rfl) (fun X Q h C hnL E hw => ?_)
  unfold wp_lineOf at hw
  refine mg_sub (lv2 := [(0, .ref (mg_ad X 0)), (1, .int x1), (2, .long x2), (4, .int x4)]) [0, 1, 2, 3] rfl ?_
  have hF := hw
  refine mg_iload_n (pc := 0) C dX12_lineOf_0 1 rfl ?_
  refine mg_if_ne (pc := 1) 14 C dX12_lineOf_1 (by decide) (fun hc => ?_) (fun hc => ?_)
  · have hF := hF.1 hc
    refine mg_iload_n (pc := 14) C dX12_lineOf_14 1 rfl ?_
    refine mg_iconst (pc := 15) (v := 1) C dX12_lineOf_15 (by decide) ?_
    refine mg_icmp_ne (pc := 16) 29 C dX12_lineOf_16 (by decide) (fun hc => ?_) (fun hc => ?_)
    · have hF := hF.1 hc
      refine mg_iload_n (pc := 29) C dX12_lineOf_29 1 rfl ?_
      refine mg_iconst (pc := 30) (v := 2) C dX12_lineOf_30 (by decide) ?_
      refine mg_icmp_ne (pc := 31) 44 C dX12_lineOf_31 (by decide) (fun hc => ?_) (fun hc => ?_)
      · have hF := hF.1 hc
        refine mg_aload_n (pc := 44) C dX12_lineOf_44 0 rfl ?_
        refine mg_lload_n (pc := 45) C dX12_lineOf_45 2 rfl ?_
        refine mg_iload (pc := 46) C dX12_lineOf_46 3 rfl ?_
        refine mg_cvI (pc := 48) C (fun ad => [.long x2, .int x4]) (met_orderLine x2 x4) gX12_lineOf_X12_orderLine rfl ⟨rfl, rfl⟩ nd_orderLine ⟨Nat.le_of_ble_eq_true rfl, Nat.le_of_ble_eq_true rfl⟩ rfl rfl (Nat.le_of_ble_eq_true rfl) dX12_lineOf_48 hF (fun r2 h1 hF => ?_)
        exact mg_retZ (pc := 51) C E hF.1 dX12_lineOf_51 hF.2
      · have hF := hF.2 hc
        refine mg_aload_n (pc := 34) C dX12_lineOf_34 0 rfl ?_
        refine mg_lload_n (pc := 35) C dX12_lineOf_35 2 rfl ?_
        refine mg_iload (pc := 36) C dX12_lineOf_36 3 rfl ?_
        refine mg_cvI (pc := 38) C (fun ad => [.long x2, .int x4]) (met_logLine x2 x4) gX12_lineOf_X12_logLine rfl ⟨rfl, rfl⟩ nd_logLine ⟨Nat.le_of_ble_eq_true rfl, Nat.le_of_ble_eq_true rfl⟩ rfl rfl (Nat.le_of_ble_eq_true rfl) dX12_lineOf_38 hF (fun r4 h3 hF => ?_)
        refine mg_goto (pc := 41) 51 C dX12_lineOf_41 (by decide) ?_
        exact mg_retZ (pc := 51) C E hF.1 dX12_lineOf_51 hF.2
    · have hF := hF.2 hc
      refine mg_aload_n (pc := 19) C dX12_lineOf_19 0 rfl ?_
      refine mg_lload_n (pc := 20) C dX12_lineOf_20 2 rfl ?_
      refine mg_iload (pc := 21) C dX12_lineOf_21 3 rfl ?_
      refine mg_cvI (pc := 23) C (fun ad => [.long x2, .int x4]) (met_dayLine x2 x4) gX12_lineOf_X12_dayLine rfl ⟨rfl, rfl⟩ nd_dayLine ⟨Nat.le_of_ble_eq_true rfl, Nat.le_of_ble_eq_true rfl⟩ rfl rfl (Nat.le_of_ble_eq_true rfl) dX12_lineOf_23 hF (fun r6 h5 hF => ?_)
      refine mg_goto (pc := 26) 51 C dX12_lineOf_26 (by decide) ?_
      exact mg_retZ (pc := 51) C E hF.1 dX12_lineOf_51 hF.2
  · have hF := hF.2 hc
    refine mg_aload_n (pc := 4) C dX12_lineOf_4 0 rfl ?_
    refine mg_lload_n (pc := 5) C dX12_lineOf_5 2 rfl ?_
    refine mg_iload (pc := 6) C dX12_lineOf_6 3 rfl ?_
    refine mg_cvI (pc := 8) C (fun ad => [.long x2, .int x4]) (met_shelfLine x2 x4) gX12_lineOf_X12_shelfLine rfl ⟨rfl, rfl⟩ nd_shelfLine ⟨Nat.le_of_ble_eq_true rfl, Nat.le_of_ble_eq_true rfl⟩ rfl rfl (Nat.le_of_ble_eq_true rfl) dX12_lineOf_8 hF (fun r8 h7 hF => ?_)
    refine mg_goto (pc := 11) 51 C dX12_lineOf_11 (by decide) ?_
    exact mg_retZ (pc := 51) C E hF.1 dX12_lineOf_51 hF.2
def rm_allLines : Room := { frames := 6, cells := 0, slots := 0, locals := 136 }
theorem nd_allLines : yX12_allLines.cls = RX12 ∧ yX12_allLines.cls ≠ "java/lang/invoke/MethodHandle" ∧ yX12_allLines.cls ≠ "java/lang/invoke/VarHandle" ∧ (parseMethodDescriptor yX12_allLines.desc).map (fun d => d.parameters.length) = some 1 := by decide +kernel
theorem inm_allLines : ∀ w ∈ wsX120, w ∈ wsX12_allLines := fun _ h9 => List.mem_cons_of_mem _ (List.mem_append_right _ h9)
set_option maxHeartbeats 4000000 in
set_option maxRecDepth 100000 in
theorem met_allLines (x1 : Int32) : mg_MI yX12_allLines wsX12_allLines rm_allLines (fun ad => [.ref (ad 0), .int x1]) (fun Q h => wp_allLines Q x1 h) := by
  refine mg_startI (cc := cX12_allLines) (maxL := 6) (by decide) rfl rfl (fun ad => Nat.le_of_ble_eq_true rfl) (fun X Q h C hnL E hw => ?_)
  unfold wp_allLines at hw
  refine mg_sub (lv2 := [(0, .ref (mg_ad X 0)), (1, .int x1)]) [0, 1] rfl ?_
  refine mg_use (hw (fun (y2 : Int32) (h : mg_H) => mg_W X 2 [(0, .ref (mg_ad X 0)), (1, .int x1), (2, .int y2)] [] h) (fun (y3 : Int32) (s0 : Int64) (h : mg_H) => mg_W X 34 [(0, .ref (mg_ad X 0)), (1, .int x1), (3, .int y3)] [.long s0] h) (fun (y2 : Int32) (h : mg_H) => mg_W X 67 [(0, .ref (mg_ad X 0)), (1, .int x1), (2, .int y2)] [] h) (fun (y2 : Int32) (h : mg_H) => mg_W X 75 [(0, .ref (mg_ad X 0)), (1, .int x1), (2, .int y2)] [] h) ?_ ?_ ?_ ?_) (fun hF => ?_)
  · intro y2 h hF
    refine mg_iload_n (pc := 2) C dX12_allLines_2 2 rfl ?_
    refine mg_if_eq (pc := 3) 78 C dX12_allLines_3 (by decide) (fun hc => ?_) (fun hc => ?_)
    · have hF := hF.1 hc
      refine mg_iload_n (pc := 78) C dX12_allLines_78 2 rfl ?_
      exact mg_retZ (pc := 79) C E hF.1 dX12_allLines_79 hF.2
    · have hF := hF.2 hc
      refine mg_aload_n (pc := 6) C dX12_allLines_6 0 rfl ?_
      refine mg_geti (pc := 7) C inm_allLines 13 (by decide) rfl (by decide) dX12_allLines_7 (List.mem_of_getElem? (i := 1) rfl) ?_
      refine mg_if_eq (pc := 10) 78 C dX12_allLines_10 (by decide) (fun hc => ?_) (fun hc => ?_)
      · have hF := hF.1 hc
        refine mg_iload_n (pc := 78) C dX12_allLines_78 2 rfl ?_
        exact mg_retZ (pc := 79) C E hF.1 dX12_allLines_79 hF.2
      · have hF := hF.2 hc
        refine mg_aload_n (pc := 13) C dX12_allLines_13 0 rfl ?_
        refine mg_geti (pc := 14) C inm_allLines 12 (by decide) rfl (by decide) dX12_allLines_14 (List.mem_of_getElem? (i := 2) rfl) ?_
        refine mg_topi (pc := 17) (fun z1 ez1 => ?_)
        have hF := hF z1 ez1
        refine mg_istore_n (pc := 17) (lv2 := [(3, .int z1), (0, .ref (mg_ad X 0)), (1, .int x1), (2, .int y2)]) C dX12_allLines_17 6 hnL (by decide) rfl ?_
        refine mg_aload_n (pc := 18) C dX12_allLines_18 1 rfl ?_
        refine mg_geti (pc := 19) C inm_allLines 13 (by decide) rfl (by decide) dX12_allLines_19 (List.mem_of_getElem? (i := 1) rfl) ?_
        refine mg_iconst (pc := 22) (v := 2) C dX12_allLines_22 (by decide) ?_
        refine mg_icmp_ne (pc := 23) 33 C dX12_allLines_23 (by decide) (fun hc => ?_) (fun hc => ?_)
        · have hF := hF.1 hc
          refine mg_lconst (pc := 33) (v := 0) C dX12_allLines_33 (by decide) ?_
          refine mg_sub (lv2 := [(0, .ref (mg_ad X 0)), (1, .int x1), (3, .int z1)]) [1, 2, 0] rfl ?_
          exact hF
        · have hF := hF.2 hc
          refine mg_aload_n (pc := 26) C dX12_allLines_26 1 rfl ?_
          refine mg_getl (pc := 27) C inm_allLines dX12_allLines_27 (List.mem_of_getElem? (i := 3) rfl) ?_
          refine mg_goto (pc := 30) 34 C dX12_allLines_30 (by decide) ?_
          refine mg_sub (lv2 := [(0, .ref (mg_ad X 0)), (1, .int x1), (3, .int z1)]) [1, 2, 0] rfl ?_
          exact hF
  · intro y3 s0 h hF
    refine mg_lstore (pc := 34) (lv2 := [(4, .long s0), (0, .ref (mg_ad X 0)), (1, .int x1), (3, .int y3)]) C dX12_allLines_34 6 hnL (by decide) rfl ?_
    refine mg_aload_n (pc := 36) C dX12_allLines_36 1 rfl ?_
    refine mg_iconst (pc := 37) (v := 1) C dX12_allLines_37 (by decide) ?_
    refine mg_putz (pc := 38) C inm_allLines 22 (by decide) rfl (by decide) (Or.inr rfl) dX12_allLines_38 (List.mem_of_getElem? (i := 4) rfl) rfl (tyX12_ok 22 (by decide)) (fun h2 eh2 => ?_)
    have hF := hF h2 eh2
    refine mg_aload_n (pc := 41) C dX12_allLines_41 1 rfl ?_
    refine mg_iload_n (pc := 42) C dX12_allLines_42 2 rfl ?_
    refine mg_lload (pc := 43) C dX12_allLines_43 0 rfl ?_
    refine mg_iload_n (pc := 45) C dX12_allLines_45 3 rfl ?_
    refine mg_cvI (pc := 46) C (fun ad => [.int x1, .long s0, .int y3]) (met_lineOf x1 s0 y3) gX12_allLines_X12_lineOf rfl ⟨rfl, rfl⟩ nd_lineOf ⟨Nat.le_of_ble_eq_true rfl, Nat.le_of_ble_eq_true rfl⟩ rfl rfl (Nat.le_of_ble_eq_true rfl) dX12_allLines_46 hF (fun r4 h3 hF => ?_)
    refine mg_istore_n (pc := 49) (lv2 := [(2, .int r4), (4, .long s0), (0, .ref (mg_ad X 0)), (1, .int x1), (3, .int y3)]) C dX12_allLines_49 6 hnL (by decide) rfl ?_
    refine mg_iload_n (pc := 50) C dX12_allLines_50 0 rfl ?_
    refine mg_if_eq (pc := 51) 67 C dX12_allLines_51 (by decide) (fun hc => ?_) (fun hc => ?_)
    · have hF := hF.1 hc
      refine mg_sub (lv2 := [(0, .ref (mg_ad X 0)), (1, .int x1), (2, .int r4)]) [2, 3, 0] rfl ?_
      exact hF
    · have hF := hF.2 hc
      refine mg_aload_n (pc := 54) C dX12_allLines_54 2 rfl ?_
      refine mg_geti (pc := 55) C inm_allLines 13 (by decide) rfl (by decide) dX12_allLines_55 (List.mem_of_getElem? (i := 1) rfl) ?_
      refine mg_iconst (pc := 58) (v := 4) C dX12_allLines_58 (by decide) ?_
      refine mg_icmp_eq (pc := 59) 67 C dX12_allLines_59 (by decide) (fun hc => ?_) (fun hc => ?_)
      · have hF := hF.1 hc
        refine mg_sub (lv2 := [(0, .ref (mg_ad X 0)), (1, .int x1), (2, .int r4)]) [2, 3, 0] rfl ?_
        exact hF
      · have hF := hF.2 hc
        refine mg_aload_n (pc := 62) C dX12_allLines_62 2 rfl ?_
        refine mg_cvI (pc := 63) C (fun ad => []) (met_fails) gX12_allLines_X12_fails rfl ⟨rfl, rfl⟩ nd_fails ⟨Nat.le_of_ble_eq_true rfl, Nat.le_of_ble_eq_true rfl⟩ rfl rfl (Nat.le_of_ble_eq_true rfl) dX12_allLines_63 hF (fun r6 h5 hF => ?_)
        refine mg_istore_n (pc := 66) (lv2 := [(2, .int r6), (4, .long s0), (0, .ref (mg_ad X 0)), (1, .int x1), (3, .int y3)]) C dX12_allLines_66 6 hnL (by decide) rfl ?_
        refine mg_sub (lv2 := [(0, .ref (mg_ad X 0)), (1, .int x1), (2, .int r6)]) [2, 3, 0] rfl ?_
        exact hF
  · intro y2 h hF
    refine mg_iload_n (pc := 67) C dX12_allLines_67 2 rfl ?_
    refine mg_if_eq (pc := 68) 75 C dX12_allLines_68 (by decide) (fun hc => ?_) (fun hc => ?_)
    · have hF := hF.1 hc
      exact hF
    · have hF := hF.2 hc
      refine mg_aload_n (pc := 71) C dX12_allLines_71 0 rfl ?_
      refine mg_cvV (pc := 72) C (fun ad => []) (met_token) gX12_allLines_X12_token rfl ⟨rfl, rfl⟩ nd_token ⟨Nat.le_of_ble_eq_true rfl, Nat.le_of_ble_eq_true rfl⟩ rfl rfl (Nat.le_of_ble_eq_true rfl) dX12_allLines_72 hF (fun h7 hF => ?_)
      exact hF
  · intro y2 h hF
    refine mg_goto (pc := 75) 2 C dX12_allLines_75 (by decide) ?_
    exact hF
  · skip
    refine mg_iconst (pc := 0) (v := 1) C dX12_allLines_0 (by decide) ?_
    refine mg_istore_n (pc := 1) (lv2 := [(2, .int 1), (0, .ref (mg_ad X 0)), (1, .int x1)]) C dX12_allLines_1 6 hnL (by decide) rfl ?_
    refine mg_sub (lv2 := [(0, .ref (mg_ad X 0)), (1, .int x1), (2, .int 1)]) [1, 2, 0] rfl ?_
    exact hF
def rm_readText : Room := { frames := 7, cells := 0, slots := 0, locals := 161 }
theorem nd_readText : yX12_readText.cls = RX12 ∧ yX12_readText.cls ≠ "java/lang/invoke/MethodHandle" ∧ yX12_readText.cls ≠ "java/lang/invoke/VarHandle" ∧ (parseMethodDescriptor yX12_readText.desc).map (fun d => d.parameters.length) = some 1 := by decide +kernel
theorem inm_readText : ∀ w ∈ wsX120, w ∈ wsX12_readText := fun _ h9 => List.mem_cons_of_mem _ (List.mem_append_right _ h9)
set_option maxHeartbeats 4000000 in
set_option maxRecDepth 100000 in
theorem met_readText (x1 : Int32) : mg_MI yX12_readText wsX12_readText rm_readText (fun ad => [.ref (ad 0), .int x1]) (fun Q h => wp_readText Q x1 h) := by
  refine mg_startI (cc := cX12_readText) (maxL := 3) (by decide) rfl rfl (fun ad => Nat.le_of_ble_eq_true rfl) (fun X Q h C hnL E hw => ?_)
  unfold wp_readText at hw
  refine mg_sub (lv2 := [(0, .ref (mg_ad X 0)), (1, .int x1)]) [0, 1] rfl ?_
  refine mg_use (hw (fun (y2 : Int32) (h : mg_H) => mg_W X 2 [(0, .ref (mg_ad X 0)), (1, .int x1), (2, .int y2)] [] h) (fun (y2 : Int32) (h : mg_H) => mg_W X 102 [(0, .ref (mg_ad X 0)), (2, .int y2)] [] h) (fun (y2 : Int32) (s0 : Int32) (h : mg_H) => mg_W X 32 [(0, .ref (mg_ad X 0)), (1, .int x1), (2, .int y2)] [.int s0, .ref (mg_ad X 19)] h) (fun (y2 : Int32) (s0 : Int32) (s1 : Int32) (h : mg_H) => mg_W X 33 [(0, .ref (mg_ad X 0)), (1, .int x1), (2, .int y2)] [.int s0, .int s1, .ref (mg_ad X 19)] h) (fun (y2 : Int32) (s0 : Int32) (s1 : Int32) (h : mg_H) => mg_W X 119 [(0, .ref (mg_ad X 0)), (2, .int y2)] [.int s0, .int s1, .ref (mg_ad X 3)] h) (fun (s0 : Int32) (s1 : Int32) (h : mg_H) => mg_W X 151 [(0, .ref (mg_ad X 0))] [.int s0, .int s1, .ref (mg_ad X 4)] h) ?_ ?_ ?_ ?_ ?_ ?_) (fun hF => ?_)
  · intro y2 h hF
    refine mg_iload_n (pc := 2) C dX12_readText_2 2 rfl ?_
    refine mg_bipush (pc := 3) (v := 81) C dX12_readText_3 (by decide) ?_
    refine mg_icmp_ge (pc := 5) 40 C dX12_readText_5 (by decide) (fun hc => ?_) (fun hc => ?_)
    · have hF := hF.1 hc
      refine mg_aload_n (pc := 40) C dX12_readText_40 0 rfl ?_
      refine mg_iconst (pc := 41) (v := (-1)) C dX12_readText_41 (by decide) ?_
      refine mg_puti (pc := 42) C inm_readText 21 (by decide) rfl (by decide) dX12_readText_42 (List.mem_of_getElem? (i := 2) rfl) rfl (tyX12_ok 21 (by decide)) (fun h1 eh1 => ?_)
      have hF := hF h1 eh1
      refine mg_aload_n (pc := 45) C dX12_readText_45 0 rfl ?_
      refine mg_iconst (pc := 46) (v := 0) C dX12_readText_46 (by decide) ?_
      refine mg_puti (pc := 47) C inm_readText 10 (by decide) rfl (by decide) dX12_readText_47 (List.mem_of_getElem? (i := 3) rfl) rfl (tyX12_ok 10 (by decide)) (fun h2 eh2 => ?_)
      have hF := hF h2 eh2
      refine mg_aload_n (pc := 50) C dX12_readText_50 0 rfl ?_
      refine mg_iconst (pc := 51) (v := 0) C dX12_readText_51 (by decide) ?_
      refine mg_puti (pc := 52) C inm_readText 17 (by decide) rfl (by decide) dX12_readText_52 (List.mem_of_getElem? (i := 4) rfl) rfl (tyX12_ok 17 (by decide)) (fun h3 eh3 => ?_)
      have hF := hF h3 eh3
      refine mg_aload_n (pc := 55) C dX12_readText_55 0 rfl ?_
      refine mg_cvV (pc := 56) C (fun ad => []) (met_token) gX12_readText_X12_token rfl ⟨rfl, rfl⟩ nd_token ⟨Nat.le_of_ble_eq_true rfl, Nat.le_of_ble_eq_true rfl⟩ rfl rfl (Nat.le_of_ble_eq_true rfl) dX12_readText_56 hF (fun h4 hF => ?_)
      refine mg_aload_n (pc := 59) C dX12_readText_59 0 rfl ?_
      refine mg_iload_n (pc := 60) C dX12_readText_60 1 rfl ?_
      refine mg_cvI (pc := 61) C (fun ad => [.int x1]) (met_allLines x1) gX12_readText_X12_allLines rfl ⟨rfl, rfl⟩ nd_allLines ⟨Nat.le_of_ble_eq_true rfl, Nat.le_of_ble_eq_true rfl⟩ rfl rfl (Nat.le_of_ble_eq_true rfl) dX12_readText_61 hF (fun r6 h5 hF => ?_)
      refine mg_istore_n (pc := 64) (lv2 := [(2, .int r6), (0, .ref (mg_ad X 0)), (1, .int x1)]) C dX12_readText_64 3 hnL (by decide) rfl ?_
      refine mg_iload_n (pc := 65) C dX12_readText_65 0 rfl ?_
      refine mg_if_eq (pc := 66) 102 C dX12_readText_66 (by decide) (fun hc => ?_) (fun hc => ?_)
      · have hF := hF.1 hc
        refine mg_sub (lv2 := [(0, .ref (mg_ad X 0)), (2, .int r6)]) [1, 0] rfl ?_
        exact hF
      · have hF := hF.2 hc
        refine mg_iload_n (pc := 69) C dX12_readText_69 2 rfl ?_
        refine mg_if_ne (pc := 70) 102 C dX12_readText_70 (by decide) (fun hc => ?_) (fun hc => ?_)
        · have hF := hF.1 hc
          refine mg_sub (lv2 := [(0, .ref (mg_ad X 0)), (2, .int r6)]) [1, 0] rfl ?_
          exact hF
        · have hF := hF.2 hc
          refine mg_aload_n (pc := 73) C dX12_readText_73 1 rfl ?_
          refine mg_geti (pc := 74) C inm_readText 17 (by decide) rfl (by decide) dX12_readText_74 (List.mem_of_getElem? (i := 4) rfl) ?_
          refine mg_if_ne (pc := 77) 102 C dX12_readText_77 (by decide) (fun hc => ?_) (fun hc => ?_)
          · have hF := hF.1 hc
            refine mg_sub (lv2 := [(0, .ref (mg_ad X 0)), (2, .int r6)]) [1, 0] rfl ?_
            exact hF
          · have hF := hF.2 hc
            refine mg_aload_n (pc := 80) C dX12_readText_80 1 rfl ?_
            refine mg_geti (pc := 81) C inm_readText 21 (by decide) rfl (by decide) dX12_readText_81 (List.mem_of_getElem? (i := 2) rfl) ?_
            refine mg_aload_n (pc := 84) C dX12_readText_84 1 rfl ?_
            refine mg_getr (pc := 85) C inm_readText 19 (by decide) (by decide) dX12_readText_85 (List.mem_of_getElem? (i := 1) rfl) ?_
            refine mg_iconst (pc := 88) (v := 0) C dX12_readText_88 (by decide) ?_
            obtain ⟨hi, hF⟩ := hF
            refine mg_iald (pc := 89) C (by decide) rfl hi dX12_readText_89 ?_
            refine mg_icmp_lt (pc := 90) 102 C dX12_readText_90 (by decide) (fun hc => ?_) (fun hc => ?_)
            · have hF := hF.1 hc
              refine mg_sub (lv2 := [(0, .ref (mg_ad X 0)), (2, .int r6)]) [1, 0] rfl ?_
              exact hF
            · have hF := hF.2 hc
              refine mg_aload_n (pc := 93) C dX12_readText_93 1 rfl ?_
              refine mg_iconst (pc := 94) (v := 4) C dX12_readText_94 (by decide) ?_
              refine mg_aload_n (pc := 95) C dX12_readText_95 1 rfl ?_
              refine mg_geti (pc := 96) C inm_readText 12 (by decide) rfl (by decide) dX12_readText_96 (List.mem_of_getElem? (i := 5) rfl) ?_
              refine mg_cvV (pc := 99) C (fun ad => [.int 4, .int (mg_i h5 0 12)]) (met_addsFault 4 (mg_i h5 0 12)) gX12_readText_X12_addsFault rfl ⟨rfl, rfl⟩ nd_addsFault ⟨Nat.le_of_ble_eq_true rfl, Nat.le_of_ble_eq_true rfl⟩ rfl rfl (Nat.le_of_ble_eq_true rfl) dX12_readText_99 hF (fun h7 hF => ?_)
              refine mg_sub (lv2 := [(0, .ref (mg_ad X 0)), (2, .int r6)]) [1, 0] rfl ?_
              exact hF
    · have hF := hF.2 hc
      refine mg_aload_n (pc := 8) C dX12_readText_8 0 rfl ?_
      refine mg_getr (pc := 9) C inm_readText 19 (by decide) (by decide) dX12_readText_9 (List.mem_of_getElem? (i := 1) rfl) ?_
      refine mg_iload_n (pc := 12) C dX12_readText_12 2 rfl ?_
      refine mg_iload_n (pc := 13) C dX12_readText_13 1 rfl ?_
      refine mg_if_ne (pc := 14) 32 C dX12_readText_14 (by decide) (fun hc => ?_) (fun hc => ?_)
      · have hF := hF.1 hc
        exact hF
      · have hF := hF.2 hc
        refine mg_iload_n (pc := 17) C dX12_readText_17 2 rfl ?_
        refine mg_bipush (pc := 18) (v := 9) C dX12_readText_18 (by decide) ?_
        refine mg_bipush (pc := 20) (v := 12) C dX12_readText_20 (by decide) ?_
        refine mg_csI (pc := 22) C (fun ad => [.int y2, .int 9, .int 12]) (met_in y2 9 12) gX12_readText_X12_in rfl ⟨rfl, rfl⟩ nd_in.2 ⟨Nat.le_of_ble_eq_true rfl, Nat.le_of_ble_eq_true rfl⟩ rfl rfl (Nat.le_of_ble_eq_true rfl) dX12_readText_22 hF (fun r9 h8 hF => ?_)
        refine mg_if_eq (pc := 25) 32 C dX12_readText_25 (by decide) (fun hc => ?_) (fun hc => ?_)
        · have hF := hF.1 hc
          exact hF
        · have hF := hF.2 hc
          refine mg_iconst (pc := 28) (v := 1) C dX12_readText_28 (by decide) ?_
          refine mg_goto (pc := 29) 33 C dX12_readText_29 (by decide) ?_
          exact hF
  · intro y2 h hF
    refine mg_aload_n (pc := 102) C dX12_readText_102 0 rfl ?_
    refine mg_getr (pc := 103) C inm_readText 3 (by decide) (by decide) dX12_readText_103 (List.mem_of_getElem? (i := 6) rfl) ?_
    refine mg_iconst (pc := 106) (v := 0) C dX12_readText_106 (by decide) ?_
    refine mg_iload_n (pc := 107) C dX12_readText_107 1 rfl ?_
    refine mg_if_eq (pc := 108) 118 C dX12_readText_108 (by decide) (fun hc => ?_) (fun hc => ?_)
    · have hF := hF.1 hc
      refine mg_iconst (pc := 118) (v := 1) C dX12_readText_118 (by decide) ?_
      exact hF
    · have hF := hF.2 hc
      refine mg_aload_n (pc := 111) C dX12_readText_111 0 rfl ?_
      refine mg_geti (pc := 112) C inm_readText 17 (by decide) rfl (by decide) dX12_readText_112 (List.mem_of_getElem? (i := 4) rfl) ?_
      refine mg_goto (pc := 115) 119 C dX12_readText_115 (by decide) ?_
      exact hF
  · intro y2 s0 h hF
    refine mg_iconst (pc := 32) (v := 0) C dX12_readText_32 (by decide) ?_
    exact hF
  · intro y2 s0 s1 h hF
    obtain ⟨hi, hF⟩ := hF
    refine mg_iast (pc := 33) C (by decide) rfl hi dX12_readText_33 (fun h10 eh10 => ?_)
    have hF := hF h10 eh10
    obtain ⟨z11, ez11⟩ : ∃ y : Int32, y = y2 + 1 := ⟨_, rfl⟩
    have hF := hF z11 ez11
    refine mg_iinc (pc := 34) (v := z11) (lv2 := [(2, .int z11), (0, .ref (mg_ad X 0)), (1, .int x1)]) C dX12_readText_34 2 rfl (by rw [ez11]; rfl) 3 hnL (by decide) rfl ?_
    refine mg_goto (pc := 37) 2 C dX12_readText_37 (by decide) ?_
    refine mg_sub (lv2 := [(0, .ref (mg_ad X 0)), (1, .int x1), (2, .int z11)]) [1, 2, 0] rfl ?_
    exact hF
  · intro y2 s0 s1 h hF
    obtain ⟨hi, hF⟩ := hF
    refine mg_iast (pc := 119) C (by decide) rfl hi dX12_readText_119 (fun h12 eh12 => ?_)
    have hF := hF h12 eh12
    refine mg_aload_n (pc := 120) C dX12_readText_120 0 rfl ?_
    refine mg_getr (pc := 121) C inm_readText 4 (by decide) (by decide) dX12_readText_121 (List.mem_of_getElem? (i := 7) rfl) ?_
    refine mg_iconst (pc := 124) (v := 0) C dX12_readText_124 (by decide) ?_
    refine mg_iload_n (pc := 125) C dX12_readText_125 1 rfl ?_
    refine mg_if_ne (pc := 126) 136 C dX12_readText_126 (by decide) (fun hc => ?_) (fun hc => ?_)
    · have hF := hF.1 hc
      refine mg_aload_n (pc := 136) C dX12_readText_136 0 rfl ?_
      refine mg_geti (pc := 137) C inm_readText 17 (by decide) rfl (by decide) dX12_readText_137 (List.mem_of_getElem? (i := 4) rfl) ?_
      refine mg_if_le (pc := 140) 150 C dX12_readText_140 (by decide) (fun hc => ?_) (fun hc => ?_)
      · have hF := hF.1 hc
        refine mg_iconst (pc := 150) (v := (-1)) C dX12_readText_150 (by decide) ?_
        refine mg_sub (lv2 := [(0, .ref (mg_ad X 0))]) [0] rfl ?_
        exact hF
      · have hF := hF.2 hc
        refine mg_aload_n (pc := 143) C dX12_readText_143 0 rfl ?_
        refine mg_geti (pc := 144) C inm_readText 18 (by decide) rfl (by decide) dX12_readText_144 (List.mem_of_getElem? (i := 9) rfl) ?_
        refine mg_goto (pc := 147) 151 C dX12_readText_147 (by decide) ?_
        refine mg_sub (lv2 := [(0, .ref (mg_ad X 0))]) [0] rfl ?_
        exact hF
    · have hF := hF.2 hc
      refine mg_aload_n (pc := 129) C dX12_readText_129 0 rfl ?_
      refine mg_geti (pc := 130) C inm_readText 16 (by decide) rfl (by decide) dX12_readText_130 (List.mem_of_getElem? (i := 8) rfl) ?_
      refine mg_goto (pc := 133) 151 C dX12_readText_133 (by decide) ?_
      refine mg_sub (lv2 := [(0, .ref (mg_ad X 0))]) [0] rfl ?_
      exact hF
  · intro s0 s1 h hF
    obtain ⟨hi, hF⟩ := hF
    refine mg_iast (pc := 151) C (by decide) rfl hi dX12_readText_151 (fun h13 eh13 => ?_)
    have hF := hF h13 eh13
    refine mg_aload_n (pc := 152) C dX12_readText_152 0 rfl ?_
    refine mg_getr (pc := 153) C inm_readText 3 (by decide) (by decide) dX12_readText_153 (List.mem_of_getElem? (i := 6) rfl) ?_
    refine mg_iconst (pc := 156) (v := 0) C dX12_readText_156 (by decide) ?_
    obtain ⟨hi, hF⟩ := hF
    refine mg_iald (pc := 157) C (by decide) rfl hi dX12_readText_157 ?_
    refine mg_if_ne (pc := 158) 165 C dX12_readText_158 (by decide) (fun hc => ?_) (fun hc => ?_)
    · have hF := hF.1 hc
      refine mg_iconst (pc := 165) (v := 0) C dX12_readText_165 (by decide) ?_
      exact mg_retZ (pc := 166) C E (Or.inl rfl) dX12_readText_166 hF
    · have hF := hF.2 hc
      refine mg_iconst (pc := 161) (v := 1) C dX12_readText_161 (by decide) ?_
      refine mg_goto (pc := 162) 166 C dX12_readText_162 (by decide) ?_
      exact mg_retZ (pc := 166) C E (Or.inr rfl) dX12_readText_166 hF
  · skip
    refine mg_iconst (pc := 0) (v := 0) C dX12_readText_0 (by decide) ?_
    refine mg_istore_n (pc := 1) (lv2 := [(2, .int 0), (0, .ref (mg_ad X 0)), (1, .int x1)]) C dX12_readText_1 3 hnL (by decide) rfl ?_
    refine mg_sub (lv2 := [(0, .ref (mg_ad X 0)), (1, .int x1), (2, .int 0)]) [1, 2, 0] rfl ?_
    exact hF
def rm_store : Room := { frames := 0, cells := 0, slots := 0, locals := 0 }
theorem nd_store : yX12_store.cls = RX12 ∧ yX12_store.cls ≠ "java/lang/invoke/MethodHandle" ∧ yX12_store.cls ≠ "java/lang/invoke/VarHandle" ∧ (parseMethodDescriptor yX12_store.desc).map (fun d => d.parameters.length) = some 3 := by decide +kernel
theorem inm_store : ∀ w ∈ wsX120, w ∈ wsX12_store := fun _ h9 => List.mem_cons_of_mem _ (List.mem_append_right _ h9)
set_option maxHeartbeats 4000000 in
set_option maxRecDepth 100000 in
theorem met_store (c1 : Nat) (x2 : Int32) (x3 : Int32) : mg_MV yX12_store wsX12_store rm_store (fun ad => [.ref (ad 0), .ref (ad c1), .int x2, .int x3]) (fun Q h => wp_store Q c1 x2 x3 h) := by
  refine mg_startV (cc := cX12_store) (maxL := 5) (by decide) rfl rfl (fun ad => Nat.le_of_ble_eq_true rfl) (fun X Q h C hnL E hw => ?_)
  unfold wp_store at hw
  obtain ⟨⟨hc1c, hc1k⟩, hw⟩ := hw
  refine mg_sub (lv2 := [(0, .ref (mg_ad X 0)), (1, .ref (mg_ad X c1)), (2, .int x2), (3, .int x3)]) [0, 1, 2, 3] rfl ?_
  refine mg_use (hw (fun (y4 : Int32) (h : mg_H) => mg_W X 3 [(0, .ref (mg_ad X 0)), (1, .ref (mg_ad X c1)), (2, .int x2), (3, .int x3), (4, .int y4)] [] h) ?_) (fun hF => ?_)
  · intro y4 h hF
    refine mg_iload (pc := 3) C dX12_store_3 4 rfl ?_
    refine mg_iload_n (pc := 5) C dX12_store_5 2 rfl ?_
    refine mg_icmp_ge (pc := 6) 30 C dX12_store_6 (by decide) (fun hc => ?_) (fun hc => ?_)
    · have hF := hF.1 hc
      exact mg_retV (pc := 30) C E dX12_store_30 hF
    · have hF := hF.2 hc
      refine mg_aload_n (pc := 9) C dX12_store_9 1 rfl ?_
      refine mg_iload_n (pc := 10) C dX12_store_10 2 rfl ?_
      refine mg_iload_n (pc := 11) C dX12_store_11 3 rfl ?_
      refine mg_imul (pc := 12) C dX12_store_12 ?_
      refine mg_iload (pc := 13) C dX12_store_13 4 rfl ?_
      refine mg_iadd (pc := 15) C dX12_store_15 ?_
      refine mg_aload_n (pc := 16) C dX12_store_16 0 rfl ?_
      refine mg_getr (pc := 17) C inm_store 19 (by decide) (by decide) dX12_store_17 (List.mem_of_getElem? (i := 1) rfl) ?_
      refine mg_iload (pc := 20) C dX12_store_20 4 rfl ?_
      obtain ⟨hi, hF⟩ := hF
      refine mg_iald (pc := 22) C (by decide) rfl hi dX12_store_22 ?_
      obtain ⟨hi, hF⟩ := hF
      refine mg_iast (pc := 23) C hc1c hc1k hi dX12_store_23 (fun h1 eh1 => ?_)
      have hF := hF h1 eh1
      obtain ⟨z2, ez2⟩ : ∃ y : Int32, y = y4 + 1 := ⟨_, rfl⟩
      have hF := hF z2 ez2
      refine mg_iinc (pc := 24) (v := z2) (lv2 := [(4, .int z2), (0, .ref (mg_ad X 0)), (1, .ref (mg_ad X c1)), (2, .int x2), (3, .int x3)]) C dX12_store_24 4 rfl (by rw [ez2]; rfl) 5 hnL (by decide) rfl ?_
      refine mg_goto (pc := 27) 3 C dX12_store_27 (by decide) ?_
      refine mg_sub (lv2 := [(0, .ref (mg_ad X 0)), (1, .ref (mg_ad X c1)), (2, .int x2), (3, .int x3), (4, .int z2)]) [1, 2, 3, 4, 0] rfl ?_
      exact hF
  · skip
    refine mg_iconst (pc := 0) (v := 0) C dX12_store_0 (by decide) ?_
    refine mg_istore (pc := 1) (lv2 := [(4, .int 0), (0, .ref (mg_ad X 0)), (1, .ref (mg_ad X c1)), (2, .int x2), (3, .int x3)]) C dX12_store_1 5 hnL (by decide) rfl ?_
    refine mg_sub (lv2 := [(0, .ref (mg_ad X 0)), (1, .ref (mg_ad X c1)), (2, .int x2), (3, .int x3), (4, .int 0)]) [1, 2, 3, 4, 0] rfl ?_
    exact hF
def rm_storeOf : Room := { frames := 1, cells := 0, slots := 0, locals := 24 }
theorem nd_storeOf : yX12_storeOf.cls = RX12 ∧ yX12_storeOf.cls ≠ "java/lang/invoke/MethodHandle" ∧ yX12_storeOf.cls ≠ "java/lang/invoke/VarHandle" ∧ (parseMethodDescriptor yX12_storeOf.desc).map (fun d => d.parameters.length) = some 2 := by decide +kernel
theorem inm_storeOf : ∀ w ∈ wsX120, w ∈ wsX12_storeOf := fun _ h9 => List.mem_cons_of_mem _ (List.mem_append_right _ h9)
set_option maxHeartbeats 4000000 in
set_option maxRecDepth 100000 in
theorem met_storeOf (x1 : Int32) (x2 : Int32) : mg_MV yX12_storeOf wsX12_storeOf rm_storeOf (fun ad => [.ref (ad 0), .int x1, .int x2]) (fun Q h => wp_storeOf Q x1 x2 h) := by
  refine mg_startV (cc := cX12_storeOf) (maxL := 3) (by decide) rfl rfl (fun ad => Nat.le_of_ble_eq_true rfl) (fun X Q h C hnL E hw => ?_)
  unfold wp_storeOf at hw
  refine mg_sub (lv2 := [(0, .ref (mg_ad X 0)), (1, .int x1), (2, .int x2)]) [0, 1, 2] rfl ?_
  have hF := hw
  refine mg_iload_n (pc := 0) C dX12_storeOf_0 1 rfl ?_
  refine mg_if_ne (pc := 1) 18 C dX12_storeOf_1 (by decide) (fun hc => ?_) (fun hc => ?_)
  · have hF := hF.1 hc
    refine mg_iload_n (pc := 18) C dX12_storeOf_18 1 rfl ?_
    refine mg_iconst (pc := 19) (v := 1) C dX12_storeOf_19 (by decide) ?_
    refine mg_icmp_ne (pc := 20) 37 C dX12_storeOf_20 (by decide) (fun hc => ?_) (fun hc => ?_)
    · have hF := hF.1 hc
      refine mg_iload_n (pc := 37) C dX12_storeOf_37 1 rfl ?_
      refine mg_iconst (pc := 38) (v := 2) C dX12_storeOf_38 (by decide) ?_
      refine mg_icmp_ne (pc := 39) 56 C dX12_storeOf_39 (by decide) (fun hc => ?_) (fun hc => ?_)
      · have hF := hF.1 hc
        refine mg_aload_n (pc := 56) C dX12_storeOf_56 0 rfl ?_
        refine mg_aload_n (pc := 57) C dX12_storeOf_57 0 rfl ?_
        refine mg_getr (pc := 58) C inm_storeOf 9 (by decide) (by decide) dX12_storeOf_58 (List.mem_of_getElem? (i := 4) rfl) ?_
        refine mg_bipush (pc := 61) (v := 7) C dX12_storeOf_61 (by decide) ?_
        refine mg_iload_n (pc := 63) C dX12_storeOf_63 2 rfl ?_
        refine mg_cvV (pc := 64) C (fun ad => [.ref (ad 9), .int 7, .int x2]) (met_store 9 7 x2) gX12_storeOf_X12_store rfl ⟨rfl, rfl⟩ nd_store ⟨Nat.le_of_ble_eq_true rfl, Nat.le_of_ble_eq_true rfl⟩ rfl rfl (Nat.le_of_ble_eq_true rfl) dX12_storeOf_64 hF (fun h1 hF => ?_)
        exact mg_retV (pc := 67) C E dX12_storeOf_67 hF
      · have hF := hF.2 hc
        refine mg_aload_n (pc := 42) C dX12_storeOf_42 0 rfl ?_
        refine mg_aload_n (pc := 43) C dX12_storeOf_43 0 rfl ?_
        refine mg_getr (pc := 44) C inm_storeOf 8 (by decide) (by decide) dX12_storeOf_44 (List.mem_of_getElem? (i := 3) rfl) ?_
        refine mg_bipush (pc := 47) (v := 17) C dX12_storeOf_47 (by decide) ?_
        refine mg_iload_n (pc := 49) C dX12_storeOf_49 2 rfl ?_
        refine mg_cvV (pc := 50) C (fun ad => [.ref (ad 8), .int 17, .int x2]) (met_store 8 17 x2) gX12_storeOf_X12_store rfl ⟨rfl, rfl⟩ nd_store ⟨Nat.le_of_ble_eq_true rfl, Nat.le_of_ble_eq_true rfl⟩ rfl rfl (Nat.le_of_ble_eq_true rfl) dX12_storeOf_50 hF (fun h2 hF => ?_)
        refine mg_goto (pc := 53) 67 C dX12_storeOf_53 (by decide) ?_
        exact mg_retV (pc := 67) C E dX12_storeOf_67 hF
    · have hF := hF.2 hc
      refine mg_aload_n (pc := 23) C dX12_storeOf_23 0 rfl ?_
      refine mg_aload_n (pc := 24) C dX12_storeOf_24 0 rfl ?_
      refine mg_getr (pc := 25) C inm_storeOf 7 (by decide) (by decide) dX12_storeOf_25 (List.mem_of_getElem? (i := 2) rfl) ?_
      refine mg_bipush (pc := 28) (v := 81) C dX12_storeOf_28 (by decide) ?_
      refine mg_iload_n (pc := 30) C dX12_storeOf_30 2 rfl ?_
      refine mg_cvV (pc := 31) C (fun ad => [.ref (ad 7), .int 81, .int x2]) (met_store 7 81 x2) gX12_storeOf_X12_store rfl ⟨rfl, rfl⟩ nd_store ⟨Nat.le_of_ble_eq_true rfl, Nat.le_of_ble_eq_true rfl⟩ rfl rfl (Nat.le_of_ble_eq_true rfl) dX12_storeOf_31 hF (fun h3 hF => ?_)
      refine mg_goto (pc := 34) 67 C dX12_storeOf_34 (by decide) ?_
      exact mg_retV (pc := 67) C E dX12_storeOf_67 hF
  · have hF := hF.2 hc
    refine mg_aload_n (pc := 4) C dX12_storeOf_4 0 rfl ?_
    refine mg_aload_n (pc := 5) C dX12_storeOf_5 0 rfl ?_
    refine mg_getr (pc := 6) C inm_storeOf 6 (by decide) (by decide) dX12_storeOf_6 (List.mem_of_getElem? (i := 1) rfl) ?_
    refine mg_bipush (pc := 9) (v := 13) C dX12_storeOf_9 (by decide) ?_
    refine mg_iload_n (pc := 11) C dX12_storeOf_11 2 rfl ?_
    refine mg_cvV (pc := 12) C (fun ad => [.ref (ad 6), .int 13, .int x2]) (met_store 6 13 x2) gX12_storeOf_X12_store rfl ⟨rfl, rfl⟩ nd_store ⟨Nat.le_of_ble_eq_true rfl, Nat.le_of_ble_eq_true rfl⟩ rfl rfl (Nat.le_of_ble_eq_true rfl) dX12_storeOf_12 hF (fun h4 hF => ?_)
    refine mg_goto (pc := 15) 67 C dX12_storeOf_15 (by decide) ?_
    exact mg_retV (pc := 67) C E dX12_storeOf_67 hF
def rm_text : Room := { frames := 8, cells := 0, slots := 0, locals := 183 }
theorem nd_text : yX12_text.cls = RX12 ∧ yX12_text.cls ≠ "java/lang/invoke/MethodHandle" ∧ yX12_text.cls ≠ "java/lang/invoke/VarHandle" ∧ (parseMethodDescriptor yX12_text.desc).map (fun d => d.parameters.length) = some 2 := by decide +kernel
theorem inm_text : ∀ w ∈ wsX120, w ∈ wsX12_text := fun _ h9 => List.mem_cons_of_mem _ (List.mem_append_right _ h9)
set_option maxHeartbeats 4000000 in
set_option maxRecDepth 100000 in
theorem met_text (x1 : Int32) (x2 : Int32) : mg_MI yX12_text wsX12_text rm_text (fun ad => [.ref (ad 0), .int x1, .int x2]) (fun Q h => wp_text Q x1 x2 h) := by
  refine mg_startI (cc := cX12_text) (maxL := 4) (by decide) rfl rfl (fun ad => Nat.le_of_ble_eq_true rfl) (fun X Q h C hnL E hw => ?_)
  unfold wp_text at hw
  refine mg_sub (lv2 := [(0, .ref (mg_ad X 0)), (1, .int x1), (2, .int x2)]) [0, 1, 2] rfl ?_
  refine mg_use (hw (fun (h : mg_H) => mg_W X 75 [(0, .ref (mg_ad X 0)), (1, .int x1), (2, .int x2)] [] h) (fun (s0 : Int32) (h : mg_H) => mg_W X 100 [(0, .ref (mg_ad X 0)), (1, .int x1), (2, .int x2)] [.int s0] h) (fun (y3 : Int32) (s0 : Int32) (s1 : Int32) (s2 : Int32) (h : mg_H) => mg_W X 118 [(0, .ref (mg_ad X 0)), (1, .int x1), (3, .int y3)] [.int s0, .int s1, .int s2, .ref (mg_ad X 5)] h) ?_ ?_ ?_) (fun hF => ?_)
  · intro h hF
    refine mg_aload_n (pc := 75) C dX12_text_75 0 rfl ?_
    refine mg_iload_n (pc := 76) C dX12_text_76 1 rfl ?_
    refine mg_cvI (pc := 77) C (fun ad => [.int x1]) (met_readText x1) gX12_text_X12_readText rfl ⟨rfl, rfl⟩ nd_readText ⟨Nat.le_of_ble_eq_true rfl, Nat.le_of_ble_eq_true rfl⟩ rfl rfl (Nat.le_of_ble_eq_true rfl) dX12_text_77 hF (fun r11 h10 hF => ?_)
    refine mg_if_ne (pc := 80) 85 C dX12_text_80 (by decide) (fun hc => ?_) (fun hc => ?_)
    · have hF := hF.1 hc
      refine mg_iload_n (pc := 85) C dX12_text_85 2 rfl ?_
      refine mg_iconst (pc := 86) (v := (-1)) C dX12_text_86 (by decide) ?_
      refine mg_icmp_ne (pc := 87) 99 C dX12_text_87 (by decide) (fun hc => ?_) (fun hc => ?_)
      · have hF := hF.1 hc
        refine mg_iload_n (pc := 99) C dX12_text_99 2 rfl ?_
        exact hF
      · have hF := hF.2 hc
        refine mg_aload_n (pc := 90) C dX12_text_90 0 rfl ?_
        refine mg_getr (pc := 91) C inm_text 5 (by decide) (by decide) dX12_text_91 (List.mem_of_getElem? (i := 6) rfl) ?_
        refine mg_iload_n (pc := 94) C dX12_text_94 1 rfl ?_
        obtain ⟨hi, hF⟩ := hF
        refine mg_iald (pc := 95) C (by decide) rfl hi dX12_text_95 ?_
        refine mg_goto (pc := 96) 100 C dX12_text_96 (by decide) ?_
        exact hF
    · have hF := hF.2 hc
      refine mg_iconst (pc := 83) (v := (-1)) C dX12_text_83 (by decide) ?_
      exact mg_retI (pc := 84) C E dX12_text_84 hF
  · intro s0 h hF
    refine mg_istore_n (pc := 100) (lv2 := [(3, .int s0), (0, .ref (mg_ad X 0)), (1, .int x1), (2, .int x2)]) C dX12_text_100 4 hnL (by decide) rfl ?_
    refine mg_aload_n (pc := 101) C dX12_text_101 1 rfl ?_
    refine mg_getr (pc := 102) C inm_text 5 (by decide) (by decide) dX12_text_102 (List.mem_of_getElem? (i := 6) rfl) ?_
    refine mg_iload_n (pc := 105) C dX12_text_105 2 rfl ?_
    refine mg_dup2 (pc := 106) C dX12_text_106 rfl rfl ?_
    obtain ⟨hi, hF⟩ := hF
    refine mg_iald (pc := 107) C (by decide) rfl hi dX12_text_107 ?_
    refine mg_iload_n (pc := 108) C dX12_text_108 3 rfl ?_
    refine mg_iconst (pc := 109) (v := (-1)) C dX12_text_109 (by decide) ?_
    refine mg_icmp_ne (pc := 110) 117 C dX12_text_110 (by decide) (fun hc => ?_) (fun hc => ?_)
    · have hF := hF.1 hc
      refine mg_iconst (pc := 117) (v := 0) C dX12_text_117 (by decide) ?_
      refine mg_sub (lv2 := [(0, .ref (mg_ad X 0)), (1, .int x1), (3, .int s0)]) [1, 2, 0] rfl ?_
      exact hF
    · have hF := hF.2 hc
      refine mg_iconst (pc := 113) (v := 1) C dX12_text_113 (by decide) ?_
      refine mg_goto (pc := 114) 118 C dX12_text_114 (by decide) ?_
      refine mg_sub (lv2 := [(0, .ref (mg_ad X 0)), (1, .int x1), (3, .int s0)]) [1, 2, 0] rfl ?_
      exact hF
  · intro y3 s0 s1 s2 h hF
    refine mg_iadd (pc := 118) C dX12_text_118 ?_
    obtain ⟨hi, hF⟩ := hF
    refine mg_iast (pc := 119) C (by decide) rfl hi dX12_text_119 (fun h12 eh12 => ?_)
    have hF := hF h12 eh12
    refine mg_aload_n (pc := 120) C dX12_text_120 0 rfl ?_
    refine mg_iload_n (pc := 121) C dX12_text_121 1 rfl ?_
    refine mg_iload_n (pc := 122) C dX12_text_122 2 rfl ?_
    refine mg_cvV (pc := 123) C (fun ad => [.int x1, .int y3]) (met_storeOf x1 y3) gX12_text_X12_storeOf rfl ⟨rfl, rfl⟩ nd_storeOf ⟨Nat.le_of_ble_eq_true rfl, Nat.le_of_ble_eq_true rfl⟩ rfl rfl (Nat.le_of_ble_eq_true rfl) dX12_text_123 hF (fun h13 hF => ?_)
    refine mg_iload_n (pc := 126) C dX12_text_126 2 rfl ?_
    exact mg_retI (pc := 127) C E dX12_text_127 hF
  · skip
    refine mg_aload_n (pc := 0) C dX12_text_0 0 rfl ?_
    refine mg_iconst (pc := 1) (v := 0) C dX12_text_1 (by decide) ?_
    refine mg_puti (pc := 2) C inm_text 0 (by decide) rfl (by decide) dX12_text_2 (List.mem_of_getElem? (i := 1) rfl) rfl (tyX12_ok 0 (by decide)) (fun h1 eh1 => ?_)
    have hF := hF h1 eh1
    refine mg_aload_n (pc := 5) C dX12_text_5 0 rfl ?_
    refine mg_aload_n (pc := 6) C dX12_text_6 0 rfl ?_
    refine mg_getr (pc := 7) C inm_text 2 (by decide) (by decide) dX12_text_7 (List.mem_of_getElem? (i := 2) rfl) ?_
    refine mg_iconst (pc := 10) (v := 0) C dX12_text_10 (by decide) ?_
    obtain ⟨hi, hF⟩ := hF
    refine mg_iald (pc := 11) C (by decide) rfl hi dX12_text_11 ?_
    refine mg_puti (pc := 12) C inm_text 11 (by decide) rfl (by decide) dX12_text_12 (List.mem_of_getElem? (i := 3) rfl) rfl (tyX12_ok 11 (by decide)) (fun h2 eh2 => ?_)
    have hF := hF h2 eh2
    refine mg_aload_n (pc := 15) C dX12_text_15 0 rfl ?_
    refine mg_getr (pc := 16) C inm_text 2 (by decide) (by decide) dX12_text_16 (List.mem_of_getElem? (i := 2) rfl) ?_
    refine mg_iconst (pc := 19) (v := 0) C dX12_text_19 (by decide) ?_
    refine mg_iconst (pc := 20) (v := 0) C dX12_text_20 (by decide) ?_
    obtain ⟨hi, hF⟩ := hF
    refine mg_iast (pc := 21) C (by decide) rfl hi dX12_text_21 (fun h3 eh3 => ?_)
    have hF := hF h3 eh3
    refine mg_aload_n (pc := 22) C dX12_text_22 0 rfl ?_
    refine mg_getr (pc := 23) C inm_text 3 (by decide) (by decide) dX12_text_23 (List.mem_of_getElem? (i := 4) rfl) ?_
    refine mg_iconst (pc := 26) (v := 0) C dX12_text_26 (by decide) ?_
    refine mg_iconst (pc := 27) (v := 0) C dX12_text_27 (by decide) ?_
    obtain ⟨hi, hF⟩ := hF
    refine mg_iast (pc := 28) C (by decide) rfl hi dX12_text_28 (fun h4 eh4 => ?_)
    have hF := hF h4 eh4
    refine mg_aload_n (pc := 29) C dX12_text_29 0 rfl ?_
    refine mg_getr (pc := 30) C inm_text 4 (by decide) (by decide) dX12_text_30 (List.mem_of_getElem? (i := 5) rfl) ?_
    refine mg_iconst (pc := 33) (v := 0) C dX12_text_33 (by decide) ?_
    refine mg_iconst (pc := 34) (v := (-1)) C dX12_text_34 (by decide) ?_
    obtain ⟨hi, hF⟩ := hF
    refine mg_iast (pc := 35) C (by decide) rfl hi dX12_text_35 (fun h5 eh5 => ?_)
    have hF := hF h5 eh5
    refine mg_iload_n (pc := 36) C dX12_text_36 1 rfl ?_
    refine mg_iconst (pc := 37) (v := 0) C dX12_text_37 (by decide) ?_
    refine mg_iconst (pc := 38) (v := 3) C dX12_text_38 (by decide) ?_
    refine mg_csI (pc := 39) C (fun ad => [.int x1, .int 0, .int 3]) (met_in x1 0 3) gX12_text_X12_in rfl ⟨rfl, rfl⟩ nd_in.2 ⟨Nat.le_of_ble_eq_true rfl, Nat.le_of_ble_eq_true rfl⟩ rfl rfl (Nat.le_of_ble_eq_true rfl) dX12_text_39 hF (fun r7 h6 hF => ?_)
    refine mg_if_eq (pc := 42) 72 C dX12_text_42 (by decide) (fun hc => ?_) (fun hc => ?_)
    · have hF := hF.1 hc
      refine mg_bipush (pc := 72) (v := (-2)) C dX12_text_72 (by decide) ?_
      exact mg_retI (pc := 74) C E dX12_text_74 hF
    · have hF := hF.2 hc
      refine mg_iload_n (pc := 45) C dX12_text_45 2 rfl ?_
      refine mg_iconst (pc := 46) (v := (-1)) C dX12_text_46 (by decide) ?_
      refine mg_icmp_ne (pc := 47) 63 C dX12_text_47 (by decide) (fun hc => ?_) (fun hc => ?_)
      · have hF := hF.1 hc
        refine mg_aload_n (pc := 63) C dX12_text_63 0 rfl ?_
        refine mg_iload_n (pc := 64) C dX12_text_64 1 rfl ?_
        refine mg_iload_n (pc := 65) C dX12_text_65 2 rfl ?_
        refine mg_cvI (pc := 66) C (fun ad => [.int x1, .int x2]) (met_is x1 x2) gX12_text_X12_is rfl ⟨rfl, rfl⟩ nd_is ⟨Nat.le_of_ble_eq_true rfl, Nat.le_of_ble_eq_true rfl⟩ rfl rfl (Nat.le_of_ble_eq_true rfl) dX12_text_66 hF (fun r9 h8 hF => ?_)
        refine mg_if_ne (pc := 69) 75 C dX12_text_69 (by decide) (fun hc => ?_) (fun hc => ?_)
        · have hF := hF.1 hc
          exact hF
        · have hF := hF.2 hc
          refine mg_bipush (pc := 72) (v := (-2)) C dX12_text_72 (by decide) ?_
          exact mg_retI (pc := 74) C E dX12_text_74 hF
      · have hF := hF.2 hc
        refine mg_aload_n (pc := 50) C dX12_text_50 0 rfl ?_
        refine mg_getr (pc := 51) C inm_text 5 (by decide) (by decide) dX12_text_51 (List.mem_of_getElem? (i := 6) rfl) ?_
        refine mg_iload_n (pc := 54) C dX12_text_54 1 rfl ?_
        obtain ⟨hi, hF⟩ := hF
        refine mg_iald (pc := 55) C (by decide) rfl hi dX12_text_55 ?_
        refine mg_iconst (pc := 56) (v := 2) C dX12_text_56 (by decide) ?_
        refine mg_icmp_ne (pc := 57) 75 C dX12_text_57 (by decide) (fun hc => ?_) (fun hc => ?_)
        · have hF := hF.1 hc
          exact hF
        · have hF := hF.2 hc
          refine mg_goto (pc := 60) 72 C dX12_text_60 (by decide) ?_
          refine mg_bipush (pc := 72) (v := (-2)) C dX12_text_72 (by decide) ?_
          exact mg_retI (pc := 74) C E dX12_text_74 hF
def rm_fault : Room := { frames := 0, cells := 0, slots := 0, locals := 0 }
theorem nd_fault : yX12_fault.cls = RX12 ∧ yX12_fault.cls ≠ "java/lang/invoke/MethodHandle" ∧ yX12_fault.cls ≠ "java/lang/invoke/VarHandle" ∧ (parseMethodDescriptor yX12_fault.desc).map (fun d => d.parameters.length) = some 1 := by decide +kernel
theorem inm_fault : ∀ w ∈ wsX120, w ∈ wsX12_fault := fun _ h9 => List.mem_cons_of_mem _ (List.mem_append_right _ h9)
set_option maxHeartbeats 4000000 in
set_option maxRecDepth 100000 in
theorem met_fault (x1 : Int32) : mg_MI yX12_fault wsX12_fault rm_fault (fun ad => [.ref (ad 0), .int x1]) (fun Q h => wp_fault Q x1 h) := by
  refine mg_startI (cc := cX12_fault) (maxL := 2) (by decide) rfl rfl (fun ad => Nat.le_of_ble_eq_true rfl) (fun X Q h C hnL E hw => ?_)
  unfold wp_fault at hw
  refine mg_sub (lv2 := [(0, .ref (mg_ad X 0)), (1, .int x1)]) [0, 1] rfl ?_
  have hF := hw
  refine mg_aload_n (pc := 0) C dX12_fault_0 0 rfl ?_
  refine mg_iconst (pc := 1) (v := 0) C dX12_fault_1 (by decide) ?_
  refine mg_puti (pc := 2) C inm_fault 0 (by decide) rfl (by decide) dX12_fault_2 (List.mem_of_getElem? (i := 1) rfl) rfl (tyX12_ok 0 (by decide)) (fun h1 eh1 => ?_)
  have hF := hF h1 eh1
  refine mg_iload_n (pc := 5) C dX12_fault_5 1 rfl ?_
  refine mg_if_ne (pc := 6) 18 C dX12_fault_6 (by decide) (fun hc => ?_) (fun hc => ?_)
  · have hF := hF.1 hc
    refine mg_iload_n (pc := 18) C dX12_fault_18 1 rfl ?_
    refine mg_iconst (pc := 19) (v := 1) C dX12_fault_19 (by decide) ?_
    refine mg_icmp_ne (pc := 20) 32 C dX12_fault_20 (by decide) (fun hc => ?_) (fun hc => ?_)
    · have hF := hF.1 hc
      refine mg_iconst (pc := 32) (v := (-1)) C dX12_fault_32 (by decide) ?_
      exact mg_retI (pc := 33) C E dX12_fault_33 hF
    · have hF := hF.2 hc
      refine mg_aload_n (pc := 23) C dX12_fault_23 0 rfl ?_
      refine mg_getr (pc := 24) C inm_fault 4 (by decide) (by decide) dX12_fault_24 (List.mem_of_getElem? (i := 3) rfl) ?_
      refine mg_iconst (pc := 27) (v := 0) C dX12_fault_27 (by decide) ?_
      obtain ⟨hi, hF⟩ := hF
      refine mg_iald (pc := 28) C (by decide) rfl hi dX12_fault_28 ?_
      refine mg_goto (pc := 29) 33 C dX12_fault_29 (by decide) ?_
      exact mg_retI (pc := 33) C E dX12_fault_33 hF
  · have hF := hF.2 hc
    refine mg_aload_n (pc := 9) C dX12_fault_9 0 rfl ?_
    refine mg_getr (pc := 10) C inm_fault 3 (by decide) (by decide) dX12_fault_10 (List.mem_of_getElem? (i := 2) rfl) ?_
    refine mg_iconst (pc := 13) (v := 0) C dX12_fault_13 (by decide) ?_
    obtain ⟨hi, hF⟩ := hF
    refine mg_iald (pc := 14) C (by decide) rfl hi dX12_fault_14 ?_
    refine mg_goto (pc := 15) 33 C dX12_fault_15 (by decide) ?_
    exact mg_retI (pc := 33) C E dX12_fault_33 hF
def rm_of : Room := { frames := 0, cells := 0, slots := 0, locals := 0 }
theorem nd_of : yX12_of.cls = RX12 ∧ yX12_of.cls ≠ "java/lang/invoke/MethodHandle" ∧ yX12_of.cls ≠ "java/lang/invoke/VarHandle" ∧ (parseMethodDescriptor yX12_of.desc).map (fun d => d.parameters.length) = some 1 := by decide +kernel
theorem inm_of : ∀ w ∈ wsX120, w ∈ wsX12_of := fun _ h9 => List.mem_cons_of_mem _ (List.mem_append_right _ h9)
set_option maxHeartbeats 4000000 in
set_option maxRecDepth 100000 in
theorem met_of (x1 : Int32) : mg_MI yX12_of wsX12_of rm_of (fun ad => [.ref (ad 0), .int x1]) (fun Q h => wp_of Q x1 h) := by
  refine mg_startI (cc := cX12_of) (maxL := 2) (by decide) rfl rfl (fun ad => Nat.le_of_ble_eq_true rfl) (fun X Q h C hnL E hw => ?_)
  unfold wp_of at hw
  refine mg_sub (lv2 := [(0, .ref (mg_ad X 0)), (1, .int x1)]) [0, 1] rfl ?_
  have hF := hw
  refine mg_aload_n (pc := 0) C dX12_of_0 0 rfl ?_
  refine mg_getr (pc := 1) C inm_of 6 (by decide) (by decide) dX12_of_1 (List.mem_of_getElem? (i := 1) rfl) ?_
  refine mg_bipush (pc := 4) (v := 13) C dX12_of_4 (by decide) ?_
  refine mg_aload_n (pc := 6) C dX12_of_6 0 rfl ?_
  refine mg_geti (pc := 7) C inm_of 23 (by decide) rfl (by decide) dX12_of_7 (List.mem_of_getElem? (i := 2) rfl) ?_
  refine mg_imul (pc := 10) C dX12_of_10 ?_
  refine mg_iload_n (pc := 11) C dX12_of_11 1 rfl ?_
  refine mg_iadd (pc := 12) C dX12_of_12 ?_
  obtain ⟨hi, hF⟩ := hF
  refine mg_iald (pc := 13) C (by decide) rfl hi dX12_of_13 ?_
  exact mg_retI (pc := 14) C E dX12_of_14 hF
def rm_alone : Room := { frames := 1, cells := 0, slots := 0, locals := 21 }
theorem nd_alone : yX12_alone.cls = RX12 ∧ yX12_alone.cls ≠ "java/lang/invoke/MethodHandle" ∧ yX12_alone.cls ≠ "java/lang/invoke/VarHandle" ∧ (parseMethodDescriptor yX12_alone.desc).map (fun d => d.parameters.length) = some 1 := by decide +kernel
theorem inm_alone : ∀ w ∈ wsX120, w ∈ wsX12_alone := fun _ h9 => List.mem_cons_of_mem _ (List.mem_append_right _ h9)
set_option maxHeartbeats 4000000 in
set_option maxRecDepth 100000 in
theorem met_alone (x1 : Int32) : mg_MV yX12_alone wsX12_alone rm_alone (fun ad => [.ref (ad 0), .int x1]) (fun Q h => wp_alone Q x1 h) := by
  refine mg_startV (cc := cX12_alone) (maxL := 3) (by decide) rfl rfl (fun ad => Nat.le_of_ble_eq_true rfl) (fun X Q h C hnL E hw => ?_)
  unfold wp_alone at hw
  refine mg_sub (lv2 := [(0, .ref (mg_ad X 0)), (1, .int x1)]) [0, 1] rfl ?_
  refine mg_use (hw (fun (y2 : Int32) (h : mg_H) => mg_W X 12 [(0, .ref (mg_ad X 0)), (1, .int x1), (2, .int y2)] [] h) (fun (y2 : Int32) (s0 : Int32) (s1 : Int32) (h : mg_H) => mg_W X 41 [(0, .ref (mg_ad X 0)), (1, .int x1), (2, .int y2)] [.int s0, .int s1, .ref (mg_ad X 27)] h) (fun (y2 : Int32) (s0 : Int32) (s1 : Int32) (h : mg_H) => mg_W X 66 [(0, .ref (mg_ad X 0)), (1, .int x1), (2, .int y2)] [.int s0, .int s1, .ref (mg_ad X 28)] h) ?_ ?_ ?_) (fun hF => ?_)
  · intro y2 h hF
    refine mg_iload_n (pc := 12) C dX12_alone_12 2 rfl ?_
    refine mg_iconst (pc := 13) (v := 4) C dX12_alone_13 (by decide) ?_
    refine mg_icmp_ge (pc := 14) 92 C dX12_alone_14 (by decide) (fun hc => ?_) (fun hc => ?_)
    · have hF := hF.1 hc
      exact mg_retV (pc := 92) C E dX12_alone_92 hF
    · have hF := hF.2 hc
      refine mg_aload_n (pc := 17) C dX12_alone_17 0 rfl ?_
      refine mg_getr (pc := 18) C inm_alone 27 (by decide) (by decide) dX12_alone_18 (List.mem_of_getElem? (i := 3) rfl) ?_
      refine mg_iload_n (pc := 21) C dX12_alone_21 2 rfl ?_
      refine mg_iload_n (pc := 22) C dX12_alone_22 1 rfl ?_
      refine mg_iload_n (pc := 23) C dX12_alone_23 2 rfl ?_
      refine mg_csI (pc := 24) C (fun ad => [.int x1, .int y2]) (met_has x1 y2) gX12_alone_X12_has rfl ⟨rfl, rfl⟩ nd_has.2 ⟨Nat.le_of_ble_eq_true rfl, Nat.le_of_ble_eq_true rfl⟩ rfl rfl (Nat.le_of_ble_eq_true rfl) dX12_alone_24 hF (fun r4 h3 hF => ?_)
      refine mg_if_eq (pc := 27) 40 C dX12_alone_27 (by decide) (fun hc => ?_) (fun hc => ?_)
      · have hF := hF.1 hc
        refine mg_iconst (pc := 40) (v := 0) C dX12_alone_40 (by decide) ?_
        exact hF
      · have hF := hF.2 hc
        refine mg_aload_n (pc := 30) C dX12_alone_30 0 rfl ?_
        refine mg_iconst (pc := 31) (v := 1) C dX12_alone_31 (by decide) ?_
        refine mg_iload_n (pc := 32) C dX12_alone_32 2 rfl ?_
        refine mg_iadd (pc := 33) C dX12_alone_33 ?_
        refine mg_cvI (pc := 34) C (fun ad => [.int (1 + y2)]) (met_of (1 + y2)) gX12_alone_X12_of rfl ⟨rfl, rfl⟩ nd_of ⟨Nat.le_of_ble_eq_true rfl, Nat.le_of_ble_eq_true rfl⟩ rfl rfl (Nat.le_of_ble_eq_true rfl) dX12_alone_34 hF (fun r6 h5 hF => ?_)
        refine mg_goto (pc := 37) 41 C dX12_alone_37 (by decide) ?_
        exact hF
  · intro y2 s0 s1 h hF
    obtain ⟨hi, hF⟩ := hF
    refine mg_iast (pc := 41) C (by decide) rfl hi dX12_alone_41 (fun h7 eh7 => ?_)
    have hF := hF h7 eh7
    refine mg_aload_n (pc := 42) C dX12_alone_42 0 rfl ?_
    refine mg_getr (pc := 43) C inm_alone 28 (by decide) (by decide) dX12_alone_43 (List.mem_of_getElem? (i := 4) rfl) ?_
    refine mg_iload_n (pc := 46) C dX12_alone_46 2 rfl ?_
    refine mg_iload_n (pc := 47) C dX12_alone_47 1 rfl ?_
    refine mg_iload_n (pc := 48) C dX12_alone_48 2 rfl ?_
    refine mg_csI (pc := 49) C (fun ad => [.int x1, .int y2]) (met_has x1 y2) gX12_alone_X12_has rfl ⟨rfl, rfl⟩ nd_has.2 ⟨Nat.le_of_ble_eq_true rfl, Nat.le_of_ble_eq_true rfl⟩ rfl rfl (Nat.le_of_ble_eq_true rfl) dX12_alone_49 hF (fun r9 h8 hF => ?_)
    refine mg_if_eq (pc := 52) 65 C dX12_alone_52 (by decide) (fun hc => ?_) (fun hc => ?_)
    · have hF := hF.1 hc
      refine mg_iconst (pc := 65) (v := 0) C dX12_alone_65 (by decide) ?_
      exact hF
    · have hF := hF.2 hc
      refine mg_aload_n (pc := 55) C dX12_alone_55 0 rfl ?_
      refine mg_iconst (pc := 56) (v := 5) C dX12_alone_56 (by decide) ?_
      refine mg_iload_n (pc := 57) C dX12_alone_57 2 rfl ?_
      refine mg_iadd (pc := 58) C dX12_alone_58 ?_
      refine mg_cvI (pc := 59) C (fun ad => [.int (5 + y2)]) (met_of (5 + y2)) gX12_alone_X12_of rfl ⟨rfl, rfl⟩ nd_of ⟨Nat.le_of_ble_eq_true rfl, Nat.le_of_ble_eq_true rfl⟩ rfl rfl (Nat.le_of_ble_eq_true rfl) dX12_alone_59 hF (fun r11 h10 hF => ?_)
      refine mg_goto (pc := 62) 66 C dX12_alone_62 (by decide) ?_
      exact hF
  · intro y2 s0 s1 h hF
    obtain ⟨hi, hF⟩ := hF
    refine mg_iast (pc := 66) C (by decide) rfl hi dX12_alone_66 (fun h12 eh12 => ?_)
    have hF := hF h12 eh12
    refine mg_aload_n (pc := 67) C dX12_alone_67 0 rfl ?_
    refine mg_dup (pc := 68) C dX12_alone_68 rfl ?_
    refine mg_geti (pc := 69) C inm_alone 26 (by decide) rfl (by decide) dX12_alone_69 (List.mem_of_getElem? (i := 2) rfl) ?_
    refine mg_aload_n (pc := 72) C dX12_alone_72 0 rfl ?_
    refine mg_getr (pc := 73) C inm_alone 28 (by decide) (by decide) dX12_alone_73 (List.mem_of_getElem? (i := 4) rfl) ?_
    refine mg_iload_n (pc := 76) C dX12_alone_76 2 rfl ?_
    obtain ⟨hi, hF⟩ := hF
    refine mg_iald (pc := 77) C (by decide) rfl hi dX12_alone_77 ?_
    refine mg_iconst (pc := 78) (v := 3) C dX12_alone_78 (by decide) ?_
    refine mg_iload_n (pc := 79) C dX12_alone_79 2 rfl ?_
    refine mg_imul (pc := 80) C dX12_alone_80 ?_
    refine mg_ishl (pc := 81) C dX12_alone_81 ?_
    refine mg_ior (pc := 82) C dX12_alone_82 ?_
    refine mg_puti (pc := 83) C inm_alone 26 (by decide) rfl (by decide) dX12_alone_83 (List.mem_of_getElem? (i := 2) rfl) rfl (tyX12_ok 26 (by decide)) (fun h13 eh13 => ?_)
    have hF := hF h13 eh13
    obtain ⟨z14, ez14⟩ : ∃ y : Int32, y = y2 + 1 := ⟨_, rfl⟩
    have hF := hF z14 ez14
    refine mg_iinc (pc := 86) (v := z14) (lv2 := [(2, .int z14), (0, .ref (mg_ad X 0)), (1, .int x1)]) C dX12_alone_86 2 rfl (by rw [ez14]; rfl) 3 hnL (by decide) rfl ?_
    refine mg_goto (pc := 89) 12 C dX12_alone_89 (by decide) ?_
    refine mg_sub (lv2 := [(0, .ref (mg_ad X 0)), (1, .int x1), (2, .int z14)]) [1, 2, 0] rfl ?_
    exact hF
  · skip
    refine mg_aload_n (pc := 0) C dX12_alone_0 0 rfl ?_
    refine mg_iload_n (pc := 1) C dX12_alone_1 1 rfl ?_
    refine mg_puti (pc := 2) C inm_alone 25 (by decide) rfl (by decide) dX12_alone_2 (List.mem_of_getElem? (i := 1) rfl) rfl (tyX12_ok 25 (by decide)) (fun h1 eh1 => ?_)
    have hF := hF h1 eh1
    refine mg_aload_n (pc := 5) C dX12_alone_5 0 rfl ?_
    refine mg_iconst (pc := 6) (v := 0) C dX12_alone_6 (by decide) ?_
    refine mg_puti (pc := 7) C inm_alone 26 (by decide) rfl (by decide) dX12_alone_7 (List.mem_of_getElem? (i := 2) rfl) rfl (tyX12_ok 26 (by decide)) (fun h2 eh2 => ?_)
    have hF := hF h2 eh2
    refine mg_iconst (pc := 10) (v := 0) C dX12_alone_10 (by decide) ?_
    refine mg_istore_n (pc := 11) (lv2 := [(2, .int 0), (0, .ref (mg_ad X 0)), (1, .int x1)]) C dX12_alone_11 3 hnL (by decide) rfl ?_
    refine mg_sub (lv2 := [(0, .ref (mg_ad X 0)), (1, .int x1), (2, .int 0)]) [1, 2, 0] rfl ?_
    exact hF
def rm_hand : Room := { frames := 2, cells := 0, slots := 0, locals := 44 }
theorem nd_hand : yX12_hand.cls = RX12 ∧ yX12_hand.cls ≠ "java/lang/invoke/MethodHandle" ∧ yX12_hand.cls ≠ "java/lang/invoke/VarHandle" ∧ (parseMethodDescriptor yX12_hand.desc).map (fun d => d.parameters.length) = some 1 := by decide +kernel
theorem inm_hand : ∀ w ∈ wsX120, w ∈ wsX12_hand := fun _ h9 => List.mem_cons_of_mem _ (List.mem_append_right _ h9)
set_option maxHeartbeats 4000000 in
set_option maxRecDepth 100000 in
theorem met_hand (x1 : Int32) : mg_MI yX12_hand wsX12_hand rm_hand (fun ad => [.ref (ad 0), .int x1]) (fun Q h => wp_hand Q x1 h) := by
  refine mg_startI (cc := cX12_hand) (maxL := 2) (by decide) rfl rfl (fun ad => Nat.le_of_ble_eq_true rfl) (fun X Q h C hnL E hw => ?_)
  unfold wp_hand at hw
  refine mg_sub (lv2 := [(0, .ref (mg_ad X 0)), (1, .int x1)]) [0, 1] rfl ?_
  have hF := hw
  refine mg_aload_n (pc := 0) C dX12_hand_0 0 rfl ?_
  refine mg_iconst (pc := 1) (v := 0) C dX12_hand_1 (by decide) ?_
  refine mg_iload_n (pc := 2) C dX12_hand_2 1 rfl ?_
  refine mg_cvI (pc := 3) C (fun ad => [.int 0, .int x1]) (met_is 0 x1) gX12_hand_X12_is rfl ⟨rfl, rfl⟩ nd_is ⟨Nat.le_of_ble_eq_true rfl, Nat.le_of_ble_eq_true rfl⟩ rfl rfl (Nat.le_of_ble_eq_true rfl) dX12_hand_3 hF (fun r2 h1 hF => ?_)
  refine mg_if_ne (pc := 6) 11 C dX12_hand_6 (by decide) (fun hc => ?_) (fun hc => ?_)
  · have hF := hF.1 hc
    refine mg_aload_n (pc := 11) C dX12_hand_11 0 rfl ?_
    refine mg_iload_n (pc := 12) C dX12_hand_12 1 rfl ?_
    refine mg_puti (pc := 13) C inm_hand 23 (by decide) rfl (by decide) dX12_hand_13 (List.mem_of_getElem? (i := 1) rfl) rfl (tyX12_ok 23 (by decide)) (fun h3 eh3 => ?_)
    have hF := hF h3 eh3
    refine mg_aload_n (pc := 16) C dX12_hand_16 0 rfl ?_
    refine mg_aload_n (pc := 17) C dX12_hand_17 0 rfl ?_
    refine mg_iconst (pc := 18) (v := 0) C dX12_hand_18 (by decide) ?_
    refine mg_cvI (pc := 19) C (fun ad => [.int 0]) (met_of 0) gX12_hand_X12_of rfl ⟨rfl, rfl⟩ nd_of ⟨Nat.le_of_ble_eq_true rfl, Nat.le_of_ble_eq_true rfl⟩ rfl rfl (Nat.le_of_ble_eq_true rfl) dX12_hand_19 hF (fun r5 h4 hF => ?_)
    refine mg_puti (pc := 22) C inm_hand 24 (by decide) rfl (by decide) dX12_hand_22 (List.mem_of_getElem? (i := 2) rfl) rfl (tyX12_ok 24 (by decide)) (fun h6 eh6 => ?_)
    have hF := hF h6 eh6
    refine mg_aload_n (pc := 25) C dX12_hand_25 0 rfl ?_
    refine mg_iconst (pc := 26) (v := 1) C dX12_hand_26 (by decide) ?_
    refine mg_aload_n (pc := 27) C dX12_hand_27 0 rfl ?_
    refine mg_geti (pc := 28) C inm_hand 24 (by decide) rfl (by decide) dX12_hand_28 (List.mem_of_getElem? (i := 2) rfl) ?_
    refine mg_ishl (pc := 31) C dX12_hand_31 ?_
    refine mg_iconst (pc := 32) (v := 1) C dX12_hand_32 (by decide) ?_
    refine mg_isub (pc := 33) C dX12_hand_33 ?_
    refine mg_cvV (pc := 34) C (fun ad => [.int ((1 <<< ((mg_i h6 0 24) &&& 31)) - 1)]) (met_alone ((1 <<< ((mg_i h6 0 24) &&& 31)) - 1)) gX12_hand_X12_alone rfl ⟨rfl, rfl⟩ nd_alone ⟨Nat.le_of_ble_eq_true rfl, Nat.le_of_ble_eq_true rfl⟩ rfl rfl (Nat.le_of_ble_eq_true rfl) dX12_hand_34 hF (fun h7 hF => ?_)
    refine mg_iconst (pc := 37) (v := 1) C dX12_hand_37 (by decide) ?_
    exact mg_retZ (pc := 38) C E (Or.inr rfl) dX12_hand_38 hF
  · have hF := hF.2 hc
    refine mg_iconst (pc := 9) (v := 0) C dX12_hand_9 (by decide) ?_
    exact mg_retZ (pc := 10) C E (Or.inl rfl) dX12_hand_10 hF
def rm_isGlass : Room := { frames := 1, cells := 0, slots := 0, locals := 22 }
theorem nd_isGlass : yX12_isGlass.cls = RX12 ∧ yX12_isGlass.cls ≠ "java/lang/invoke/MethodHandle" ∧ yX12_isGlass.cls ≠ "java/lang/invoke/VarHandle" ∧ (parseMethodDescriptor yX12_isGlass.desc).map (fun d => d.parameters.length) = some 1 := by decide +kernel
theorem inm_isGlass : ∀ w ∈ wsX120, w ∈ wsX12_isGlass := fun _ h9 => List.mem_cons_of_mem _ (List.mem_append_right _ h9)
set_option maxHeartbeats 4000000 in
set_option maxRecDepth 100000 in
theorem met_isGlass (x1 : Int32) : mg_MI yX12_isGlass wsX12_isGlass rm_isGlass (fun ad => [.ref (ad 0), .int x1]) (fun Q h => wp_isGlass Q x1 h) := by
  refine mg_startI (cc := cX12_isGlass) (maxL := 2) (by decide) rfl rfl (fun ad => Nat.le_of_ble_eq_true rfl) (fun X Q h C hnL E hw => ?_)
  unfold wp_isGlass at hw
  refine mg_sub (lv2 := [(0, .ref (mg_ad X 0)), (1, .int x1)]) [0, 1] rfl ?_
  have hF := hw
  refine mg_iload_n (pc := 0) C dX12_isGlass_0 1 rfl ?_
  refine mg_iconst (pc := 1) (v := 0) C dX12_isGlass_1 (by decide) ?_
  refine mg_aload_n (pc := 2) C dX12_isGlass_2 0 rfl ?_
  refine mg_geti (pc := 3) C inm_isGlass 24 (by decide) rfl (by decide) dX12_isGlass_3 (List.mem_of_getElem? (i := 1) rfl) ?_
  refine mg_iconst (pc := 6) (v := 1) C dX12_isGlass_6 (by decide) ?_
  refine mg_isub (pc := 7) C dX12_isGlass_7 ?_
  refine mg_csI (pc := 8) C (fun ad => [.int x1, .int 0, .int ((mg_i h 0 24) - 1)]) (met_in x1 0 ((mg_i h 0 24) - 1)) gX12_isGlass_X12_in rfl ⟨rfl, rfl⟩ nd_in.2 ⟨Nat.le_of_ble_eq_true rfl, Nat.le_of_ble_eq_true rfl⟩ rfl rfl (Nat.le_of_ble_eq_true rfl) dX12_isGlass_8 hF (fun r2 h1 hF => ?_)
  exact mg_retZ (pc := 11) C E hF.1 dX12_isGlass_11 hF.2
def rm_shelf : Room := { frames := 3, cells := 0, slots := 0, locals := 65 }
theorem nd_shelf : yX12_shelf.cls = RX12 ∧ yX12_shelf.cls ≠ "java/lang/invoke/MethodHandle" ∧ yX12_shelf.cls ≠ "java/lang/invoke/VarHandle" ∧ (parseMethodDescriptor yX12_shelf.desc).map (fun d => d.parameters.length) = some 2 := by decide +kernel
theorem inm_shelf : ∀ w ∈ wsX120, w ∈ wsX12_shelf := fun _ h9 => List.mem_cons_of_mem _ (List.mem_append_right _ h9)
set_option maxHeartbeats 4000000 in
set_option maxRecDepth 100000 in
theorem met_shelf (x1 : Int32) (x2 : Int32) : mg_MI yX12_shelf wsX12_shelf rm_shelf (fun ad => [.ref (ad 0), .int x1, .int x2]) (fun Q h => wp_shelf Q x1 x2 h) := by
  refine mg_startI (cc := cX12_shelf) (maxL := 4) (by decide) rfl rfl (fun ad => Nat.le_of_ble_eq_true rfl) (fun X Q h C hnL E hw => ?_)
  unfold wp_shelf at hw
  refine mg_sub (lv2 := [(0, .ref (mg_ad X 0)), (1, .int x1), (2, .int x2)]) [0, 1, 2] rfl ?_
  have hF := hw
  refine mg_aload_n (pc := 0) C dX12_shelf_0 0 rfl ?_
  refine mg_iconst (pc := 1) (v := 0) C dX12_shelf_1 (by decide) ?_
  refine mg_puti (pc := 2) C inm_shelf 0 (by decide) rfl (by decide) dX12_shelf_2 (List.mem_of_getElem? (i := 1) rfl) rfl (tyX12_ok 0 (by decide)) (fun h1 eh1 => ?_)
  have hF := hF h1 eh1
  refine mg_aload_n (pc := 5) C dX12_shelf_5 0 rfl ?_
  refine mg_iload_n (pc := 6) C dX12_shelf_6 1 rfl ?_
  refine mg_cvI (pc := 7) C (fun ad => [.int x1]) (met_hand x1) gX12_shelf_X12_hand rfl ⟨rfl, rfl⟩ nd_hand ⟨Nat.le_of_ble_eq_true rfl, Nat.le_of_ble_eq_true rfl⟩ rfl rfl (Nat.le_of_ble_eq_true rfl) dX12_shelf_7 hF (fun r3 h2 hF => ?_)
  refine mg_if_ne (pc := 10) 15 C dX12_shelf_10 (by decide) (fun hc => ?_) (fun hc => ?_)
  · have hF := hF.1 hc
    refine mg_iload_n (pc := 15) C dX12_shelf_15 2 rfl ?_
    refine mg_bipush (pc := 16) (v := 10) C dX12_shelf_16 (by decide) ?_
    refine mg_irem (pc := 18) C dX12_shelf_18 (by decide) ?_
    refine mg_topi (pc := 19) (fun z4 ez4 => ?_)
    have hF := hF z4 ez4
    refine mg_istore_n (pc := 19) (lv2 := [(3, .int z4), (0, .ref (mg_ad X 0)), (1, .int x1), (2, .int x2)]) C dX12_shelf_19 4 hnL (by decide) rfl ?_
    refine mg_iload_n (pc := 20) C dX12_shelf_20 3 rfl ?_
    refine mg_bipush (pc := 21) (v := 10) C dX12_shelf_21 (by decide) ?_
    refine mg_icmp_ge (pc := 23) 39 C dX12_shelf_23 (by decide) (fun hc => ?_) (fun hc => ?_)
    · have hF := hF.1 hc
      refine mg_iload_n (pc := 39) C dX12_shelf_39 3 rfl ?_
      refine mg_bipush (pc := 40) (v := 40) C dX12_shelf_40 (by decide) ?_
      refine mg_icmp_ge (pc := 42) 72 C dX12_shelf_42 (by decide) (fun hc => ?_) (fun hc => ?_)
      · have hF := hF.1 hc
        refine mg_iconst (pc := 72) (v := (-1)) C dX12_shelf_72 (by decide) ?_
        exact mg_retI (pc := 73) C E dX12_shelf_73 hF
      · have hF := hF.2 hc
        refine mg_aload_n (pc := 45) C dX12_shelf_45 1 rfl ?_
        refine mg_iload_n (pc := 46) C dX12_shelf_46 0 rfl ?_
        refine mg_cvI (pc := 47) C (fun ad => [.int z4]) (met_isGlass z4) gX12_shelf_X12_isGlass rfl ⟨rfl, rfl⟩ nd_isGlass ⟨Nat.le_of_ble_eq_true rfl, Nat.le_of_ble_eq_true rfl⟩ rfl rfl (Nat.le_of_ble_eq_true rfl) dX12_shelf_47 hF (fun r6 h5 hF => ?_)
        refine mg_if_eq (pc := 50) 72 C dX12_shelf_50 (by decide) (fun hc => ?_) (fun hc => ?_)
        · have hF := hF.1 hc
          refine mg_iconst (pc := 72) (v := (-1)) C dX12_shelf_72 (by decide) ?_
          exact mg_retI (pc := 73) C E dX12_shelf_73 hF
        · have hF := hF.2 hc
          refine mg_aload_n (pc := 53) C dX12_shelf_53 1 rfl ?_
          refine mg_iconst (pc := 54) (v := 1) C dX12_shelf_54 (by decide) ?_
          refine mg_iconst (pc := 55) (v := 4) C dX12_shelf_55 (by decide) ?_
          refine mg_iload_n (pc := 56) C dX12_shelf_56 3 rfl ?_
          refine mg_bipush (pc := 57) (v := 10) C dX12_shelf_57 (by decide) ?_
          refine mg_idiv (pc := 59) C dX12_shelf_59 (by decide) ?_
          refine mg_iconst (pc := 60) (v := 1) C dX12_shelf_60 (by decide) ?_
          refine mg_isub (pc := 61) C dX12_shelf_61 ?_
          refine mg_imul (pc := 62) C dX12_shelf_62 ?_
          refine mg_iadd (pc := 63) C dX12_shelf_63 ?_
          refine mg_iload_n (pc := 64) C dX12_shelf_64 0 rfl ?_
          refine mg_iadd (pc := 65) C dX12_shelf_65 ?_
          refine mg_cvI (pc := 66) C (fun ad => [.int ((1 + (4 * ((x2 / 10) - 1))) + z4)]) (met_of ((1 + (4 * ((x2 / 10) - 1))) + z4)) gX12_shelf_X12_of rfl ⟨rfl, rfl⟩ nd_of ⟨Nat.le_of_ble_eq_true rfl, Nat.le_of_ble_eq_true rfl⟩ rfl rfl (Nat.le_of_ble_eq_true rfl) dX12_shelf_66 hF (fun r8 h7 hF => ?_)
          refine mg_goto (pc := 69) 73 C dX12_shelf_69 (by decide) ?_
          exact mg_retI (pc := 73) C E dX12_shelf_73 hF
    · have hF := hF.2 hc
      refine mg_iload_n (pc := 26) C dX12_shelf_26 3 rfl ?_
      refine mg_if_ne (pc := 27) 37 C dX12_shelf_27 (by decide) (fun hc => ?_) (fun hc => ?_)
      · have hF := hF.1 hc
        refine mg_iconst (pc := 37) (v := (-1)) C dX12_shelf_37 (by decide) ?_
        exact mg_retI (pc := 38) C E dX12_shelf_38 hF
      · have hF := hF.2 hc
        refine mg_aload_n (pc := 30) C dX12_shelf_30 1 rfl ?_
        refine mg_geti (pc := 31) C inm_shelf 24 (by decide) rfl (by decide) dX12_shelf_31 (List.mem_of_getElem? (i := 2) rfl) ?_
        refine mg_goto (pc := 34) 38 C dX12_shelf_34 (by decide) ?_
        exact mg_retI (pc := 38) C E dX12_shelf_38 hF
  · have hF := hF.2 hc
    refine mg_iconst (pc := 13) (v := (-1)) C dX12_shelf_13 (by decide) ?_
    exact mg_retI (pc := 14) C E dX12_shelf_14 hF
def rm_deeds : Room := { frames := 0, cells := 0, slots := 0, locals := 0 }
theorem nd_deeds : yX12_deeds.cls = RX12 ∧ yX12_deeds.cls ≠ "java/lang/invoke/MethodHandle" ∧ yX12_deeds.cls ≠ "java/lang/invoke/VarHandle" ∧ (parseMethodDescriptor yX12_deeds.desc).map (fun d => d.parameters.length) = some 0 := by decide +kernel
theorem inm_deeds : ∀ w ∈ wsX120, w ∈ wsX12_deeds := fun _ h9 => List.mem_cons_of_mem _ (List.mem_append_right _ h9)
set_option maxHeartbeats 4000000 in
set_option maxRecDepth 100000 in
theorem met_deeds : mg_MI yX12_deeds wsX12_deeds rm_deeds (fun ad => [.ref (ad 0)]) (fun Q h => wp_deeds Q h) := by
  refine mg_startI (cc := cX12_deeds) (maxL := 1) (by decide) rfl rfl (fun ad => Nat.le_of_ble_eq_true rfl) (fun X Q h C hnL E hw => ?_)
  unfold wp_deeds at hw
  refine mg_sub (lv2 := [(0, .ref (mg_ad X 0))]) [0] rfl ?_
  have hF := hw
  refine mg_aload_n (pc := 0) C dX12_deeds_0 0 rfl ?_
  refine mg_getr (pc := 1) C inm_deeds 7 (by decide) (by decide) dX12_deeds_1 (List.mem_of_getElem? (i := 1) rfl) ?_
  refine mg_bipush (pc := 4) (v := 81) C dX12_deeds_4 (by decide) ?_
  refine mg_aload_n (pc := 6) C dX12_deeds_6 0 rfl ?_
  refine mg_geti (pc := 7) C inm_deeds 29 (by decide) rfl (by decide) dX12_deeds_7 (List.mem_of_getElem? (i := 2) rfl) ?_
  refine mg_imul (pc := 10) C dX12_deeds_10 ?_
  obtain ⟨hi, hF⟩ := hF
  refine mg_iald (pc := 11) C (by decide) rfl hi dX12_deeds_11 ?_
  exact mg_retI (pc := 12) C E dX12_deeds_12 hF
def rm_deedOf : Room := { frames := 0, cells := 0, slots := 0, locals := 0 }
theorem nd_deedOf : yX12_deedOf.cls = RX12 ∧ yX12_deedOf.cls ≠ "java/lang/invoke/MethodHandle" ∧ yX12_deedOf.cls ≠ "java/lang/invoke/VarHandle" ∧ (parseMethodDescriptor yX12_deedOf.desc).map (fun d => d.parameters.length) = some 2 := by decide +kernel
theorem inm_deedOf : ∀ w ∈ wsX120, w ∈ wsX12_deedOf := fun _ h9 => List.mem_cons_of_mem _ (List.mem_append_right _ h9)
set_option maxHeartbeats 4000000 in
set_option maxRecDepth 100000 in
theorem met_deedOf (x1 : Int32) (x2 : Int32) : mg_MI yX12_deedOf wsX12_deedOf rm_deedOf (fun ad => [.ref (ad 0), .int x1, .int x2]) (fun Q h => wp_deedOf Q x1 x2 h) := by
  refine mg_startI (cc := cX12_deedOf) (maxL := 3) (by decide) rfl rfl (fun ad => Nat.le_of_ble_eq_true rfl) (fun X Q h C hnL E hw => ?_)
  unfold wp_deedOf at hw
  refine mg_sub (lv2 := [(0, .ref (mg_ad X 0)), (1, .int x1), (2, .int x2)]) [0, 1, 2] rfl ?_
  have hF := hw
  refine mg_aload_n (pc := 0) C dX12_deedOf_0 0 rfl ?_
  refine mg_getr (pc := 1) C inm_deedOf 7 (by decide) (by decide) dX12_deedOf_1 (List.mem_of_getElem? (i := 1) rfl) ?_
  refine mg_bipush (pc := 4) (v := 81) C dX12_deedOf_4 (by decide) ?_
  refine mg_aload_n (pc := 6) C dX12_deedOf_6 0 rfl ?_
  refine mg_geti (pc := 7) C inm_deedOf 29 (by decide) rfl (by decide) dX12_deedOf_7 (List.mem_of_getElem? (i := 2) rfl) ?_
  refine mg_imul (pc := 10) C dX12_deedOf_10 ?_
  refine mg_iconst (pc := 11) (v := 1) C dX12_deedOf_11 (by decide) ?_
  refine mg_iadd (pc := 12) C dX12_deedOf_12 ?_
  refine mg_iconst (pc := 13) (v := 2) C dX12_deedOf_13 (by decide) ?_
  refine mg_iload_n (pc := 14) C dX12_deedOf_14 1 rfl ?_
  refine mg_imul (pc := 15) C dX12_deedOf_15 ?_
  refine mg_iadd (pc := 16) C dX12_deedOf_16 ?_
  refine mg_iload_n (pc := 17) C dX12_deedOf_17 2 rfl ?_
  refine mg_iadd (pc := 18) C dX12_deedOf_18 ?_
  obtain ⟨hi, hF⟩ := hF
  refine mg_iald (pc := 19) C (by decide) rfl hi dX12_deedOf_19 ?_
  exact mg_retI (pc := 20) C E dX12_deedOf_20 hF
def rm_hasDay : Room := { frames := 2, cells := 0, slots := 0, locals := 44 }
theorem nd_hasDay : yX12_hasDay.cls = RX12 ∧ yX12_hasDay.cls ≠ "java/lang/invoke/MethodHandle" ∧ yX12_hasDay.cls ≠ "java/lang/invoke/VarHandle" ∧ (parseMethodDescriptor yX12_hasDay.desc).map (fun d => d.parameters.length) = some 1 := by decide +kernel
theorem inm_hasDay : ∀ w ∈ wsX120, w ∈ wsX12_hasDay := fun _ h9 => List.mem_cons_of_mem _ (List.mem_append_right _ h9)
set_option maxHeartbeats 4000000 in
set_option maxRecDepth 100000 in
theorem met_hasDay (x1 : Int32) : mg_MI yX12_hasDay wsX12_hasDay rm_hasDay (fun ad => [.ref (ad 0), .int x1]) (fun Q h => wp_hasDay Q x1 h) := by
  refine mg_startI (cc := cX12_hasDay) (maxL := 2) (by decide) rfl rfl (fun ad => Nat.le_of_ble_eq_true rfl) (fun X Q h C hnL E hw => ?_)
  unfold wp_hasDay at hw
  refine mg_sub (lv2 := [(0, .ref (mg_ad X 0)), (1, .int x1)]) [0, 1] rfl ?_
  have hF := hw
  refine mg_aload_n (pc := 0) C dX12_hasDay_0 0 rfl ?_
  refine mg_iload_n (pc := 1) C dX12_hasDay_1 1 rfl ?_
  refine mg_puti (pc := 2) C inm_hasDay 29 (by decide) rfl (by decide) dX12_hasDay_2 (List.mem_of_getElem? (i := 1) rfl) rfl (tyX12_ok 29 (by decide)) (fun h1 eh1 => ?_)
  have hF := hF h1 eh1
  refine mg_aload_n (pc := 5) C dX12_hasDay_5 0 rfl ?_
  refine mg_iconst (pc := 6) (v := 1) C dX12_hasDay_6 (by decide) ?_
  refine mg_iload_n (pc := 7) C dX12_hasDay_7 1 rfl ?_
  refine mg_cvI (pc := 8) C (fun ad => [.int 1, .int x1]) (met_is 1 x1) gX12_hasDay_X12_is rfl ⟨rfl, rfl⟩ nd_is ⟨Nat.le_of_ble_eq_true rfl, Nat.le_of_ble_eq_true rfl⟩ rfl rfl (Nat.le_of_ble_eq_true rfl) dX12_hasDay_8 hF (fun r3 h2 hF => ?_)
  exact mg_retZ (pc := 11) C E hF.1 dX12_hasDay_11 hF.2
def rm_deed : Room := { frames := 3, cells := 0, slots := 0, locals := 65 }
theorem nd_deed : yX12_deed.cls = RX12 ∧ yX12_deed.cls ≠ "java/lang/invoke/MethodHandle" ∧ yX12_deed.cls ≠ "java/lang/invoke/VarHandle" ∧ (parseMethodDescriptor yX12_deed.desc).map (fun d => d.parameters.length) = some 3 := by decide +kernel
theorem inm_deed : ∀ w ∈ wsX120, w ∈ wsX12_deed := fun _ h9 => List.mem_cons_of_mem _ (List.mem_append_right _ h9)
set_option maxHeartbeats 4000000 in
set_option maxRecDepth 100000 in
theorem met_deed (x1 : Int32) (x2 : Int32) (x3 : Int32) : mg_MI yX12_deed wsX12_deed rm_deed (fun ad => [.ref (ad 0), .int x1, .int x2, .int x3]) (fun Q h => wp_deed Q x1 x2 x3 h) := by
  refine mg_startI (cc := cX12_deed) (maxL := 4) (by decide) rfl rfl (fun ad => Nat.le_of_ble_eq_true rfl) (fun X Q h C hnL E hw => ?_)
  unfold wp_deed at hw
  refine mg_sub (lv2 := [(0, .ref (mg_ad X 0)), (1, .int x1), (2, .int x2), (3, .int x3)]) [0, 1, 2, 3] rfl ?_
  have hF := hw
  refine mg_aload_n (pc := 0) C dX12_deed_0 0 rfl ?_
  refine mg_iconst (pc := 1) (v := 0) C dX12_deed_1 (by decide) ?_
  refine mg_puti (pc := 2) C inm_deed 0 (by decide) rfl (by decide) dX12_deed_2 (List.mem_of_getElem? (i := 1) rfl) rfl (tyX12_ok 0 (by decide)) (fun h1 eh1 => ?_)
  have hF := hF h1 eh1
  refine mg_aload_n (pc := 5) C dX12_deed_5 0 rfl ?_
  refine mg_iload_n (pc := 6) C dX12_deed_6 1 rfl ?_
  refine mg_cvI (pc := 7) C (fun ad => [.int x1]) (met_hasDay x1) gX12_deed_X12_hasDay rfl ⟨rfl, rfl⟩ nd_hasDay ⟨Nat.le_of_ble_eq_true rfl, Nat.le_of_ble_eq_true rfl⟩ rfl rfl (Nat.le_of_ble_eq_true rfl) dX12_deed_7 hF (fun r3 h2 hF => ?_)
  refine mg_if_ne (pc := 10) 16 C dX12_deed_10 (by decide) (fun hc => ?_) (fun hc => ?_)
  · have hF := hF.1 hc
    refine mg_iload_n (pc := 16) C dX12_deed_16 2 rfl ?_
    refine mg_iconst (pc := 17) (v := (-1)) C dX12_deed_17 (by decide) ?_
    refine mg_icmp_ne (pc := 18) 35 C dX12_deed_18 (by decide) (fun hc => ?_) (fun hc => ?_)
    · have hF := hF.1 hc
      refine mg_iload_n (pc := 35) C dX12_deed_35 2 rfl ?_
      refine mg_iconst (pc := 36) (v := 0) C dX12_deed_36 (by decide) ?_
      refine mg_aload_n (pc := 37) C dX12_deed_37 0 rfl ?_
      refine mg_cvI (pc := 38) C (fun ad => []) (met_deeds) gX12_deed_X12_deeds rfl ⟨rfl, rfl⟩ nd_deeds ⟨Nat.le_of_ble_eq_true rfl, Nat.le_of_ble_eq_true rfl⟩ rfl rfl (Nat.le_of_ble_eq_true rfl) dX12_deed_38 hF (fun r5 h4 hF => ?_)
      refine mg_iconst (pc := 41) (v := 1) C dX12_deed_41 (by decide) ?_
      refine mg_isub (pc := 42) C dX12_deed_42 ?_
      refine mg_csI (pc := 43) C (fun ad => [.int x2, .int 0, .int (r5 - 1)]) (met_in x2 0 (r5 - 1)) gX12_deed_X12_in rfl ⟨rfl, rfl⟩ nd_in.2 ⟨Nat.le_of_ble_eq_true rfl, Nat.le_of_ble_eq_true rfl⟩ rfl rfl (Nat.le_of_ble_eq_true rfl) dX12_deed_43 hF (fun r7 h6 hF => ?_)
      refine mg_if_eq (pc := 46) 67 C dX12_deed_46 (by decide) (fun hc => ?_) (fun hc => ?_)
      · have hF := hF.1 hc
        refine mg_bipush (pc := 67) (v := (-2)) C dX12_deed_67 (by decide) ?_
        exact mg_retI (pc := 69) C E dX12_deed_69 hF
      · have hF := hF.2 hc
        refine mg_iload_n (pc := 49) C dX12_deed_49 3 rfl ?_
        refine mg_iconst (pc := 50) (v := 0) C dX12_deed_50 (by decide) ?_
        refine mg_iconst (pc := 51) (v := 1) C dX12_deed_51 (by decide) ?_
        refine mg_csI (pc := 52) C (fun ad => [.int x3, .int 0, .int 1]) (met_in x3 0 1) gX12_deed_X12_in rfl ⟨rfl, rfl⟩ nd_in.2 ⟨Nat.le_of_ble_eq_true rfl, Nat.le_of_ble_eq_true rfl⟩ rfl rfl (Nat.le_of_ble_eq_true rfl) dX12_deed_52 hF (fun r9 h8 hF => ?_)
        refine mg_if_eq (pc := 55) 67 C dX12_deed_55 (by decide) (fun hc => ?_) (fun hc => ?_)
        · have hF := hF.1 hc
          refine mg_bipush (pc := 67) (v := (-2)) C dX12_deed_67 (by decide) ?_
          exact mg_retI (pc := 69) C E dX12_deed_69 hF
        · have hF := hF.2 hc
          refine mg_aload_n (pc := 58) C dX12_deed_58 0 rfl ?_
          refine mg_iload_n (pc := 59) C dX12_deed_59 2 rfl ?_
          refine mg_iload_n (pc := 60) C dX12_deed_60 3 rfl ?_
          refine mg_cvI (pc := 61) C (fun ad => [.int x2, .int x3]) (met_deedOf x2 x3) gX12_deed_X12_deedOf rfl ⟨rfl, rfl⟩ nd_deedOf ⟨Nat.le_of_ble_eq_true rfl, Nat.le_of_ble_eq_true rfl⟩ rfl rfl (Nat.le_of_ble_eq_true rfl) dX12_deed_61 hF (fun r11 h10 hF => ?_)
          refine mg_goto (pc := 64) 69 C dX12_deed_64 (by decide) ?_
          exact mg_retI (pc := 69) C E dX12_deed_69 hF
    · have hF := hF.2 hc
      refine mg_iload_n (pc := 21) C dX12_deed_21 3 rfl ?_
      refine mg_if_ne (pc := 22) 32 C dX12_deed_22 (by decide) (fun hc => ?_) (fun hc => ?_)
      · have hF := hF.1 hc
        refine mg_bipush (pc := 32) (v := (-2)) C dX12_deed_32 (by decide) ?_
        exact mg_retI (pc := 34) C E dX12_deed_34 hF
      · have hF := hF.2 hc
        refine mg_aload_n (pc := 25) C dX12_deed_25 0 rfl ?_
        refine mg_cvI (pc := 26) C (fun ad => []) (met_deeds) gX12_deed_X12_deeds rfl ⟨rfl, rfl⟩ nd_deeds ⟨Nat.le_of_ble_eq_true rfl, Nat.le_of_ble_eq_true rfl⟩ rfl rfl (Nat.le_of_ble_eq_true rfl) dX12_deed_26 hF (fun r13 h12 hF => ?_)
        refine mg_goto (pc := 29) 34 C dX12_deed_29 (by decide) ?_
        exact mg_retI (pc := 34) C E dX12_deed_34 hF
  · have hF := hF.2 hc
    refine mg_bipush (pc := 13) (v := (-2)) C dX12_deed_13 (by decide) ?_
    exact mg_retI (pc := 15) C E dX12_deed_15 hF
def rm_beginDay : Room := { frames := 0, cells := 0, slots := 0, locals := 0 }
theorem nd_beginDay : yX12_beginDay.cls = RX12 ∧ yX12_beginDay.cls ≠ "java/lang/invoke/MethodHandle" ∧ yX12_beginDay.cls ≠ "java/lang/invoke/VarHandle" ∧ (parseMethodDescriptor yX12_beginDay.desc).map (fun d => d.parameters.length) = some 0 := by decide +kernel
theorem inm_beginDay : ∀ w ∈ wsX120, w ∈ wsX12_beginDay := fun _ h9 => List.mem_cons_of_mem _ (List.mem_append_right _ h9)
set_option maxHeartbeats 4000000 in
set_option maxRecDepth 100000 in
theorem met_beginDay : mg_MV yX12_beginDay wsX12_beginDay rm_beginDay (fun ad => [.ref (ad 0)]) (fun Q h => wp_beginDay Q h) := by
  refine mg_startV (cc := cX12_beginDay) (maxL := 2) (by decide) rfl rfl (fun ad => Nat.le_of_ble_eq_true rfl) (fun X Q h C hnL E hw => ?_)
  unfold wp_beginDay at hw
  refine mg_sub (lv2 := [(0, .ref (mg_ad X 0))]) [0] rfl ?_
  refine mg_use (hw (fun (y1 : Int32) (h : mg_H) => mg_W X 37 [(0, .ref (mg_ad X 0)), (1, .int y1)] [] h) (fun (y1 : Int32) (h : mg_H) => mg_W X 57 [(0, .ref (mg_ad X 0)), (1, .int y1)] [] h) ?_ ?_) (fun hF => ?_)
  · intro y1 h hF
    refine mg_iload_n (pc := 37) C dX12_beginDay_37 1 rfl ?_
    refine mg_iconst (pc := 38) (v := 4) C dX12_beginDay_38 (by decide) ?_
    refine mg_icmp_ge (pc := 39) 55 C dX12_beginDay_39 (by decide) (fun hc => ?_) (fun hc => ?_)
    · have hF := hF.1 hc
      refine mg_iconst (pc := 55) (v := 0) C dX12_beginDay_55 (by decide) ?_
      refine mg_istore_n (pc := 56) (lv2 := [(1, .int 0), (0, .ref (mg_ad X 0))]) C dX12_beginDay_56 2 hnL (by decide) rfl ?_
      refine mg_sub (lv2 := [(0, .ref (mg_ad X 0)), (1, .int 0)]) [1, 0] rfl ?_
      exact hF
    · have hF := hF.2 hc
      refine mg_aload_n (pc := 42) C dX12_beginDay_42 0 rfl ?_
      refine mg_getr (pc := 43) C inm_beginDay 37 (by decide) (by decide) dX12_beginDay_43 (List.mem_of_getElem? (i := 8) rfl) ?_
      refine mg_iload_n (pc := 46) C dX12_beginDay_46 1 rfl ?_
      refine mg_iconst (pc := 47) (v := 0) C dX12_beginDay_47 (by decide) ?_
      obtain ⟨hi, hF⟩ := hF
      refine mg_iast (pc := 48) C (by decide) rfl hi dX12_beginDay_48 (fun h8 eh8 => ?_)
      have hF := hF h8 eh8
      obtain ⟨z9, ez9⟩ : ∃ y : Int32, y = y1 + 1 := ⟨_, rfl⟩
      have hF := hF z9 ez9
      refine mg_iinc (pc := 49) (v := z9) (lv2 := [(1, .int z9), (0, .ref (mg_ad X 0))]) C dX12_beginDay_49 1 rfl (by rw [ez9]; rfl) 2 hnL (by decide) rfl ?_
      refine mg_goto (pc := 52) 37 C dX12_beginDay_52 (by decide) ?_
      refine mg_sub (lv2 := [(0, .ref (mg_ad X 0)), (1, .int z9)]) [1, 0] rfl ?_
      exact hF
  · intro y1 h hF
    refine mg_iload_n (pc := 57) C dX12_beginDay_57 1 rfl ?_
    refine mg_bipush (pc := 58) (v := 100) C dX12_beginDay_58 (by decide) ?_
    refine mg_icmp_ge (pc := 60) 76 C dX12_beginDay_60 (by decide) (fun hc => ?_) (fun hc => ?_)
    · have hF := hF.1 hc
      exact mg_retV (pc := 76) C E dX12_beginDay_76 hF
    · have hF := hF.2 hc
      refine mg_aload_n (pc := 63) C dX12_beginDay_63 0 rfl ?_
      refine mg_getr (pc := 64) C inm_beginDay 38 (by decide) (by decide) dX12_beginDay_64 (List.mem_of_getElem? (i := 9) rfl) ?_
      refine mg_iload_n (pc := 67) C dX12_beginDay_67 1 rfl ?_
      refine mg_iconst (pc := 68) (v := 0) C dX12_beginDay_68 (by decide) ?_
      obtain ⟨hi, hF⟩ := hF
      refine mg_iast (pc := 69) C (by decide) rfl hi dX12_beginDay_69 (fun h10 eh10 => ?_)
      have hF := hF h10 eh10
      obtain ⟨z11, ez11⟩ : ∃ y : Int32, y = y1 + 1 := ⟨_, rfl⟩
      have hF := hF z11 ez11
      refine mg_iinc (pc := 70) (v := z11) (lv2 := [(1, .int z11), (0, .ref (mg_ad X 0))]) C dX12_beginDay_70 1 rfl (by rw [ez11]; rfl) 2 hnL (by decide) rfl ?_
      refine mg_goto (pc := 73) 57 C dX12_beginDay_73 (by decide) ?_
      refine mg_sub (lv2 := [(0, .ref (mg_ad X 0)), (1, .int z11)]) [1, 0] rfl ?_
      exact hF
  · skip
    refine mg_aload_n (pc := 0) C dX12_beginDay_0 0 rfl ?_
    refine mg_iconst (pc := 1) (v := 0) C dX12_beginDay_1 (by decide) ?_
    refine mg_puti (pc := 2) C inm_beginDay 30 (by decide) rfl (by decide) dX12_beginDay_2 (List.mem_of_getElem? (i := 1) rfl) rfl (tyX12_ok 30 (by decide)) (fun h1 eh1 => ?_)
    have hF := hF h1 eh1
    refine mg_aload_n (pc := 5) C dX12_beginDay_5 0 rfl ?_
    refine mg_iconst (pc := 6) (v := 0) C dX12_beginDay_6 (by decide) ?_
    refine mg_puti (pc := 7) C inm_beginDay 31 (by decide) rfl (by decide) dX12_beginDay_7 (List.mem_of_getElem? (i := 2) rfl) rfl (tyX12_ok 31 (by decide)) (fun h2 eh2 => ?_)
    have hF := hF h2 eh2
    refine mg_aload_n (pc := 10) C dX12_beginDay_10 0 rfl ?_
    refine mg_iconst (pc := 11) (v := 0) C dX12_beginDay_11 (by decide) ?_
    refine mg_puti (pc := 12) C inm_beginDay 32 (by decide) rfl (by decide) dX12_beginDay_12 (List.mem_of_getElem? (i := 3) rfl) rfl (tyX12_ok 32 (by decide)) (fun h3 eh3 => ?_)
    have hF := hF h3 eh3
    refine mg_aload_n (pc := 15) C dX12_beginDay_15 0 rfl ?_
    refine mg_iconst (pc := 16) (v := 0) C dX12_beginDay_16 (by decide) ?_
    refine mg_puti (pc := 17) C inm_beginDay 33 (by decide) rfl (by decide) dX12_beginDay_17 (List.mem_of_getElem? (i := 4) rfl) rfl (tyX12_ok 33 (by decide)) (fun h4 eh4 => ?_)
    have hF := hF h4 eh4
    refine mg_aload_n (pc := 20) C dX12_beginDay_20 0 rfl ?_
    refine mg_iconst (pc := 21) (v := (-1)) C dX12_beginDay_21 (by decide) ?_
    refine mg_puti (pc := 22) C inm_beginDay 34 (by decide) rfl (by decide) dX12_beginDay_22 (List.mem_of_getElem? (i := 5) rfl) rfl (tyX12_ok 34 (by decide)) (fun h5 eh5 => ?_)
    have hF := hF h5 eh5
    refine mg_aload_n (pc := 25) C dX12_beginDay_25 0 rfl ?_
    refine mg_iconst (pc := 26) (v := 0) C dX12_beginDay_26 (by decide) ?_
    refine mg_puti (pc := 27) C inm_beginDay 35 (by decide) rfl (by decide) dX12_beginDay_27 (List.mem_of_getElem? (i := 6) rfl) rfl (tyX12_ok 35 (by decide)) (fun h6 eh6 => ?_)
    have hF := hF h6 eh6
    refine mg_aload_n (pc := 30) C dX12_beginDay_30 0 rfl ?_
    refine mg_iconst (pc := 31) (v := 0) C dX12_beginDay_31 (by decide) ?_
    refine mg_puti (pc := 32) C inm_beginDay 36 (by decide) rfl (by decide) dX12_beginDay_32 (List.mem_of_getElem? (i := 7) rfl) rfl (tyX12_ok 36 (by decide)) (fun h7 eh7 => ?_)
    have hF := hF h7 eh7
    refine mg_iconst (pc := 35) (v := 0) C dX12_beginDay_35 (by decide) ?_
    refine mg_istore_n (pc := 36) (lv2 := [(1, .int 0), (0, .ref (mg_ad X 0))]) C dX12_beginDay_36 2 hnL (by decide) rfl ?_
    refine mg_sub (lv2 := [(0, .ref (mg_ad X 0)), (1, .int 0)]) [1, 0] rfl ?_
    exact hF
def rm_goBy : Room := { frames := 2, cells := 0, slots := 0, locals := 43 }
theorem nd_goBy : yX12_goBy.cls = RX12 ∧ yX12_goBy.cls ≠ "java/lang/invoke/MethodHandle" ∧ yX12_goBy.cls ≠ "java/lang/invoke/VarHandle" ∧ (parseMethodDescriptor yX12_goBy.desc).map (fun d => d.parameters.length) = some 0 := by decide +kernel
theorem inm_goBy : ∀ w ∈ wsX120, w ∈ wsX12_goBy := fun _ h9 => List.mem_cons_of_mem _ (List.mem_append_right _ h9)
set_option maxHeartbeats 4000000 in
set_option maxRecDepth 100000 in
theorem met_goBy : mg_MV yX12_goBy wsX12_goBy rm_goBy (fun ad => [.ref (ad 0)]) (fun Q h => wp_goBy Q h) := by
  refine mg_startV (cc := cX12_goBy) (maxL := 3) (by decide) rfl rfl (fun ad => Nat.le_of_ble_eq_true rfl) (fun X Q h C hnL E hw => ?_)
  unfold wp_goBy at hw
  refine mg_sub (lv2 := [(0, .ref (mg_ad X 0))]) [0] rfl ?_
  refine mg_use (hw (fun (y1 : Int32) (y2 : Int32) (h : mg_H) => mg_W X 14 [(0, .ref (mg_ad X 0)), (1, .int y1), (2, .int y2)] [] h) (fun (y1 : Int32) (h : mg_H) => mg_W X 166 [(0, .ref (mg_ad X 0)), (1, .int y1)] [.ref (mg_ad X 0)] h) (fun (y1 : Int32) (s0 : Int32) (h : mg_H) => mg_W X 170 [(0, .ref (mg_ad X 0)), (1, .int y1)] [.int s0, .ref (mg_ad X 0)] h) (fun (y1 : Int32) (y2 : Int32) (h : mg_H) => mg_W X 105 [(0, .ref (mg_ad X 0)), (1, .int y1), (2, .int y2)] [] h) (fun (y1 : Int32) (y2 : Int32) (s0 : Int32) (s1 : Int32) (s2 : Int32) (h : mg_H) => mg_W X 80 [(0, .ref (mg_ad X 0)), (1, .int y1), (2, .int y2)] [.int s0, .int s1, .int s2, .ref (mg_ad X 38)] h) (fun (s0 : Int32) (s1 : Int32) (h : mg_H) => mg_W X 187 [] [.int s0, .int s1, .ref (mg_ad X 0)] h) (fun (y1 : Int32) (y2 : Int32) (s0 : Int32) (s1 : Int32) (s2 : Int32) (h : mg_H) => mg_W X 103 [(0, .ref (mg_ad X 0)), (1, .int y1), (2, .int y2)] [.int s0, .int s1, .int s2, .ref (mg_ad X 37)] h) ?_ ?_ ?_ ?_ ?_ ?_ ?_) (fun hF => ?_)
  · intro y1 y2 h hF
    refine mg_iload_n (pc := 14) C dX12_goBy_14 2 rfl ?_
    refine mg_aload_n (pc := 15) C dX12_goBy_15 0 rfl ?_
    refine mg_geti (pc := 16) C inm_goBy 24 (by decide) rfl (by decide) dX12_goBy_16 (List.mem_of_getElem? (i := 2) rfl) ?_
    refine mg_icmp_ge (pc := 19) 111 C dX12_goBy_19 (by decide) (fun hc => ?_) (fun hc => ?_)
    · have hF := hF.1 hc
      refine mg_aload_n (pc := 111) C dX12_goBy_111 0 rfl ?_
      refine mg_getr (pc := 112) C inm_goBy 38 (by decide) (by decide) dX12_goBy_112 (List.mem_of_getElem? (i := 5) rfl) ?_
      refine mg_aload_n (pc := 115) C dX12_goBy_115 0 rfl ?_
      refine mg_geti (pc := 116) C inm_goBy 30 (by decide) rfl (by decide) dX12_goBy_116 (List.mem_of_getElem? (i := 1) rfl) ?_
      obtain ⟨hi, hF⟩ := hF
      refine mg_iald (pc := 119) C (by decide) rfl hi dX12_goBy_119 ?_
      refine mg_csI (pc := 120) C (fun ad => [.int (mg_i h 38 (mg_i h 0 30).toNatClampNeg)]) (met_ones (mg_i h 38 (mg_i h 0 30).toNatClampNeg)) gX12_goBy_X12_ones rfl ⟨rfl, rfl⟩ nd_ones.2 ⟨Nat.le_of_ble_eq_true rfl, Nat.le_of_ble_eq_true rfl⟩ rfl rfl (Nat.le_of_ble_eq_true rfl) dX12_goBy_120 hF (fun r3 h2 hF => ?_)
      refine mg_istore_n (pc := 123) (lv2 := [(2, .int r3), (0, .ref (mg_ad X 0)), (1, .int y1)]) C dX12_goBy_123 3 hnL (by decide) rfl ?_
      refine mg_aload_n (pc := 124) C dX12_goBy_124 1 rfl ?_
      refine mg_dup (pc := 125) C dX12_goBy_125 rfl ?_
      refine mg_geti (pc := 126) C inm_goBy 32 (by decide) rfl (by decide) dX12_goBy_126 (List.mem_of_getElem? (i := 7) rfl) ?_
      refine mg_iload_n (pc := 129) C dX12_goBy_129 0 rfl ?_
      refine mg_iadd (pc := 130) C dX12_goBy_130 ?_
      refine mg_puti (pc := 131) C inm_goBy 32 (by decide) rfl (by decide) dX12_goBy_131 (List.mem_of_getElem? (i := 7) rfl) rfl (tyX12_ok 32 (by decide)) (fun h4 eh4 => ?_)
      have hF := hF h4 eh4
      refine mg_aload_n (pc := 134) C dX12_goBy_134 1 rfl ?_
      refine mg_aload_n (pc := 135) C dX12_goBy_135 1 rfl ?_
      refine mg_geti (pc := 136) C inm_goBy 35 (by decide) rfl (by decide) dX12_goBy_136 (List.mem_of_getElem? (i := 8) rfl) ?_
      refine mg_iload_n (pc := 139) C dX12_goBy_139 0 rfl ?_
      refine mg_csI (pc := 140) C (fun ad => [.int (mg_i h4 0 35), .int r3]) (met_greater (mg_i h4 0 35) r3) gX12_goBy_X12_greater rfl ⟨rfl, rfl⟩ nd_greater.2 ⟨Nat.le_of_ble_eq_true rfl, Nat.le_of_ble_eq_true rfl⟩ rfl rfl (Nat.le_of_ble_eq_true rfl) dX12_goBy_140 hF (fun r6 h5 hF => ?_)
      refine mg_puti (pc := 143) C inm_goBy 35 (by decide) rfl (by decide) dX12_goBy_143 (List.mem_of_getElem? (i := 8) rfl) rfl (tyX12_ok 35 (by decide)) (fun h7 eh7 => ?_)
      have hF := hF h7 eh7
      refine mg_aload_n (pc := 146) C dX12_goBy_146 1 rfl ?_
      refine mg_aload_n (pc := 147) C dX12_goBy_147 1 rfl ?_
      refine mg_geti (pc := 148) C inm_goBy 34 (by decide) rfl (by decide) dX12_goBy_148 (List.mem_of_getElem? (i := 9) rfl) ?_
      refine mg_iconst (pc := 151) (v := (-1)) C dX12_goBy_151 (by decide) ?_
      refine mg_icmp_ne (pc := 152) 166 C dX12_goBy_152 (by decide) (fun hc => ?_) (fun hc => ?_)
      · have hF := hF.1 hc
        refine mg_sub (lv2 := [(0, .ref (mg_ad X 0)), (1, .int y1)]) [1, 2] rfl ?_
        exact hF
      · have hF := hF.2 hc
        refine mg_iload_n (pc := 155) C dX12_goBy_155 0 rfl ?_
        refine mg_if_le (pc := 156) 166 C dX12_goBy_156 (by decide) (fun hc => ?_) (fun hc => ?_)
        · have hF := hF.1 hc
          refine mg_sub (lv2 := [(0, .ref (mg_ad X 0)), (1, .int y1)]) [1, 2] rfl ?_
          exact hF
        · have hF := hF.2 hc
          refine mg_aload_n (pc := 159) C dX12_goBy_159 1 rfl ?_
          refine mg_geti (pc := 160) C inm_goBy 30 (by decide) rfl (by decide) dX12_goBy_160 (List.mem_of_getElem? (i := 1) rfl) ?_
          refine mg_goto (pc := 163) 170 C dX12_goBy_163 (by decide) ?_
          refine mg_sub (lv2 := [(0, .ref (mg_ad X 0)), (1, .int y1)]) [1, 2] rfl ?_
          exact hF
    · have hF := hF.2 hc
      refine mg_aload_n (pc := 22) C dX12_goBy_22 0 rfl ?_
      refine mg_geti (pc := 23) C inm_goBy 31 (by decide) rfl (by decide) dX12_goBy_23 (List.mem_of_getElem? (i := 3) rfl) ?_
      refine mg_iload_n (pc := 26) C dX12_goBy_26 2 rfl ?_
      refine mg_csI (pc := 27) C (fun ad => [.int (mg_i h 0 31), .int y2]) (met_has (mg_i h 0 31) y2) gX12_goBy_X12_has rfl ⟨rfl, rfl⟩ nd_has.2 ⟨Nat.le_of_ble_eq_true rfl, Nat.le_of_ble_eq_true rfl⟩ rfl rfl (Nat.le_of_ble_eq_true rfl) dX12_goBy_27 hF (fun r9 h8 hF => ?_)
      refine mg_if_ne (pc := 30) 105 C dX12_goBy_30 (by decide) (fun hc => ?_) (fun hc => ?_)
      · have hF := hF.1 hc
        exact hF
      · have hF := hF.2 hc
        refine mg_aload_n (pc := 33) C dX12_goBy_33 0 rfl ?_
        refine mg_getr (pc := 34) C inm_goBy 28 (by decide) (by decide) dX12_goBy_34 (List.mem_of_getElem? (i := 4) rfl) ?_
        refine mg_iload_n (pc := 37) C dX12_goBy_37 2 rfl ?_
        obtain ⟨hi, hF⟩ := hF
        refine mg_iald (pc := 38) C (by decide) rfl hi dX12_goBy_38 ?_
        refine mg_if_le (pc := 39) 105 C dX12_goBy_39 (by decide) (fun hc => ?_) (fun hc => ?_)
        · have hF := hF.1 hc
          exact hF
        · have hF := hF.2 hc
          refine mg_iconst (pc := 42) (v := 1) C dX12_goBy_42 (by decide) ?_
          refine mg_istore_n (pc := 43) (lv2 := [(1, .int 1), (0, .ref (mg_ad X 0)), (2, .int y2)]) C dX12_goBy_43 3 hnL (by decide) rfl ?_
          refine mg_aload_n (pc := 44) C dX12_goBy_44 1 rfl ?_
          refine mg_getr (pc := 45) C inm_goBy 28 (by decide) (by decide) dX12_goBy_45 (List.mem_of_getElem? (i := 4) rfl) ?_
          refine mg_iload_n (pc := 48) C dX12_goBy_48 2 rfl ?_
          refine mg_dup2 (pc := 49) C dX12_goBy_49 rfl rfl ?_
          obtain ⟨hi, hF⟩ := hF
          refine mg_iald (pc := 50) C (by decide) rfl hi dX12_goBy_50 ?_
          refine mg_iconst (pc := 51) (v := 1) C dX12_goBy_51 (by decide) ?_
          refine mg_isub (pc := 52) C dX12_goBy_52 ?_
          obtain ⟨hi, hF⟩ := hF
          refine mg_iast (pc := 53) C (by decide) rfl hi dX12_goBy_53 (fun h10 eh10 => ?_)
          have hF := hF h10 eh10
          refine mg_aload_n (pc := 54) C dX12_goBy_54 1 rfl ?_
          refine mg_getr (pc := 55) C inm_goBy 38 (by decide) (by decide) dX12_goBy_55 (List.mem_of_getElem? (i := 5) rfl) ?_
          refine mg_aload_n (pc := 58) C dX12_goBy_58 1 rfl ?_
          refine mg_geti (pc := 59) C inm_goBy 30 (by decide) rfl (by decide) dX12_goBy_59 (List.mem_of_getElem? (i := 1) rfl) ?_
          refine mg_dup2 (pc := 62) C dX12_goBy_62 rfl rfl ?_
          obtain ⟨hi, hF⟩ := hF
          refine mg_iald (pc := 63) C (by decide) rfl hi dX12_goBy_63 ?_
          refine mg_aload_n (pc := 64) C dX12_goBy_64 1 rfl ?_
          refine mg_getr (pc := 65) C inm_goBy 28 (by decide) (by decide) dX12_goBy_65 (List.mem_of_getElem? (i := 4) rfl) ?_
          refine mg_iload_n (pc := 68) C dX12_goBy_68 2 rfl ?_
          obtain ⟨hi, hF⟩ := hF
          refine mg_iald (pc := 69) C (by decide) rfl hi dX12_goBy_69 ?_
          refine mg_if_ne (pc := 70) 79 C dX12_goBy_70 (by decide) (fun hc => ?_) (fun hc => ?_)
          · have hF := hF.1 hc
            refine mg_iconst (pc := 79) (v := 0) C dX12_goBy_79 (by decide) ?_
            refine mg_sub (lv2 := [(0, .ref (mg_ad X 0)), (1, .int 1), (2, .int y2)]) [1, 0, 2] rfl ?_
            exact hF
          · have hF := hF.2 hc
            refine mg_iconst (pc := 73) (v := 1) C dX12_goBy_73 (by decide) ?_
            refine mg_iload_n (pc := 74) C dX12_goBy_74 2 rfl ?_
            refine mg_ishl (pc := 75) C dX12_goBy_75 ?_
            refine mg_goto (pc := 76) 80 C dX12_goBy_76 (by decide) ?_
            refine mg_sub (lv2 := [(0, .ref (mg_ad X 0)), (1, .int 1), (2, .int y2)]) [1, 0, 2] rfl ?_
            exact hF
  · intro y1 h hF
    refine mg_aload_n (pc := 166) C dX12_goBy_166 0 rfl ?_
    refine mg_geti (pc := 167) C inm_goBy 34 (by decide) rfl (by decide) dX12_goBy_167 (List.mem_of_getElem? (i := 9) rfl) ?_
    exact hF
  · intro y1 s0 h hF
    refine mg_puti (pc := 170) C inm_goBy 34 (by decide) rfl (by decide) dX12_goBy_170 (List.mem_of_getElem? (i := 9) rfl) rfl (tyX12_ok 34 (by decide)) (fun h11 eh11 => ?_)
    have hF := hF h11 eh11
    refine mg_aload_n (pc := 173) C dX12_goBy_173 0 rfl ?_
    refine mg_dup (pc := 174) C dX12_goBy_174 rfl ?_
    refine mg_geti (pc := 175) C inm_goBy 36 (by decide) rfl (by decide) dX12_goBy_175 (List.mem_of_getElem? (i := 10) rfl) ?_
    refine mg_iload_n (pc := 178) C dX12_goBy_178 1 rfl ?_
    refine mg_if_eq (pc := 179) 186 C dX12_goBy_179 (by decide) (fun hc => ?_) (fun hc => ?_)
    · have hF := hF.1 hc
      refine mg_iconst (pc := 186) (v := 1) C dX12_goBy_186 (by decide) ?_
      refine mg_sub (lv2 := []) [] rfl ?_
      exact hF
    · have hF := hF.2 hc
      refine mg_iconst (pc := 182) (v := 0) C dX12_goBy_182 (by decide) ?_
      refine mg_goto (pc := 183) 187 C dX12_goBy_183 (by decide) ?_
      refine mg_sub (lv2 := []) [] rfl ?_
      exact hF
  · intro y1 y2 h hF
    obtain ⟨z12, ez12⟩ : ∃ y : Int32, y = y2 + 1 := ⟨_, rfl⟩
    have hF := hF z12 ez12
    refine mg_iinc (pc := 105) (v := z12) (lv2 := [(2, .int z12), (0, .ref (mg_ad X 0)), (1, .int y1)]) C dX12_goBy_105 2 rfl (by rw [ez12]; rfl) 3 hnL (by decide) rfl ?_
    refine mg_goto (pc := 108) 14 C dX12_goBy_108 (by decide) ?_
    refine mg_sub (lv2 := [(0, .ref (mg_ad X 0)), (1, .int y1), (2, .int z12)]) [1, 2, 0] rfl ?_
    exact hF
  · intro y1 y2 s0 s1 s2 h hF
    refine mg_ior (pc := 80) C dX12_goBy_80 ?_
    obtain ⟨hi, hF⟩ := hF
    refine mg_iast (pc := 81) C (by decide) rfl hi dX12_goBy_81 (fun h13 eh13 => ?_)
    have hF := hF h13 eh13
    refine mg_aload_n (pc := 82) C dX12_goBy_82 0 rfl ?_
    refine mg_getr (pc := 83) C inm_goBy 37 (by decide) (by decide) dX12_goBy_83 (List.mem_of_getElem? (i := 6) rfl) ?_
    refine mg_iload_n (pc := 86) C dX12_goBy_86 2 rfl ?_
    refine mg_dup2 (pc := 87) C dX12_goBy_87 rfl rfl ?_
    obtain ⟨hi, hF⟩ := hF
    refine mg_iald (pc := 88) C (by decide) rfl hi dX12_goBy_88 ?_
    refine mg_aload_n (pc := 89) C dX12_goBy_89 0 rfl ?_
    refine mg_getr (pc := 90) C inm_goBy 28 (by decide) (by decide) dX12_goBy_90 (List.mem_of_getElem? (i := 4) rfl) ?_
    refine mg_iload_n (pc := 93) C dX12_goBy_93 2 rfl ?_
    obtain ⟨hi, hF⟩ := hF
    refine mg_iald (pc := 94) C (by decide) rfl hi dX12_goBy_94 ?_
    refine mg_if_ne (pc := 95) 102 C dX12_goBy_95 (by decide) (fun hc => ?_) (fun hc => ?_)
    · have hF := hF.1 hc
      refine mg_iconst (pc := 102) (v := 0) C dX12_goBy_102 (by decide) ?_
      exact hF
    · have hF := hF.2 hc
      refine mg_iconst (pc := 98) (v := 1) C dX12_goBy_98 (by decide) ?_
      refine mg_goto (pc := 99) 103 C dX12_goBy_99 (by decide) ?_
      exact hF
  · intro s0 s1 h hF
    refine mg_iadd (pc := 187) C dX12_goBy_187 ?_
    refine mg_puti (pc := 188) C inm_goBy 36 (by decide) rfl (by decide) dX12_goBy_188 (List.mem_of_getElem? (i := 10) rfl) rfl (tyX12_ok 36 (by decide)) (fun h14 eh14 => ?_)
    have hF := hF h14 eh14
    exact mg_retV (pc := 191) C E dX12_goBy_191 hF
  · intro y1 y2 s0 s1 s2 h hF
    refine mg_iadd (pc := 103) C dX12_goBy_103 ?_
    obtain ⟨hi, hF⟩ := hF
    refine mg_iast (pc := 104) C (by decide) rfl hi dX12_goBy_104 (fun h15 eh15 => ?_)
    have hF := hF h15 eh15
    exact hF
  · skip
    refine mg_aload_n (pc := 0) C dX12_goBy_0 0 rfl ?_
    refine mg_dup (pc := 1) C dX12_goBy_1 rfl ?_
    refine mg_geti (pc := 2) C inm_goBy 30 (by decide) rfl (by decide) dX12_goBy_2 (List.mem_of_getElem? (i := 1) rfl) ?_
    refine mg_iconst (pc := 5) (v := 1) C dX12_goBy_5 (by decide) ?_
    refine mg_iadd (pc := 6) C dX12_goBy_6 ?_
    refine mg_puti (pc := 7) C inm_goBy 30 (by decide) rfl (by decide) dX12_goBy_7 (List.mem_of_getElem? (i := 1) rfl) rfl (tyX12_ok 30 (by decide)) (fun h1 eh1 => ?_)
    have hF := hF h1 eh1
    refine mg_iconst (pc := 10) (v := 0) C dX12_goBy_10 (by decide) ?_
    refine mg_istore_n (pc := 11) (lv2 := [(1, .int 0), (0, .ref (mg_ad X 0))]) C dX12_goBy_11 3 hnL (by decide) rfl ?_
    refine mg_iconst (pc := 12) (v := 0) C dX12_goBy_12 (by decide) ?_
    refine mg_istore_n (pc := 13) (lv2 := [(2, .int 0), (1, .int 0), (0, .ref (mg_ad X 0))]) C dX12_goBy_13 3 hnL (by decide) rfl ?_
    refine mg_sub (lv2 := [(0, .ref (mg_ad X 0)), (1, .int 0), (2, .int 0)]) [2, 1, 0] rfl ?_
    exact hF
