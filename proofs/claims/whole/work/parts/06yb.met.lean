def rm_X11_plan (MC MS : Nat) : Room := { frames := 6, cells := MC, slots := MS, locals := 142 }
theorem nd_X11_plan : yX11_plan.cls = RX11 ∧ yX11_plan.cls ≠ "java/lang/invoke/MethodHandle" ∧ yX11_plan.cls ≠ "java/lang/invoke/VarHandle" ∧ (parseMethodDescriptor yX11_plan.desc).map (fun d => d.parameters.length) = some 3 := by decide +kernel
theorem inm_X11_plan_8 : ∀ w ∈ u_ws RX8 TX8 (xg_N 8), w ∈ wsX11_plan := fun _ h9 => List.mem_cons_of_mem _ (List.mem_append_left _ (List.mem_append_left _ (List.mem_append_left _ (List.mem_append_left _ (List.mem_append_left _ (List.mem_append_right _ h9))))))
theorem inm_X11_plan_11 : ∀ w ∈ u_ws RX11 TX11 (xg_N 11), w ∈ wsX11_plan := fun _ h9 => List.mem_cons_of_mem _ (List.mem_append_left _ (List.mem_append_left _ (List.mem_append_left _ (List.mem_append_left _ (List.mem_append_left _ (List.mem_append_left _ (List.mem_append_right _ h9)))))))
set_option maxHeartbeats 4000000 in
set_option maxRecDepth 100000 in
theorem met_X11_plan (MC MS : Nat) (Y : xg_Y) (this : Nat) (x1 : Int32) (x2 : Int32) (x3 : Int32) : xg_NI yX11_plan wsX11_plan (rm_X11_plan MC MS) Y [va_rf (some this), .int x1, .int x2, .int x3] (fun Q h => wp_X11_plan MC MS Y Q this x1 x2 x3 h) := by
  refine xg_beginI (cc := cX11_plan) (maxL := 6) (own := RX11) (by decide) rfl rfl (Nat.le_of_ble_eq_true rfl) (fun X Q h C hnL E hw => ?_)
  unfold wp_X11_plan at hw
  obtain ⟨hthis, hw⟩ := hw
  refine xg_sub (lv2 := [(0, va_rf (some this)), (1, .int x1), (2, .int x2), (3, .int x3)]) [0, 1, 2, 3] rfl ?_
  have hF := hw
  refine xg_aload_n (pc := 0) C dX11_plan_0 0 rfl ?_
  refine xg_getr (pc := 1) (C1 := RX11) (T1 := TX11) (ci := 11) (ref := "SandGlasses") C inm_X11_plan_11 rfl (by decide) 0 (by decide) rfl dX11_plan_1 (List.mem_of_getElem? (i := 1) rfl) rfl rfl hthis ?_
  refine xg_iconst (pc := 4) (v := 0) C dX11_plan_4 (by decide) ?_
  refine xg_iload_n (pc := 5) C dX11_plan_5 1 rfl ?_
  obtain ⟨a1, ha1, hka1, hF⟩ := hF
  obtain ⟨hfit, hF⟩ := hF
  refine xg_cvR (pc := 6) (C1 := RX9) (T1 := TX9) (ci := 9) C (fun zs => [.int 0, .int x1]) ha1 hka1 (by decide) rfl (met_X9_find Y a1 0 x1) gX11_plan_X9_find rfl ⟨rfl, rfl⟩ nd_X9_find ⟨Nat.le_of_ble_eq_true rfl, Nat.le_of_ble_eq_true rfl⟩ rfl rfl (Nat.le_of_ble_eq_true rfl) hfit dX11_plan_6 hF (fun r3 h2 hF => ?_)
  refine xg_astore (pc := 9) (lv2 := [(4, va_rf r3), (0, va_rf (some this)), (1, .int x1), (2, .int x2), (3, .int x3)]) C dX11_plan_9 6 hnL (by decide) rfl ?_
  refine xg_aload_n (pc := 11) C dX11_plan_11 1 rfl ?_
  refine xg_getr (pc := 12) (C1 := RX11) (T1 := TX11) (ci := 11) (ref := "SandGlasses") C inm_X11_plan_11 rfl (by decide) 0 (by decide) rfl dX11_plan_12 (List.mem_of_getElem? (i := 1) rfl) rfl rfl hthis ?_
  refine xg_iconst (pc := 15) (v := 3) C dX11_plan_15 (by decide) ?_
  refine xg_iload_n (pc := 16) C dX11_plan_16 3 rfl ?_
  obtain ⟨a4, ha4, hka4, hF⟩ := hF
  obtain ⟨hfit, hF⟩ := hF
  refine xg_cvR (pc := 17) (C1 := RX9) (T1 := TX9) (ci := 9) C (fun zs => [.int 3, .int x2]) ha4 hka4 (by decide) rfl (met_X9_find Y a4 3 x2) gX11_plan_X9_find rfl ⟨rfl, rfl⟩ nd_X9_find ⟨Nat.le_of_ble_eq_true rfl, Nat.le_of_ble_eq_true rfl⟩ rfl rfl (Nat.le_of_ble_eq_true rfl) hfit dX11_plan_17 hF (fun r6 h5 hF => ?_)
  refine xg_astore (pc := 20) (lv2 := [(5, va_rf r6), (4, va_rf r3), (0, va_rf (some this)), (1, .int x1), (2, .int x2), (3, .int x3)]) C dX11_plan_20 6 hnL (by decide) (by cases r3 <;> rfl) ?_
  refine xg_aload (pc := 22) C dX11_plan_22 1 rfl ?_
  refine xg_ifnull (pc := 24) 45 C dX11_plan_24 (by decide) (fun hc => ?_) (fun a7 ha7 => ?_)
  · have hF := hF.1 hc
    refine xg_iconst (pc := 45) (v := (-1)) C dX11_plan_45 (by decide) ?_
    obtain ⟨hfit, hF⟩ := hF
    exact xg_endI (pc := 46) C E hfit dX11_plan_46 hF
  · have hF := hF.2 a7 ha7
    refine xg_aload (pc := 27) C dX11_plan_27 0 rfl ?_
    refine xg_ifnull (pc := 29) 45 C dX11_plan_29 (by decide) (fun hc => ?_) (fun a8 ha8 => ?_)
    · have hF := hF.1 hc
      refine xg_iconst (pc := 45) (v := (-1)) C dX11_plan_45 (by decide) ?_
      obtain ⟨hfit, hF⟩ := hF
      exact xg_endI (pc := 46) C E hfit dX11_plan_46 hF
    · have hF := hF.2 a8 ha8
      refine xg_iload_n (pc := 32) C dX11_plan_32 5 rfl ?_
      refine xg_if_lt (pc := 33) 45 C dX11_plan_33 (by decide) (fun hc => ?_) (fun hc => ?_)
      · have hF := hF.1 hc
        refine xg_iconst (pc := 45) (v := (-1)) C dX11_plan_45 (by decide) ?_
        obtain ⟨hfit, hF⟩ := hF
        exact xg_endI (pc := 46) C E hfit dX11_plan_46 hF
      · have hF := hF.2 hc
        refine xg_iload_n (pc := 36) C dX11_plan_36 5 rfl ?_
        refine xg_aload (pc := 37) C dX11_plan_37 0 rfl ?_
        obtain ⟨hk9, hF⟩ := hF
        refine xg_geti (pc := 39) (C1 := RX8) (T1 := TX8) (ci := 8) (ref := "SandGlasses$Text") C inm_X11_plan_8 rfl (by decide) 0 (by decide) rfl dX11_plan_39 (List.mem_of_getElem? (i := 2) rfl) rfl ha8 hk9 ?_
        refine xg_icmp_le (pc := 42) 47 C dX11_plan_42 (by decide) (fun hc => ?_) (fun hc => ?_)
        · have hF := hF.1 hc
          refine xg_aload_n (pc := 47) C dX11_plan_47 2 rfl ?_
          refine xg_iload_n (pc := 48) C dX11_plan_48 3 rfl ?_
          refine xg_aload (pc := 49) C dX11_plan_49 1 rfl ?_
          obtain ⟨mc11, ms11, hfit, hF⟩ := hF
          refine xg_dvR (pc := 51) (C1 := RX11) (T1 := TX11) (ci := 11) C [.int x1, va_rf r3] rfl hthis (by decide) rfl (met_X11_bookOf mc11 ms11 Y this x1 r3) gX11_plan_X11_bookOf rfl nd_X11_bookOf ⟨Nat.le_of_ble_eq_true rfl, Nat.le_of_ble_eq_true rfl⟩ rfl rfl (Nat.le_of_ble_eq_true rfl) hfit dX11_plan_51 hF (fun r11 Y12 h13 hF => ?_)
          refine xg_aload (pc := 54) C dX11_plan_54 0 rfl ?_
          refine xg_iload_n (pc := 56) C dX11_plan_56 5 rfl ?_
          obtain ⟨a14, ha14, hka14, hF⟩ := hF
          obtain ⟨hfit, hF⟩ := hF
          refine xg_cvI (pc := 57) (C1 := RX1) (T1 := TX1) (ci := 1) C (fun zs => [va_rf r6, .int x3]) ha14 hka14 (by decide) rfl (met_X1_leastDone Y12 a14 r6 x3) gX11_plan_X1_leastDone rfl ⟨rfl, rfl⟩ nd_X1_leastDone ⟨Nat.le_of_ble_eq_true rfl, Nat.le_of_ble_eq_true rfl⟩ rfl rfl (Nat.le_of_ble_eq_true rfl) hfit dX11_plan_57 hF (fun r16 h15 hF => ?_)
          obtain ⟨hfit, hF⟩ := hF
          exact xg_endI (pc := 60) C E hfit dX11_plan_60 hF
        · have hF := hF.2 hc
          refine xg_iconst (pc := 45) (v := (-1)) C dX11_plan_45 (by decide) ?_
          obtain ⟨hfit, hF⟩ := hF
          exact xg_endI (pc := 46) C E hfit dX11_plan_46 hF
def rm_X11_purse (MC MS : Nat) : Room := { frames := 6, cells := MC, slots := MS, locals := 142 }
theorem nd_X11_purse : yX11_purse.cls = RX11 ∧ yX11_purse.cls ≠ "java/lang/invoke/MethodHandle" ∧ yX11_purse.cls ≠ "java/lang/invoke/VarHandle" ∧ (parseMethodDescriptor yX11_purse.desc).map (fun d => d.parameters.length) = some 2 := by decide +kernel
theorem inm_X11_purse_11 : ∀ w ∈ u_ws RX11 TX11 (xg_N 11), w ∈ wsX11_purse := fun _ h9 => List.mem_cons_of_mem _ (List.mem_append_left _ (List.mem_append_left _ (List.mem_append_left _ (List.mem_append_left _ (List.mem_append_left _ (List.mem_append_left _ (List.mem_append_right _ h9)))))))
set_option maxHeartbeats 4000000 in
set_option maxRecDepth 100000 in
theorem met_X11_purse (MC MS : Nat) (Y : xg_Y) (this : Nat) (x1 : Int32) (x2 : Int32) : xg_NI yX11_purse wsX11_purse (rm_X11_purse MC MS) Y [va_rf (some this), .int x1, .int x2] (fun Q h => wp_X11_purse MC MS Y Q this x1 x2 h) := by
  refine xg_beginI (cc := cX11_purse) (maxL := 7) (own := RX11) (by decide) rfl rfl (Nat.le_of_ble_eq_true rfl) (fun X Q h C hnL E hw => ?_)
  unfold wp_X11_purse at hw
  obtain ⟨hthis, hw⟩ := hw
  refine xg_sub (lv2 := [(0, va_rf (some this)), (1, .int x1), (2, .int x2)]) [0, 1, 2] rfl ?_
  refine mg_use (hw (fun (y3 : Option Nat) (y4 : Option Nat) (y5 : Int32) (y6 : Int32) (kc nc : Nat) (Yc : xg_Y) (h : xg_H) => xg_W X kc nc Yc 40 [(2, .int x2), (3, va_rf y3), (4, va_rf y4), (5, .int y5), (6, .int y6)] [] h) (fun (y3 : Option Nat) (y4 : Option Nat) (y5 : Int32) (y6 : Int32) (kc nc : Nat) (Yc : xg_Y) (h : xg_H) => xg_W X kc nc Yc 81 [(2, .int x2), (3, va_rf y3), (4, va_rf y4), (5, .int y5), (6, .int y6)] [] h) ?_ ?_) (fun hF => ?_)
  · intro y3 y4 y5 y6 kc nc Yc h hF
    refine xg_iload (pc := 40) C dX11_purse_40 4 rfl ?_
    refine xg_bipush (pc := 42) (v := 30) C dX11_purse_42 (by decide) ?_
    refine xg_icmp_gt (pc := 44) 87 C dX11_purse_44 (by decide) (fun hc => ?_) (fun hc => ?_)
    · have hF := hF.1 hc
      refine xg_iload (pc := 87) C dX11_purse_87 3 rfl ?_
      obtain ⟨hfit, hF⟩ := hF
      exact xg_endI (pc := 89) C E hfit dX11_purse_89 hF
    · have hF := hF.2 hc
      refine xg_aload (pc := 47) C dX11_purse_47 2 rfl ?_
      obtain ⟨a9, ha9, hka9, hF⟩ := hF
      obtain ⟨hfit, hF⟩ := hF
      refine xg_cvI (pc := 49) (C1 := RX1) (T1 := TX1) (ci := 1) C (fun zs => []) ha9 hka9 (by decide) rfl (met_X1_told Yc a9) gX11_purse_X1_told rfl ⟨rfl, rfl⟩ nd_X1_told ⟨Nat.le_of_ble_eq_true rfl, Nat.le_of_ble_eq_true rfl⟩ rfl rfl (Nat.le_of_ble_eq_true rfl) hfit dX11_purse_49 hF (fun r11 h10 hF => ?_)
      refine xg_iload (pc := 52) C dX11_purse_52 4 rfl ?_
      obtain ⟨hfit, hF⟩ := hF
      refine xg_csI (pc := 54) C (fun zs => [.int r11, .int y6]) (met_X11_has Yc r11 y6) gX11_purse_X11_has rfl ⟨rfl, rfl⟩ nd_X11_has.2 ⟨Nat.le_of_ble_eq_true rfl, Nat.le_of_ble_eq_true rfl⟩ rfl rfl (Nat.le_of_ble_eq_true rfl) hfit dX11_purse_54 hF (fun r13 h12 hF => ?_)
      refine xg_if_eq (pc := 57) 81 C dX11_purse_57 (by decide) (fun hc => ?_) (fun hc => ?_)
      · have hF := hF.1 hc
        exact hF
      · have hF := hF.2 hc
        refine xg_aload (pc := 60) C dX11_purse_60 2 rfl ?_
        refine xg_aload_n (pc := 62) C dX11_purse_62 1 rfl ?_
        refine xg_iload (pc := 63) C dX11_purse_63 4 rfl ?_
        obtain ⟨hfit, hF⟩ := hF
        refine xg_cvI (pc := 65) (C1 := RX1) (T1 := TX1) (ci := 1) C (fun zs => [va_rf y3, .int y6]) ha9 hka9 (by decide) rfl (met_X1_leastPrice Yc a9 y3 y6) gX11_purse_X1_leastPrice rfl ⟨rfl, rfl⟩ nd_X1_leastPrice ⟨Nat.le_of_ble_eq_true rfl, Nat.le_of_ble_eq_true rfl⟩ rfl rfl (Nat.le_of_ble_eq_true rfl) hfit dX11_purse_65 hF (fun r15 h14 hF => ?_)
        refine xg_iload_n (pc := 68) C dX11_purse_68 0 rfl ?_
        refine xg_icmp_gt (pc := 69) 81 C dX11_purse_69 (by decide) (fun hc => ?_) (fun hc => ?_)
        · have hF := hF.1 hc
          exact hF
        · have hF := hF.2 hc
          refine xg_iload (pc := 72) C dX11_purse_72 3 rfl ?_
          refine xg_iconst (pc := 74) (v := 1) C dX11_purse_74 (by decide) ?_
          refine xg_iload (pc := 75) C dX11_purse_75 4 rfl ?_
          refine xg_ishl (pc := 77) C dX11_purse_77 ?_
          refine xg_ior (pc := 78) C dX11_purse_78 ?_
          refine xg_topi (pc := 79) (fun z16 ez16 => ?_)
          have hF := hF z16 ez16
          refine xg_istore (pc := 79) (lv2 := [(5, .int z16), (2, .int x2), (3, va_rf y3), (4, va_rf y4), (6, .int y6)]) C dX11_purse_79 7 hnL (by decide) (by cases y4 <;> rfl) ?_
          refine xg_sub (lv2 := [(2, .int x2), (3, va_rf y3), (4, va_rf y4), (5, .int z16), (6, .int y6)]) [1, 2, 3, 0, 4] rfl ?_
          exact hF
  · intro y3 y4 y5 y6 kc nc Yc h hF
    obtain ⟨z17, ez17⟩ : ∃ y : Int32, y = y6 + 1 := ⟨_, rfl⟩
    have hF := hF z17 ez17
    refine xg_iinc (pc := 81) (v := z17) (lv2 := [(6, .int z17), (2, .int x2), (3, va_rf y3), (4, va_rf y4), (5, .int y5)]) C dX11_purse_81 4 rfl (by rw [ez17]; rfl) 7 hnL (by decide) rfl ?_
    refine xg_goto (pc := 84) 40 C dX11_purse_84 (by decide) ?_
    refine xg_sub (lv2 := [(2, .int x2), (3, va_rf y3), (4, va_rf y4), (5, .int y5), (6, .int z17)]) [1, 2, 3, 4, 0] rfl ?_
    exact hF
  · skip
    refine xg_aload_n (pc := 0) C dX11_purse_0 0 rfl ?_
    refine xg_getr (pc := 1) (C1 := RX11) (T1 := TX11) (ci := 11) (ref := "SandGlasses") C inm_X11_purse_11 rfl (by decide) 0 (by decide) rfl dX11_purse_1 (List.mem_of_getElem? (i := 1) rfl) rfl rfl hthis ?_
    refine xg_iconst (pc := 4) (v := 0) C dX11_purse_4 (by decide) ?_
    refine xg_iload_n (pc := 5) C dX11_purse_5 1 rfl ?_
    obtain ⟨a1, ha1, hka1, hF⟩ := hF
    obtain ⟨hfit, hF⟩ := hF
    refine xg_cvR (pc := 6) (C1 := RX9) (T1 := TX9) (ci := 9) C (fun zs => [.int 0, .int x1]) ha1 hka1 (by decide) rfl (met_X9_find Y a1 0 x1) gX11_purse_X9_find rfl ⟨rfl, rfl⟩ nd_X9_find ⟨Nat.le_of_ble_eq_true rfl, Nat.le_of_ble_eq_true rfl⟩ rfl rfl (Nat.le_of_ble_eq_true rfl) hfit dX11_purse_6 hF (fun r3 h2 hF => ?_)
    refine xg_astore_n (pc := 9) (lv2 := [(3, va_rf r3), (0, va_rf (some this)), (1, .int x1), (2, .int x2)]) C dX11_purse_9 7 hnL (by decide) rfl ?_
    refine xg_aload_n (pc := 10) C dX11_purse_10 0 rfl ?_
    refine xg_ifnull (pc := 11) 24 C dX11_purse_11 (by decide) (fun hc => ?_) (fun a4 ha4 => ?_)
    · have hF := hF.1 hc
      refine xg_iconst (pc := 24) (v := (-1)) C dX11_purse_24 (by decide) ?_
      obtain ⟨hfit, hF⟩ := hF
      exact xg_endI (pc := 25) C E hfit dX11_purse_25 hF
    · have hF := hF.2 a4 ha4
      refine xg_iload_n (pc := 14) C dX11_purse_14 3 rfl ?_
      refine xg_if_lt (pc := 15) 24 C dX11_purse_15 (by decide) (fun hc => ?_) (fun hc => ?_)
      · have hF := hF.1 hc
        refine xg_iconst (pc := 24) (v := (-1)) C dX11_purse_24 (by decide) ?_
        obtain ⟨hfit, hF⟩ := hF
        exact xg_endI (pc := 25) C E hfit dX11_purse_25 hF
      · have hF := hF.2 hc
        refine xg_iload_n (pc := 18) C dX11_purse_18 3 rfl ?_
        refine xg_bipush (pc := 19) (v := 99) C dX11_purse_19 (by decide) ?_
        refine xg_icmp_le (pc := 21) 26 C dX11_purse_21 (by decide) (fun hc => ?_) (fun hc => ?_)
        · have hF := hF.1 hc
          refine xg_aload_n (pc := 26) C dX11_purse_26 1 rfl ?_
          refine xg_iload_n (pc := 27) C dX11_purse_27 2 rfl ?_
          refine xg_aload_n (pc := 28) C dX11_purse_28 0 rfl ?_
          obtain ⟨mc6, ms6, hfit, hF⟩ := hF
          refine xg_dvR (pc := 29) (C1 := RX11) (T1 := TX11) (ci := 11) C [.int x1, va_rf r3] rfl hthis (by decide) rfl (met_X11_bookOf mc6 ms6 Y this x1 r3) gX11_purse_X11_bookOf rfl nd_X11_bookOf ⟨Nat.le_of_ble_eq_true rfl, Nat.le_of_ble_eq_true rfl⟩ rfl rfl (Nat.le_of_ble_eq_true rfl) hfit dX11_purse_29 hF (fun r6 Y7 h8 hF => ?_)
          refine xg_astore (pc := 32) (lv2 := [(4, va_rf r6), (3, va_rf r3), (0, va_rf (some this)), (1, .int x1), (2, .int x2)]) C dX11_purse_32 7 hnL (by decide) (by cases r3 <;> rfl) ?_
          refine xg_iconst (pc := 34) (v := 0) C dX11_purse_34 (by decide) ?_
          refine xg_istore (pc := 35) (lv2 := [(5, .int 0), (4, va_rf r6), (3, va_rf r3), (0, va_rf (some this)), (1, .int x1), (2, .int x2)]) C dX11_purse_35 7 hnL (by decide) (by cases r6 <;> rfl) ?_
          refine xg_iconst (pc := 37) (v := 1) C dX11_purse_37 (by decide) ?_
          refine xg_istore (pc := 38) (lv2 := [(6, .int 1), (5, .int 0), (4, va_rf r6), (3, va_rf r3), (0, va_rf (some this)), (1, .int x1), (2, .int x2)]) C dX11_purse_38 7 hnL (by decide) rfl ?_
          refine xg_sub (lv2 := [(2, .int x2), (3, va_rf r3), (4, va_rf r6), (5, .int 0), (6, .int 1)]) [6, 3, 2, 1, 0] rfl ?_
          exact hF
        · have hF := hF.2 hc
          refine xg_iconst (pc := 24) (v := (-1)) C dX11_purse_24 (by decide) ?_
          obtain ⟨hfit, hF⟩ := hF
          exact xg_endI (pc := 25) C E hfit dX11_purse_25 hF
def rm_X11_span (MC MS : Nat) : Room := { frames := 6, cells := MC, slots := MS, locals := 142 }
theorem nd_X11_span : yX11_span.cls = RX11 ∧ yX11_span.cls ≠ "java/lang/invoke/MethodHandle" ∧ yX11_span.cls ≠ "java/lang/invoke/VarHandle" ∧ (parseMethodDescriptor yX11_span.desc).map (fun d => d.parameters.length) = some 2 := by decide +kernel
theorem inm_X11_span_11 : ∀ w ∈ u_ws RX11 TX11 (xg_N 11), w ∈ wsX11_span := fun _ h9 => List.mem_cons_of_mem _ (List.mem_append_left _ (List.mem_append_left _ (List.mem_append_left _ (List.mem_append_left _ (List.mem_append_left _ (List.mem_append_left _ (List.mem_append_right _ h9)))))))
set_option maxHeartbeats 4000000 in
set_option maxRecDepth 100000 in
theorem met_X11_span (MC MS : Nat) (Y : xg_Y) (this : Nat) (x1 : Int32) (x2 : Int32) : xg_NI yX11_span wsX11_span (rm_X11_span MC MS) Y [va_rf (some this), .int x1, .int x2] (fun Q h => wp_X11_span MC MS Y Q this x1 x2 h) := by
  refine xg_beginI (cc := cX11_span) (maxL := 4) (own := RX11) (by decide) rfl rfl (Nat.le_of_ble_eq_true rfl) (fun X Q h C hnL E hw => ?_)
  unfold wp_X11_span at hw
  obtain ⟨hthis, hw⟩ := hw
  refine xg_sub (lv2 := [(0, va_rf (some this)), (1, .int x1), (2, .int x2)]) [0, 1, 2] rfl ?_
  have hF := hw
  refine xg_aload_n (pc := 0) C dX11_span_0 0 rfl ?_
  refine xg_getr (pc := 1) (C1 := RX11) (T1 := TX11) (ci := 11) (ref := "SandGlasses") C inm_X11_span_11 rfl (by decide) 0 (by decide) rfl dX11_span_1 (List.mem_of_getElem? (i := 1) rfl) rfl rfl hthis ?_
  refine xg_iconst (pc := 4) (v := 0) C dX11_span_4 (by decide) ?_
  refine xg_iload_n (pc := 5) C dX11_span_5 1 rfl ?_
  obtain ⟨a1, ha1, hka1, hF⟩ := hF
  obtain ⟨hfit, hF⟩ := hF
  refine xg_cvR (pc := 6) (C1 := RX9) (T1 := TX9) (ci := 9) C (fun zs => [.int 0, .int x1]) ha1 hka1 (by decide) rfl (met_X9_find Y a1 0 x1) gX11_span_X9_find rfl ⟨rfl, rfl⟩ nd_X9_find ⟨Nat.le_of_ble_eq_true rfl, Nat.le_of_ble_eq_true rfl⟩ rfl rfl (Nat.le_of_ble_eq_true rfl) hfit dX11_span_6 hF (fun r3 h2 hF => ?_)
  refine xg_astore_n (pc := 9) (lv2 := [(3, va_rf r3), (0, va_rf (some this)), (1, .int x1), (2, .int x2)]) C dX11_span_9 4 hnL (by decide) rfl ?_
  refine xg_aload_n (pc := 10) C dX11_span_10 0 rfl ?_
  refine xg_ifnull (pc := 11) 21 C dX11_span_11 (by decide) (fun hc => ?_) (fun a4 ha4 => ?_)
  · have hF := hF.1 hc
    refine xg_iconst (pc := 21) (v := (-1)) C dX11_span_21 (by decide) ?_
    obtain ⟨hfit, hF⟩ := hF
    exact xg_endI (pc := 22) C E hfit dX11_span_22 hF
  · have hF := hF.2 a4 ha4
    refine xg_iload_n (pc := 14) C dX11_span_14 3 rfl ?_
    obtain ⟨hfit, hF⟩ := hF
    refine xg_csI (pc := 15) C (fun zs => [.int x2]) (met_X11_isT Y x2) gX11_span_X11_isT rfl ⟨rfl, rfl⟩ nd_X11_isT.2 ⟨Nat.le_of_ble_eq_true rfl, Nat.le_of_ble_eq_true rfl⟩ rfl rfl (Nat.le_of_ble_eq_true rfl) hfit dX11_span_15 hF (fun r6 h5 hF => ?_)
    refine xg_if_ne (pc := 18) 23 C dX11_span_18 (by decide) (fun hc => ?_) (fun hc => ?_)
    · have hF := hF.1 hc
      refine xg_aload_n (pc := 23) C dX11_span_23 1 rfl ?_
      refine xg_iload_n (pc := 24) C dX11_span_24 2 rfl ?_
      refine xg_aload_n (pc := 25) C dX11_span_25 0 rfl ?_
      obtain ⟨mc8, ms8, hfit, hF⟩ := hF
      refine xg_dvR (pc := 26) (C1 := RX11) (T1 := TX11) (ci := 11) C [.int x1, va_rf r3] rfl hthis (by decide) rfl (met_X11_bookOf mc8 ms8 Y this x1 r3) gX11_span_X11_bookOf rfl nd_X11_bookOf ⟨Nat.le_of_ble_eq_true rfl, Nat.le_of_ble_eq_true rfl⟩ rfl rfl (Nat.le_of_ble_eq_true rfl) hfit dX11_span_26 hF (fun r8 Y9 h10 hF => ?_)
      refine xg_iload_n (pc := 29) C dX11_span_29 3 rfl ?_
      obtain ⟨a11, ha11, hka11, hF⟩ := hF
      obtain ⟨hfit, hF⟩ := hF
      refine xg_cvI (pc := 30) (C1 := RX1) (T1 := TX1) (ci := 1) C (fun zs => [.int x2]) ha11 hka11 (by decide) rfl (met_X1_leastSpan Y9 a11 x2) gX11_span_X1_leastSpan rfl ⟨rfl, rfl⟩ nd_X1_leastSpan ⟨Nat.le_of_ble_eq_true rfl, Nat.le_of_ble_eq_true rfl⟩ rfl rfl (Nat.le_of_ble_eq_true rfl) hfit dX11_span_30 hF (fun r13 h12 hF => ?_)
      obtain ⟨hfit, hF⟩ := hF
      exact xg_endI (pc := 33) C E hfit dX11_span_33 hF
    · have hF := hF.2 hc
      refine xg_iconst (pc := 21) (v := (-1)) C dX11_span_21 (by decide) ?_
      obtain ⟨hfit, hF⟩ := hF
      exact xg_endI (pc := 22) C E hfit dX11_span_22 hF
def rm_X11_tell (MC MS : Nat) : Room := { frames := 6, cells := MC, slots := MS, locals := 142 }
theorem nd_X11_tell : yX11_tell.cls = RX11 ∧ yX11_tell.cls ≠ "java/lang/invoke/MethodHandle" ∧ yX11_tell.cls ≠ "java/lang/invoke/VarHandle" ∧ (parseMethodDescriptor yX11_tell.desc).map (fun d => d.parameters.length) = some 3 := by decide +kernel
theorem inm_X11_tell_11 : ∀ w ∈ u_ws RX11 TX11 (xg_N 11), w ∈ wsX11_tell := fun _ h9 => List.mem_cons_of_mem _ (List.mem_append_left _ (List.mem_append_left _ (List.mem_append_left _ (List.mem_append_left _ (List.mem_append_left _ (List.mem_append_left _ (List.mem_append_right _ h9)))))))
set_option maxHeartbeats 4000000 in
set_option maxRecDepth 100000 in
theorem met_X11_tell (MC MS : Nat) (Y : xg_Y) (this : Nat) (x1 : Int32) (x2 : Int32) (x3 : Int32) : xg_NI yX11_tell wsX11_tell (rm_X11_tell MC MS) Y [va_rf (some this), .int x1, .int x2, .int x3] (fun Q h => wp_X11_tell MC MS Y Q this x1 x2 x3 h) := by
  refine xg_beginI (cc := cX11_tell) (maxL := 6) (own := RX11) (by decide) rfl rfl (Nat.le_of_ble_eq_true rfl) (fun X Q h C hnL E hw => ?_)
  unfold wp_X11_tell at hw
  obtain ⟨hthis, hw⟩ := hw
  refine xg_sub (lv2 := [(0, va_rf (some this)), (1, .int x1), (2, .int x2), (3, .int x3)]) [0, 1, 2, 3] rfl ?_
  have hF := hw
  refine xg_aload_n (pc := 0) C dX11_tell_0 0 rfl ?_
  refine xg_getr (pc := 1) (C1 := RX11) (T1 := TX11) (ci := 11) (ref := "SandGlasses") C inm_X11_tell_11 rfl (by decide) 0 (by decide) rfl dX11_tell_1 (List.mem_of_getElem? (i := 1) rfl) rfl rfl hthis ?_
  refine xg_iconst (pc := 4) (v := 0) C dX11_tell_4 (by decide) ?_
  refine xg_iload_n (pc := 5) C dX11_tell_5 1 rfl ?_
  obtain ⟨a1, ha1, hka1, hF⟩ := hF
  obtain ⟨hfit, hF⟩ := hF
  refine xg_cvR (pc := 6) (C1 := RX9) (T1 := TX9) (ci := 9) C (fun zs => [.int 0, .int x1]) ha1 hka1 (by decide) rfl (met_X9_find Y a1 0 x1) gX11_tell_X9_find rfl ⟨rfl, rfl⟩ nd_X9_find ⟨Nat.le_of_ble_eq_true rfl, Nat.le_of_ble_eq_true rfl⟩ rfl rfl (Nat.le_of_ble_eq_true rfl) hfit dX11_tell_6 hF (fun r3 h2 hF => ?_)
  refine xg_astore (pc := 9) (lv2 := [(4, va_rf r3), (0, va_rf (some this)), (1, .int x1), (2, .int x2), (3, .int x3)]) C dX11_tell_9 6 hnL (by decide) rfl ?_
  refine xg_aload (pc := 11) C dX11_tell_11 0 rfl ?_
  refine xg_ifnull (pc := 13) 23 C dX11_tell_13 (by decide) (fun hc => ?_) (fun a4 ha4 => ?_)
  · have hF := hF.1 hc
    refine xg_iconst (pc := 23) (v := (-1)) C dX11_tell_23 (by decide) ?_
    obtain ⟨hfit, hF⟩ := hF
    exact xg_endI (pc := 24) C E hfit dX11_tell_24 hF
  · have hF := hF.2 a4 ha4
    refine xg_iload_n (pc := 16) C dX11_tell_16 3 rfl ?_
    obtain ⟨hfit, hF⟩ := hF
    refine xg_csI (pc := 17) C (fun zs => [.int x2]) (met_X11_isT Y x2) gX11_tell_X11_isT rfl ⟨rfl, rfl⟩ nd_X11_isT.2 ⟨Nat.le_of_ble_eq_true rfl, Nat.le_of_ble_eq_true rfl⟩ rfl rfl (Nat.le_of_ble_eq_true rfl) hfit dX11_tell_17 hF (fun r6 h5 hF => ?_)
    refine xg_if_ne (pc := 20) 25 C dX11_tell_20 (by decide) (fun hc => ?_) (fun hc => ?_)
    · have hF := hF.1 hc
      refine xg_aload_n (pc := 25) C dX11_tell_25 1 rfl ?_
      refine xg_iload_n (pc := 26) C dX11_tell_26 2 rfl ?_
      refine xg_aload (pc := 27) C dX11_tell_27 0 rfl ?_
      obtain ⟨mc8, ms8, hfit, hF⟩ := hF
      refine xg_dvR (pc := 29) (C1 := RX11) (T1 := TX11) (ci := 11) C [.int x1, va_rf r3] rfl hthis (by decide) rfl (met_X11_bookOf mc8 ms8 Y this x1 r3) gX11_tell_X11_bookOf rfl nd_X11_bookOf ⟨Nat.le_of_ble_eq_true rfl, Nat.le_of_ble_eq_true rfl⟩ rfl rfl (Nat.le_of_ble_eq_true rfl) hfit dX11_tell_29 hF (fun r8 Y9 h10 hF => ?_)
      refine xg_astore (pc := 32) (lv2 := [(5, va_rf r8), (4, va_rf r3), (0, va_rf (some this)), (1, .int x1), (2, .int x2), (3, .int x3)]) C dX11_tell_32 6 hnL (by decide) (by cases r3 <;> rfl) ?_
      refine xg_aload (pc := 34) C dX11_tell_34 0 rfl ?_
      obtain ⟨a11, ha11, hka11, hF⟩ := hF
      obtain ⟨hfit, hF⟩ := hF
      refine xg_cvI (pc := 36) (C1 := RX1) (T1 := TX1) (ci := 1) C (fun zs => []) ha11 hka11 (by decide) rfl (met_X1_told Y9 a11) gX11_tell_X1_told rfl ⟨rfl, rfl⟩ nd_X1_told ⟨Nat.le_of_ble_eq_true rfl, Nat.le_of_ble_eq_true rfl⟩ rfl rfl (Nat.le_of_ble_eq_true rfl) hfit dX11_tell_36 hF (fun r13 h12 hF => ?_)
      refine xg_iload_n (pc := 39) C dX11_tell_39 4 rfl ?_
      obtain ⟨hfit, hF⟩ := hF
      refine xg_csI (pc := 40) C (fun zs => [.int r13, .int x2]) (met_X11_has Y9 r13 x2) gX11_tell_X11_has rfl ⟨rfl, rfl⟩ nd_X11_has.2 ⟨Nat.le_of_ble_eq_true rfl, Nat.le_of_ble_eq_true rfl⟩ rfl rfl (Nat.le_of_ble_eq_true rfl) hfit dX11_tell_40 hF (fun r15 h14 hF => ?_)
      refine xg_if_ne (pc := 43) 48 C dX11_tell_43 (by decide) (fun hc => ?_) (fun hc => ?_)
      · have hF := hF.1 hc
        refine xg_iload_n (pc := 48) C dX11_tell_48 5 rfl ?_
        by_cases hs0 : x3 = 0
        · have hF := hF.1 hs0
          refine xg_tabIn (pc := 49) 76 C dX11_tell_49 (by rw [hs0]; decide) (by rw [hs0]; decide) (off := 27) (by rw [hs0]; rfl) (by decide) ?_
          refine xg_aload (pc := 76) C dX11_tell_76 0 rfl ?_
          refine xg_iload_n (pc := 78) C dX11_tell_78 4 rfl ?_
          obtain ⟨hfit, hF⟩ := hF
          refine xg_cvI (pc := 79) (C1 := RX1) (T1 := TX1) (ci := 1) C (fun zs => [.int x2]) ha11 hka11 (by decide) rfl (met_X1_fewestTurns Y9 a11 x2) gX11_tell_X1_fewestTurns rfl ⟨rfl, rfl⟩ nd_X1_fewestTurns ⟨Nat.le_of_ble_eq_true rfl, Nat.le_of_ble_eq_true rfl⟩ rfl rfl (Nat.le_of_ble_eq_true rfl) hfit dX11_tell_79 hF (fun r17 h16 hF => ?_)
          obtain ⟨hfit, hF⟩ := hF
          exact xg_endI (pc := 82) C E hfit dX11_tell_82 hF
        have hF := hF.2
        by_cases hs1 : x3 = 1
        · have hF := hF.1 hs1
          refine xg_tabIn (pc := 49) 83 C dX11_tell_49 (by rw [hs1]; decide) (by rw [hs1]; decide) (off := 34) (by rw [hs1]; rfl) (by decide) ?_
          refine xg_aload (pc := 83) C dX11_tell_83 0 rfl ?_
          refine xg_iload_n (pc := 85) C dX11_tell_85 4 rfl ?_
          obtain ⟨hfit, hF⟩ := hF
          refine xg_cvI (pc := 86) (C1 := RX1) (T1 := TX1) (ci := 1) C (fun zs => [.int x2]) ha11 hka11 (by decide) rfl (met_X1_fewestEvents Y9 a11 x2) gX11_tell_X1_fewestEvents rfl ⟨rfl, rfl⟩ nd_X1_fewestEvents ⟨Nat.le_of_ble_eq_true rfl, Nat.le_of_ble_eq_true rfl⟩ rfl rfl (Nat.le_of_ble_eq_true rfl) hfit dX11_tell_86 hF (fun r19 h18 hF => ?_)
          obtain ⟨hfit, hF⟩ := hF
          exact xg_endI (pc := 89) C E hfit dX11_tell_89 hF
        have hF := hF.2
        by_cases hs2 : x3 = 2
        · have hF := hF.1 hs2
          refine xg_tabIn (pc := 49) 90 C dX11_tell_49 (by rw [hs2]; decide) (by rw [hs2]; decide) (off := 41) (by rw [hs2]; rfl) (by decide) ?_
          refine xg_aload (pc := 90) C dX11_tell_90 0 rfl ?_
          refine xg_aload (pc := 92) C dX11_tell_92 1 rfl ?_
          refine xg_iload_n (pc := 94) C dX11_tell_94 4 rfl ?_
          obtain ⟨hfit, hF⟩ := hF
          refine xg_cvI (pc := 95) (C1 := RX1) (T1 := TX1) (ci := 1) C (fun zs => [va_rf r3, .int x2]) ha11 hka11 (by decide) rfl (met_X1_leastPrice Y9 a11 r3 x2) gX11_tell_X1_leastPrice rfl ⟨rfl, rfl⟩ nd_X1_leastPrice ⟨Nat.le_of_ble_eq_true rfl, Nat.le_of_ble_eq_true rfl⟩ rfl rfl (Nat.le_of_ble_eq_true rfl) hfit dX11_tell_95 hF (fun r21 h20 hF => ?_)
          obtain ⟨hfit, hF⟩ := hF
          exact xg_endI (pc := 98) C E hfit dX11_tell_98 hF
        have hF := hF.2
        have hF := hF hs0 hs1 hs2
        refine xg_tabOut (pc := 49) 99 C dX11_tell_49 (mg_swd x3 0 2 (fun v h1 h2 => ?_)) (by decide) ?_
        · rcases (show v = 0 ∨ v = 1 ∨ v = 2 by omega) with rfl | rfl | rfl
          · exact hs0
          · exact hs1
          · exact hs2
        refine xg_aload (pc := 99) C dX11_tell_99 1 rfl ?_
        refine xg_iload_n (pc := 101) C dX11_tell_101 5 rfl ?_
        refine xg_iconst (pc := 102) (v := 3) C dX11_tell_102 (by decide) ?_
        obtain ⟨hfit, hF⟩ := hF
        refine xg_csI (pc := 103) C (fun zs => [va_rf r3, .int x3, .int 3]) (met_X11_isGlass Y9 r3 x3 3) gX11_tell_X11_isGlass rfl ⟨rfl, rfl⟩ nd_X11_isGlass.2 ⟨Nat.le_of_ble_eq_true rfl, Nat.le_of_ble_eq_true rfl⟩ rfl rfl (Nat.le_of_ble_eq_true rfl) hfit dX11_tell_103 hF (fun r23 h22 hF => ?_)
        refine xg_if_eq (pc := 106) 121 C dX11_tell_106 (by decide) (fun hc => ?_) (fun hc => ?_)
        · have hF := hF.1 hc
          refine xg_aload (pc := 121) C dX11_tell_121 0 rfl ?_
          refine xg_iload_n (pc := 123) C dX11_tell_123 4 rfl ?_
          refine xg_iload_n (pc := 124) C dX11_tell_124 5 rfl ?_
          obtain ⟨hfit, hF⟩ := hF
          refine xg_cvI (pc := 125) (C1 := RX1) (T1 := TX1) (ci := 1) C (fun zs => [.int x2, .int x3]) ha11 hka11 (by decide) rfl (met_X1_rowAt Y9 a11 x2 x3) gX11_tell_X1_rowAt rfl ⟨rfl, rfl⟩ nd_X1_rowAt ⟨Nat.le_of_ble_eq_true rfl, Nat.le_of_ble_eq_true rfl⟩ rfl rfl (Nat.le_of_ble_eq_true rfl) hfit dX11_tell_125 hF (fun r25 h24 hF => ?_)
          obtain ⟨hfit, hF⟩ := hF
          exact xg_endI (pc := 128) C E hfit dX11_tell_128 hF
        · have hF := hF.2 hc
          refine xg_aload (pc := 109) C dX11_tell_109 0 rfl ?_
          refine xg_iload_n (pc := 111) C dX11_tell_111 4 rfl ?_
          refine xg_iload_n (pc := 112) C dX11_tell_112 5 rfl ?_
          refine xg_iconst (pc := 113) (v := 3) C dX11_tell_113 (by decide) ?_
          refine xg_isub (pc := 114) C dX11_tell_114 ?_
          obtain ⟨hfit, hF⟩ := hF
          refine xg_cvI (pc := 115) (C1 := RX1) (T1 := TX1) (ci := 1) C (fun zs => [.int x2, .int (x3 - 3)]) ha11 hka11 (by decide) rfl (met_X1_usedInRow Y9 a11 x2 (x3 - 3)) gX11_tell_X1_usedInRow rfl ⟨rfl, rfl⟩ nd_X1_usedInRow ⟨Nat.le_of_ble_eq_true rfl, Nat.le_of_ble_eq_true rfl⟩ rfl rfl (Nat.le_of_ble_eq_true rfl) hfit dX11_tell_115 hF (fun r27 h26 hF => ?_)
          refine xg_goto (pc := 118) 128 C dX11_tell_118 (by decide) ?_
          obtain ⟨hfit, hF⟩ := hF
          exact xg_endI (pc := 128) C E hfit dX11_tell_128 hF
      · have hF := hF.2 hc
        refine xg_iconst (pc := 46) (v := (-1)) C dX11_tell_46 (by decide) ?_
        obtain ⟨hfit, hF⟩ := hF
        exact xg_endI (pc := 47) C E hfit dX11_tell_47 hF
    · have hF := hF.2 hc
      refine xg_iconst (pc := 23) (v := (-1)) C dX11_tell_23 (by decide) ?_
      obtain ⟨hfit, hF⟩ := hF
      exact xg_endI (pc := 24) C E hfit dX11_tell_24 hF
def rm_X11_times (MC MS : Nat) : Room := { frames := 6, cells := MC, slots := MS, locals := 142 }
theorem nd_X11_times : yX11_times.cls = RX11 ∧ yX11_times.cls ≠ "java/lang/invoke/MethodHandle" ∧ yX11_times.cls ≠ "java/lang/invoke/VarHandle" ∧ (parseMethodDescriptor yX11_times.desc).map (fun d => d.parameters.length) = some 2 := by decide +kernel
theorem inm_X11_times_11 : ∀ w ∈ u_ws RX11 TX11 (xg_N 11), w ∈ wsX11_times := fun _ h9 => List.mem_cons_of_mem _ (List.mem_append_left _ (List.mem_append_left _ (List.mem_append_left _ (List.mem_append_left _ (List.mem_append_left _ (List.mem_append_left _ (List.mem_append_right _ h9)))))))
set_option maxHeartbeats 4000000 in
set_option maxRecDepth 100000 in
theorem met_X11_times (MC MS : Nat) (Y : xg_Y) (this : Nat) (x1 : Int32) (x2 : Int32) : xg_NI yX11_times wsX11_times (rm_X11_times MC MS) Y [va_rf (some this), .int x1, .int x2] (fun Q h => wp_X11_times MC MS Y Q this x1 x2 h) := by
  refine xg_beginI (cc := cX11_times) (maxL := 4) (own := RX11) (by decide) rfl rfl (Nat.le_of_ble_eq_true rfl) (fun X Q h C hnL E hw => ?_)
  unfold wp_X11_times at hw
  obtain ⟨hthis, hw⟩ := hw
  refine xg_sub (lv2 := [(0, va_rf (some this)), (1, .int x1), (2, .int x2)]) [0, 1, 2] rfl ?_
  refine mg_use (hw (fun (y3 : Option Nat) (kc nc : Nat) (Yc : xg_Y) (h : xg_H) => xg_W X kc nc Yc 35 [(0, va_rf (some this)), (1, .int x1), (2, .int x2), (3, va_rf y3)] [] h) (fun (y3 : Option Nat) (kc nc : Nat) (Yc : xg_Y) (h : xg_H) => xg_W X kc nc Yc 56 [(0, va_rf (some this)), (1, .int x1), (2, .int x2), (3, va_rf y3)] [] h) ?_ ?_) (fun hF => ?_)
  · intro y3 kc nc Yc h hF
    refine xg_iload_n (pc := 35) C dX11_times_35 2 rfl ?_
    refine xg_if_lt (pc := 36) 56 C dX11_times_36 (by decide) (fun hc => ?_) (fun hc => ?_)
    · have hF := hF.1 hc
      exact hF
    · have hF := hF.2 hc
      refine xg_iload_n (pc := 39) C dX11_times_39 2 rfl ?_
      refine xg_bipush (pc := 40) (v := 8) C dX11_times_40 (by decide) ?_
      refine xg_icmp_gt (pc := 42) 56 C dX11_times_42 (by decide) (fun hc => ?_) (fun hc => ?_)
      · have hF := hF.1 hc
        exact hF
      · have hF := hF.2 hc
        refine xg_aload_n (pc := 45) C dX11_times_45 0 rfl ?_
        refine xg_iload_n (pc := 46) C dX11_times_46 1 rfl ?_
        refine xg_aload_n (pc := 47) C dX11_times_47 3 rfl ?_
        obtain ⟨hk7, hF⟩ := hF
        obtain ⟨mc9, ms9, hfit, hF⟩ := hF
        refine xg_dvR (pc := 48) (C1 := RX11) (T1 := TX11) (ci := 11) C [.int x1, va_rf y3] rfl hk7 (by decide) rfl (met_X11_bookOf mc9 ms9 Yc this x1 y3) gX11_times_X11_bookOf rfl nd_X11_bookOf ⟨Nat.le_of_ble_eq_true rfl, Nat.le_of_ble_eq_true rfl⟩ rfl rfl (Nat.le_of_ble_eq_true rfl) hfit dX11_times_48 hF (fun r9 Y10 h11 hF => ?_)
        refine xg_iload_n (pc := 51) C dX11_times_51 2 rfl ?_
        obtain ⟨hfit, hF⟩ := hF
        refine xg_csI (pc := 52) C (fun zs => [va_rf r9, .int x2]) (met_X11_ofTimes Y10 r9 x2) gX11_times_X11_ofTimes rfl ⟨rfl, rfl⟩ nd_X11_ofTimes.2 ⟨Nat.le_of_ble_eq_true rfl, Nat.le_of_ble_eq_true rfl⟩ rfl rfl (Nat.le_of_ble_eq_true rfl) hfit dX11_times_52 hF (fun r13 h12 hF => ?_)
        obtain ⟨hfit, hF⟩ := hF
        exact xg_endI (pc := 55) C E hfit dX11_times_55 hF
  · intro y3 kc nc Yc h hF
    refine xg_iload_n (pc := 56) C dX11_times_56 2 rfl ?_
    refine xg_bipush (pc := 57) (v := 14) C dX11_times_57 (by decide) ?_
    refine xg_icmp_ne (pc := 59) 72 C dX11_times_59 (by decide) (fun hc => ?_) (fun hc => ?_)
    · have hF := hF.1 hc
      refine xg_aload_n (pc := 72) C dX11_times_72 3 rfl ?_
      refine xg_iload_n (pc := 73) C dX11_times_73 2 rfl ?_
      refine xg_bipush (pc := 74) (v := 20) C dX11_times_74 (by decide) ?_
      obtain ⟨hfit, hF⟩ := hF
      refine xg_csI (pc := 76) C (fun zs => [va_rf y3, .int x2, .int 20]) (met_X11_isGlass Yc y3 x2 20) gX11_times_X11_isGlass rfl ⟨rfl, rfl⟩ nd_X11_isGlass.2 ⟨Nat.le_of_ble_eq_true rfl, Nat.le_of_ble_eq_true rfl⟩ rfl rfl (Nat.le_of_ble_eq_true rfl) hfit dX11_times_76 hF (fun r15 h14 hF => ?_)
      refine xg_if_eq (pc := 79) 100 C dX11_times_79 (by decide) (fun hc => ?_) (fun hc => ?_)
      · have hF := hF.1 hc
        refine xg_bipush (pc := 100) (v := (-2)) C dX11_times_100 (by decide) ?_
        obtain ⟨hfit, hF⟩ := hF
        exact xg_endI (pc := 102) C E hfit dX11_times_102 hF
      · have hF := hF.2 hc
        refine xg_aload_n (pc := 82) C dX11_times_82 0 rfl ?_
        refine xg_iload_n (pc := 83) C dX11_times_83 1 rfl ?_
        refine xg_aload_n (pc := 84) C dX11_times_84 3 rfl ?_
        obtain ⟨hk16, hF⟩ := hF
        obtain ⟨mc18, ms18, hfit, hF⟩ := hF
        refine xg_dvR (pc := 85) (C1 := RX11) (T1 := TX11) (ci := 11) C [.int x1, va_rf y3] rfl hk16 (by decide) rfl (met_X11_bookOf mc18 ms18 Yc this x1 y3) gX11_times_X11_bookOf rfl nd_X11_bookOf ⟨Nat.le_of_ble_eq_true rfl, Nat.le_of_ble_eq_true rfl⟩ rfl rfl (Nat.le_of_ble_eq_true rfl) hfit dX11_times_85 hF (fun r18 Y19 h20 hF => ?_)
        refine xg_iconst (pc := 88) (v := 1) C dX11_times_88 (by decide) ?_
        refine xg_iload_n (pc := 89) C dX11_times_89 2 rfl ?_
        refine xg_bipush (pc := 90) (v := 20) C dX11_times_90 (by decide) ?_
        refine xg_isub (pc := 92) C dX11_times_92 ?_
        refine xg_ishl (pc := 93) C dX11_times_93 ?_
        obtain ⟨a21, ha21, hka21, hF⟩ := hF
        obtain ⟨hfit, hF⟩ := hF
        refine xg_cvI (pc := 94) (C1 := RX1) (T1 := TX1) (ci := 1) C (fun zs => [.int (1 <<< ((x2 - 20) &&& 31))]) ha21 hka21 (by decide) rfl (met_X1_toldBy Y19 a21 (1 <<< ((x2 - 20) &&& 31))) gX11_times_X1_toldBy rfl ⟨rfl, rfl⟩ nd_X1_toldBy ⟨Nat.le_of_ble_eq_true rfl, Nat.le_of_ble_eq_true rfl⟩ rfl rfl (Nat.le_of_ble_eq_true rfl) hfit dX11_times_94 hF (fun r23 h22 hF => ?_)
        refine xg_goto (pc := 97) 102 C dX11_times_97 (by decide) ?_
        obtain ⟨hfit, hF⟩ := hF
        exact xg_endI (pc := 102) C E hfit dX11_times_102 hF
    · have hF := hF.2 hc
      refine xg_aload_n (pc := 62) C dX11_times_62 0 rfl ?_
      refine xg_iload_n (pc := 63) C dX11_times_63 1 rfl ?_
      refine xg_aload_n (pc := 64) C dX11_times_64 3 rfl ?_
      obtain ⟨hk24, hF⟩ := hF
      obtain ⟨mc26, ms26, hfit, hF⟩ := hF
      refine xg_dvR (pc := 65) (C1 := RX11) (T1 := TX11) (ci := 11) C [.int x1, va_rf y3] rfl hk24 (by decide) rfl (met_X11_bookOf mc26 ms26 Yc this x1 y3) gX11_times_X11_bookOf rfl nd_X11_bookOf ⟨Nat.le_of_ble_eq_true rfl, Nat.le_of_ble_eq_true rfl⟩ rfl rfl (Nat.le_of_ble_eq_true rfl) hfit dX11_times_65 hF (fun r26 Y27 h28 hF => ?_)
      obtain ⟨a29, ha29, hka29, hF⟩ := hF
      obtain ⟨hfit, hF⟩ := hF
      refine xg_cvI (pc := 68) (C1 := RX1) (T1 := TX1) (ci := 1) C (fun zs => []) ha29 hka29 (by decide) rfl (met_X1_longestStill Y27 a29) gX11_times_X1_longestStill rfl ⟨rfl, rfl⟩ nd_X1_longestStill ⟨Nat.le_of_ble_eq_true rfl, Nat.le_of_ble_eq_true rfl⟩ rfl rfl (Nat.le_of_ble_eq_true rfl) hfit dX11_times_68 hF (fun r31 h30 hF => ?_)
      obtain ⟨hfit, hF⟩ := hF
      exact xg_endI (pc := 71) C E hfit dX11_times_71 hF
  · skip
    refine xg_aload_n (pc := 0) C dX11_times_0 0 rfl ?_
    refine xg_getr (pc := 1) (C1 := RX11) (T1 := TX11) (ci := 11) (ref := "SandGlasses") C inm_X11_times_11 rfl (by decide) 0 (by decide) rfl dX11_times_1 (List.mem_of_getElem? (i := 1) rfl) rfl rfl hthis ?_
    refine xg_iconst (pc := 4) (v := 0) C dX11_times_4 (by decide) ?_
    refine xg_iload_n (pc := 5) C dX11_times_5 1 rfl ?_
    obtain ⟨a1, ha1, hka1, hF⟩ := hF
    obtain ⟨hfit, hF⟩ := hF
    refine xg_cvR (pc := 6) (C1 := RX9) (T1 := TX9) (ci := 9) C (fun zs => [.int 0, .int x1]) ha1 hka1 (by decide) rfl (met_X9_find Y a1 0 x1) gX11_times_X9_find rfl ⟨rfl, rfl⟩ nd_X9_find ⟨Nat.le_of_ble_eq_true rfl, Nat.le_of_ble_eq_true rfl⟩ rfl rfl (Nat.le_of_ble_eq_true rfl) hfit dX11_times_6 hF (fun r3 h2 hF => ?_)
    refine xg_astore_n (pc := 9) (lv2 := [(3, va_rf r3), (0, va_rf (some this)), (1, .int x1), (2, .int x2)]) C dX11_times_9 4 hnL (by decide) rfl ?_
    refine xg_aload_n (pc := 10) C dX11_times_10 0 rfl ?_
    refine xg_ifnonnull (pc := 11) 17 C dX11_times_11 (by decide) (fun a4 ha4 => ?_) (fun hc => ?_)
    · have hF := hF.2 a4 ha4
      refine xg_iload_n (pc := 17) C dX11_times_17 3 rfl ?_
      refine xg_bipush (pc := 18) (v := 9) C dX11_times_18 (by decide) ?_
      refine xg_icmp_lt (pc := 20) 35 C dX11_times_20 (by decide) (fun hc => ?_) (fun hc => ?_)
      · have hF := hF.1 hc
        refine xg_sub (lv2 := [(0, va_rf (some this)), (1, .int x1), (2, .int x2), (3, va_rf r3)]) [1, 2, 3, 0] rfl ?_
        exact hF
      · have hF := hF.2 hc
        refine xg_iload_n (pc := 23) C dX11_times_23 3 rfl ?_
        refine xg_bipush (pc := 24) (v := 13) C dX11_times_24 (by decide) ?_
        refine xg_icmp_gt (pc := 26) 35 C dX11_times_26 (by decide) (fun hc => ?_) (fun hc => ?_)
        · have hF := hF.1 hc
          refine xg_sub (lv2 := [(0, va_rf (some this)), (1, .int x1), (2, .int x2), (3, va_rf r3)]) [1, 2, 3, 0] rfl ?_
          exact hF
        · have hF := hF.2 hc
          refine xg_aload_n (pc := 29) C dX11_times_29 0 rfl ?_
          refine xg_iload_n (pc := 30) C dX11_times_30 3 rfl ?_
          obtain ⟨hfit, hF⟩ := hF
          refine xg_csI (pc := 31) C (fun zs => [va_rf r3, .int x2]) (met_X11_ofShelf Y r3 x2) gX11_times_X11_ofShelf rfl ⟨rfl, rfl⟩ nd_X11_ofShelf.2 ⟨Nat.le_of_ble_eq_true rfl, Nat.le_of_ble_eq_true rfl⟩ rfl rfl (Nat.le_of_ble_eq_true rfl) hfit dX11_times_31 hF (fun r6 h5 hF => ?_)
          obtain ⟨hfit, hF⟩ := hF
          exact xg_endI (pc := 34) C E hfit dX11_times_34 hF
    · have hF := hF.1 hc
      refine xg_bipush (pc := 14) (v := (-2)) C dX11_times_14 (by decide) ?_
      obtain ⟨hfit, hF⟩ := hF
      exact xg_endI (pc := 16) C E hfit dX11_times_16 hF
def rm_X11_wheel (MC MS : Nat) : Room := { frames := 7, cells := MC, slots := MS, locals := 159 }
theorem nd_X11_wheel : yX11_wheel.cls = RX11 ∧ yX11_wheel.cls ≠ "java/lang/invoke/MethodHandle" ∧ yX11_wheel.cls ≠ "java/lang/invoke/VarHandle" ∧ (parseMethodDescriptor yX11_wheel.desc).map (fun d => d.parameters.length) = some 2 := by decide +kernel
theorem inm_X11_wheel_4 : ∀ w ∈ u_ws RX4 TX4 (xg_N 4), w ∈ wsX11_wheel := fun _ h9 => List.mem_cons_of_mem _ (List.mem_append_left _ (List.mem_append_left _ (List.mem_append_left _ (List.mem_append_left _ (List.mem_append_left _ (List.mem_append_left _ (List.mem_append_right _ h9)))))))
theorem inm_X11_wheel_11 : ∀ w ∈ u_ws RX11 TX11 (xg_N 11), w ∈ wsX11_wheel := fun _ h9 => List.mem_cons_of_mem _ (List.mem_append_left _ (List.mem_append_left _ (List.mem_append_left _ (List.mem_append_left _ (List.mem_append_left _ (List.mem_append_left _ (List.mem_append_left _ (List.mem_append_right _ h9))))))))
set_option maxHeartbeats 4000000 in
set_option maxRecDepth 100000 in
theorem met_X11_wheel (MC MS : Nat) (Y : xg_Y) (this : Nat) (x1 : Int32) (x2 : Int32) : xg_NI yX11_wheel wsX11_wheel (rm_X11_wheel MC MS) Y [va_rf (some this), .int x1, .int x2] (fun Q h => wp_X11_wheel MC MS Y Q this x1 x2 h) := by
  refine xg_beginI (cc := cX11_wheel) (maxL := 4) (own := RX11) (by decide) rfl rfl (Nat.le_of_ble_eq_true rfl) (fun X Q h C hnL E hw => ?_)
  unfold wp_X11_wheel at hw
  obtain ⟨hthis, hw⟩ := hw
  refine xg_sub (lv2 := [(0, va_rf (some this)), (1, .int x1), (2, .int x2)]) [0, 1, 2] rfl ?_
  have hF := hw
  refine xg_aload_n (pc := 0) C dX11_wheel_0 0 rfl ?_
  refine xg_getr (pc := 1) (C1 := RX11) (T1 := TX11) (ci := 11) (ref := "SandGlasses") C inm_X11_wheel_11 rfl (by decide) 0 (by decide) rfl dX11_wheel_1 (List.mem_of_getElem? (i := 1) rfl) rfl rfl hthis ?_
  refine xg_iconst (pc := 4) (v := 0) C dX11_wheel_4 (by decide) ?_
  refine xg_iload_n (pc := 5) C dX11_wheel_5 1 rfl ?_
  obtain ⟨a1, ha1, hka1, hF⟩ := hF
  obtain ⟨hfit, hF⟩ := hF
  refine xg_cvR (pc := 6) (C1 := RX9) (T1 := TX9) (ci := 9) C (fun zs => [.int 0, .int x1]) ha1 hka1 (by decide) rfl (met_X9_find Y a1 0 x1) gX11_wheel_X9_find rfl ⟨rfl, rfl⟩ nd_X9_find ⟨Nat.le_of_ble_eq_true rfl, Nat.le_of_ble_eq_true rfl⟩ rfl rfl (Nat.le_of_ble_eq_true rfl) hfit dX11_wheel_6 hF (fun r3 h2 hF => ?_)
  refine xg_astore_n (pc := 9) (lv2 := [(3, va_rf r3), (0, va_rf (some this)), (1, .int x1), (2, .int x2)]) C dX11_wheel_9 4 hnL (by decide) rfl ?_
  refine xg_aload_n (pc := 10) C dX11_wheel_10 0 rfl ?_
  refine xg_ifnonnull (pc := 11) 17 C dX11_wheel_11 (by decide) (fun a4 ha4 => ?_) (fun hc => ?_)
  · have hF := hF.2 a4 ha4
    refine xg_iload_n (pc := 17) C dX11_wheel_17 3 rfl ?_
    refine xg_if_ne (pc := 18) 31 C dX11_wheel_18 (by decide) (fun hc => ?_) (fun hc => ?_)
    · have hF := hF.1 hc
      refine xg_aload_n (pc := 31) C dX11_wheel_31 1 rfl ?_
      refine xg_getr (pc := 32) (C1 := RX11) (T1 := TX11) (ci := 11) (ref := "SandGlasses") C inm_X11_wheel_11 rfl (by decide) 6 (by decide) rfl dX11_wheel_32 (List.mem_of_getElem? (i := 2) rfl) rfl rfl hthis ?_
      refine xg_aload_n (pc := 35) C dX11_wheel_35 0 rfl ?_
      obtain ⟨a5, ha5, hka5, hF⟩ := hF
      obtain ⟨hfit, hF⟩ := hF
      refine xg_cvV (pc := 36) (C1 := RX4) (T1 := TX4) (ci := 4) C (fun zs => [va_rf r3]) ha5 hka5 (by decide) rfl (met_X4_begin Y a5 r3) gX11_wheel_X4_begin rfl ⟨rfl, rfl⟩ nd_X4_begin ⟨Nat.le_of_ble_eq_true rfl, Nat.le_of_ble_eq_true rfl⟩ rfl rfl (Nat.le_of_ble_eq_true rfl) hfit dX11_wheel_36 hF (fun h6 hF => ?_)
      refine xg_aload_n (pc := 39) C dX11_wheel_39 1 rfl ?_
      refine xg_getr (pc := 40) (C1 := RX11) (T1 := TX11) (ci := 11) (ref := "SandGlasses") C inm_X11_wheel_11 rfl (by decide) 6 (by decide) rfl dX11_wheel_40 (List.mem_of_getElem? (i := 2) rfl) rfl rfl hthis ?_
      obtain ⟨a7, ha7, hka7, hF⟩ := hF
      obtain ⟨hfit, hF⟩ := hF
      refine xg_cvV (pc := 43) (C1 := RX4) (T1 := TX4) (ci := 4) C (fun zs => []) ha7 hka7 (by decide) rfl (met_X4_goRound Y a7) gX11_wheel_X4_goRound rfl ⟨rfl, rfl⟩ nd_X4_goRound ⟨Nat.le_of_ble_eq_true rfl, Nat.le_of_ble_eq_true rfl⟩ rfl rfl (Nat.le_of_ble_eq_true rfl) hfit dX11_wheel_43 hF (fun h8 hF => ?_)
      refine xg_iload_n (pc := 46) C dX11_wheel_46 3 rfl ?_
      by_cases hs0 : x2 = 1
      · have hF := hF.1 hs0
        refine xg_tabIn (pc := 47) 72 C dX11_wheel_47 (by rw [hs0]; decide) (by rw [hs0]; decide) (off := 25) (by rw [hs0]; rfl) (by decide) ?_
        refine xg_aload_n (pc := 72) C dX11_wheel_72 1 rfl ?_
        refine xg_getr (pc := 73) (C1 := RX11) (T1 := TX11) (ci := 11) (ref := "SandGlasses") C inm_X11_wheel_11 rfl (by decide) 6 (by decide) rfl dX11_wheel_73 (List.mem_of_getElem? (i := 2) rfl) rfl rfl hthis ?_
        obtain ⟨a9, ha9, hka9, hF⟩ := hF
        refine xg_geti (pc := 76) (C1 := RX4) (T1 := TX4) (ci := 4) (ref := "SandGlasses$Game") C inm_X11_wheel_4 rfl (by decide) 0 (by decide) rfl dX11_wheel_76 (List.mem_of_getElem? (i := 3) rfl) rfl ha9 hka9 ?_
        obtain ⟨hfit, hF⟩ := hF
        exact xg_endI (pc := 79) C E hfit dX11_wheel_79 hF
      have hF := hF.2
      by_cases hs1 : x2 = 2
      · have hF := hF.1 hs1
        refine xg_tabIn (pc := 47) 80 C dX11_wheel_47 (by rw [hs1]; decide) (by rw [hs1]; decide) (off := 33) (by rw [hs1]; rfl) (by decide) ?_
        refine xg_aload_n (pc := 80) C dX11_wheel_80 1 rfl ?_
        refine xg_getr (pc := 81) (C1 := RX11) (T1 := TX11) (ci := 11) (ref := "SandGlasses") C inm_X11_wheel_11 rfl (by decide) 6 (by decide) rfl dX11_wheel_81 (List.mem_of_getElem? (i := 2) rfl) rfl rfl hthis ?_
        obtain ⟨a10, ha10, hka10, hF⟩ := hF
        refine xg_geti (pc := 84) (C1 := RX4) (T1 := TX4) (ci := 4) (ref := "SandGlasses$Game") C inm_X11_wheel_4 rfl (by decide) 1 (by decide) rfl dX11_wheel_84 (List.mem_of_getElem? (i := 4) rfl) rfl ha10 hka10 ?_
        obtain ⟨hfit, hF⟩ := hF
        exact xg_endI (pc := 87) C E hfit dX11_wheel_87 hF
      have hF := hF.2
      by_cases hs2 : x2 = 3
      · have hF := hF.1 hs2
        refine xg_tabIn (pc := 47) 88 C dX11_wheel_47 (by rw [hs2]; decide) (by rw [hs2]; decide) (off := 41) (by rw [hs2]; rfl) (by decide) ?_
        refine xg_aload_n (pc := 88) C dX11_wheel_88 1 rfl ?_
        refine xg_getr (pc := 89) (C1 := RX11) (T1 := TX11) (ci := 11) (ref := "SandGlasses") C inm_X11_wheel_11 rfl (by decide) 6 (by decide) rfl dX11_wheel_89 (List.mem_of_getElem? (i := 2) rfl) rfl rfl hthis ?_
        obtain ⟨a11, ha11, hka11, hF⟩ := hF
        refine xg_geti (pc := 92) (C1 := RX4) (T1 := TX4) (ci := 4) (ref := "SandGlasses$Game") C inm_X11_wheel_4 rfl (by decide) 2 (by decide) rfl dX11_wheel_92 (List.mem_of_getElem? (i := 5) rfl) rfl ha11 hka11 ?_
        obtain ⟨hfit, hF⟩ := hF
        exact xg_endI (pc := 95) C E hfit dX11_wheel_95 hF
      have hF := hF.2
      have hF := hF hs0 hs1 hs2
      refine xg_tabOut (pc := 47) 96 C dX11_wheel_47 (mg_swd x2 1 3 (fun v h1 h2 => ?_)) (by decide) ?_
      · rcases (show v = 1 ∨ v = 2 ∨ v = 3 by omega) with rfl | rfl | rfl
        · exact hs0
        · exact hs1
        · exact hs2
      refine xg_bipush (pc := 96) (v := (-2)) C dX11_wheel_96 (by decide) ?_
      obtain ⟨hfit, hF⟩ := hF
      exact xg_endI (pc := 98) C E hfit dX11_wheel_98 hF
    · have hF := hF.2 hc
      refine xg_aload_n (pc := 21) C dX11_wheel_21 1 rfl ?_
      refine xg_iload_n (pc := 22) C dX11_wheel_22 2 rfl ?_
      refine xg_aload_n (pc := 23) C dX11_wheel_23 0 rfl ?_
      obtain ⟨mc13, ms13, hfit, hF⟩ := hF
      refine xg_dvR (pc := 24) (C1 := RX11) (T1 := TX11) (ci := 11) C [.int x1, va_rf r3] rfl hthis (by decide) rfl (met_X11_bookOf mc13 ms13 Y this x1 r3) gX11_wheel_X11_bookOf rfl nd_X11_bookOf ⟨Nat.le_of_ble_eq_true rfl, Nat.le_of_ble_eq_true rfl⟩ rfl rfl (Nat.le_of_ble_eq_true rfl) hfit dX11_wheel_24 hF (fun r13 Y14 h15 hF => ?_)
      obtain ⟨a16, ha16, hka16, hF⟩ := hF
      obtain ⟨hfit, hF⟩ := hF
      refine xg_cvI (pc := 27) (C1 := RX1) (T1 := TX1) (ci := 1) C (fun zs => []) ha16 hka16 (by decide) rfl (met_X1_allAtOnce Y14 a16) gX11_wheel_X1_allAtOnce rfl ⟨rfl, rfl⟩ nd_X1_allAtOnce ⟨Nat.le_of_ble_eq_true rfl, Nat.le_of_ble_eq_true rfl⟩ rfl rfl (Nat.le_of_ble_eq_true rfl) hfit dX11_wheel_27 hF (fun r18 h17 hF => ?_)
      obtain ⟨hfit, hF⟩ := hF
      exact xg_endI (pc := 30) C E hfit dX11_wheel_30 hF
  · have hF := hF.1 hc
    refine xg_bipush (pc := 14) (v := (-2)) C dX11_wheel_14 (by decide) ?_
    obtain ⟨hfit, hF⟩ := hF
    exact xg_endI (pc := 16) C E hfit dX11_wheel_16 hF
