def rm_X5_init (MC MS : Nat) : Room := { frames := 1, cells := MC, slots := MS, locals := 24 }
theorem nd_X5_init : yX5_init.cls = RX5 ∧ yX5_init.cls ≠ "java/lang/invoke/MethodHandle" ∧ yX5_init.cls ≠ "java/lang/invoke/VarHandle" ∧ (parseMethodDescriptor yX5_init.desc).map (fun d => d.parameters.length) = some 0 := by decide +kernel
set_option maxHeartbeats 4000000 in
set_option maxRecDepth 100000 in
theorem met_X5_init (MC MS : Nat) (Y : xg_Y) (this : Nat) : xg_NV yX5_init wsX5_init (rm_X5_init MC MS) Y [va_rf (some this)] (fun Q h => wp_X5_init MC MS Y Q this h) := by
  refine xg_beginV (cc := cX5_init) (maxL := 1) (own := RX5) (by decide) rfl rfl (Nat.le_of_ble_eq_true rfl) (fun X Q h C hnL E hI hw => ?_)
  unfold wp_X5_init at hw
  obtain ⟨hthis, hw⟩ := hw
  refine xg_sub (lv2 := [(0, va_rf (some this))]) [0] rfl ?_
  have hF := hw
  refine xg_aload_n (pc := 0) C dX5_init_0 0 rfl ?_
  refine xg_objinit (pc := 1) C rfl (List.mem_of_getElem? (i := 1) rfl) (List.mem_of_getElem? (i := 2) rfl) (List.mem_of_getElem? (i := 3) rfl) (Nat.le_of_ble_eq_true rfl) (Nat.le_of_ble_eq_true rfl) dX5_init_1 ?_
  obtain ⟨hfit, hF⟩ := hF
  exact xg_endV (pc := 4) C E hfit dX5_init_4 hF
def rm_X0_init (MC MS : Nat) : Room := { frames := 2, cells := MC, slots := MS, locals := 44 }
theorem nd_X0_init : yX0_init.cls = RX0 ∧ yX0_init.cls ≠ "java/lang/invoke/MethodHandle" ∧ yX0_init.cls ≠ "java/lang/invoke/VarHandle" ∧ (parseMethodDescriptor yX0_init.desc).map (fun d => d.parameters.length) = some 0 := by decide +kernel
theorem inm_X0_init_0 : ∀ w ∈ u_ws RX0 TX0 (xg_N 0), w ∈ wsX0_init := fun _ h9 => List.mem_cons_of_mem _ (List.mem_append_left _ (List.mem_append_right _ h9))
theorem inm_X0_init_5 : ∀ w ∈ u_ws RX5 TX5 (xg_N 5), w ∈ wsX0_init := fun _ h9 => List.mem_cons_of_mem _ (List.mem_append_right _ h9)
set_option maxHeartbeats 4000000 in
set_option maxRecDepth 100000 in
theorem met_X0_init (MC MS : Nat) (Y : xg_Y) (this : Nat) : xg_NV yX0_init wsX0_init (rm_X0_init MC MS) Y [va_rf (some this)] (fun Q h => wp_X0_init MC MS Y Q this h) := by
  refine xg_beginV (cc := cX0_init) (maxL := 2) (own := RX0) (by decide) rfl rfl (Nat.le_of_ble_eq_true rfl) (fun X Q h C hnL E hI hw => ?_)
  unfold wp_X0_init at hw
  obtain ⟨hthis, hw⟩ := hw
  refine xg_sub (lv2 := [(0, va_rf (some this))]) [0] rfl ?_
  refine mg_use (hw (fun (y1 : Int32) (kc nc : Nat) (Yc : xg_Y) (h : xg_H) => xg_W X kc nc Yc 14 [(0, va_rf (some this)), (1, .int y1)] [] h) ?_) (fun hF => ?_)
  · intro y1 kc nc Yc h hF
    refine xg_iload_n (pc := 14) C dX0_init_14 1 rfl ?_
    refine xg_iconst (pc := 15) (v := 4) C dX0_init_15 (by decide) ?_
    refine xg_icmp_ge (pc := 16) 38 C dX0_init_16 (by decide) (fun hc => ?_) (fun hc => ?_)
    · have hF := hF.1 hc
      obtain ⟨hfit, hF⟩ := hF
      exact xg_endV (pc := 38) C E hfit dX0_init_38 hF
    · have hF := hF.2 hc
      refine xg_aload_n (pc := 19) C dX0_init_19 0 rfl ?_
      obtain ⟨hk7, hF⟩ := hF
      refine xg_getr (pc := 20) (C1 := RX0) (T1 := TX0) (ci := 0) (ref := "SandGlasses$Bench") C inm_X0_init_0 rfl (by decide) 5 (by decide) rfl dX0_init_20 (List.mem_of_getElem? (i := 5) rfl) rfl rfl hk7 ?_
      refine xg_iload_n (pc := 23) C dX0_init_23 1 rfl ?_
      obtain ⟨hc1, hn1, hF⟩ := hF
      refine xg_new (pc := 24) (C1 := RX5) (T1 := TX5) (ci := 5) C inm_X0_init_5 rfl (by decide) (List.mem_of_getElem? (i := 4) rfl) (List.mem_of_getElem? (i := 6) rfl) (List.mem_of_getElem? (i := 7) rfl) tyX5 tyX5_ok (by decide) hc1 hn1 dX0_init_24 (fun q8 Y9 h10 hqq8 eY9 eh10 => ?_)
      have hF := hF q8 hqq8 Y9 eY9 h10 eh10
      refine xg_dup (pc := 27) C dX0_init_27 (xg_rf_cat _) ?_
      obtain ⟨mc11, ms11, hfit, hF⟩ := hF
      refine xg_djV (pc := 28) (host := "SandGlasses") C [] rfl (by decide +kernel) (List.mem_of_getElem? (i := 7) rfl) (List.mem_of_getElem? (i := 8) rfl) rfl (met_X5_init mc11 ms11 Y9 q8) gX0_init_X5_init_n17 rfl nd_X5_init.2 ⟨Nat.le_of_ble_eq_true rfl, Nat.le_of_ble_eq_true rfl⟩ rfl rfl (by simp [xg_rf_cat, xg_cat_i, xg_cat_l, xg_cat_a]) hfit dX0_init_28 hF (fun Y12 h13 hF => ?_)
      obtain ⟨a14, ha14, hka14, hF⟩ := hF
      obtain ⟨hk15, hF⟩ := hF
      obtain ⟨hi, hF⟩ := hF
      refine xg_aast (pc := 31) (c9 := 26) (ci := 5) (q9 := (RX5, TX5, xg_N 5)) C ha14 hka14 (by decide) rfl rfl hk15 (by decide) rfl hi dX0_init_31 (fun h16 eh16 => ?_)
      have hF := hF h16 eh16
      obtain ⟨z17, ez17⟩ : ∃ y : Int32, y = y1 + 1 := ⟨_, rfl⟩
      have hF := hF z17 ez17
      refine xg_iinc (pc := 32) (v := z17) (lv2 := [(1, .int z17), (0, va_rf (some this))]) C dX0_init_32 1 rfl (by rw [ez17]; rfl) 2 hnL (by decide) rfl ?_
      refine xg_goto (pc := 35) 14 C dX0_init_35 (by decide) ?_
      refine xg_sub (lv2 := [(0, va_rf (some this)), (1, .int z17)]) [1, 0] rfl ?_
      exact hF
  · skip
    refine xg_aload_n (pc := 0) C dX0_init_0 0 rfl ?_
    refine xg_objinit (pc := 1) C rfl (List.mem_of_getElem? (i := 1) rfl) (List.mem_of_getElem? (i := 2) rfl) (List.mem_of_getElem? (i := 3) rfl) (Nat.le_of_ble_eq_true rfl) (Nat.le_of_ble_eq_true rfl) dX0_init_1 ?_
    refine xg_aload_n (pc := 4) C dX0_init_4 0 rfl ?_
    refine xg_iconst (pc := 5) (v := 4) C dX0_init_5 (by decide) ?_
    obtain ⟨hng, hby, hc1, hn1, hF⟩ := hF
    refine xg_newq (pc := 6) (C1 := RX5) (c9 := 26) C (List.mem_of_getElem? (i := 4) rfl) (by decide +kernel) (by decide) rfl hng hby hc1 hn1 dX0_init_6 (fun q1 ca2 Y3 h4 hqq1 eY3 eh4 => ?_)
    have hF := hF q1 ca2 hqq1 Y3 eY3 h4 eh4
    obtain ⟨hk5, hF⟩ := hF
    refine xg_putrF (pc := 9) (C1 := RX0) (T1 := TX0) (ci := 0) (ref := "SandGlasses$Bench") C inm_X0_init_0 rfl (by decide) tyX0 tyX0_ok nmX0 5 (by decide) rfl (ty1 := .array (.object "SandGlasses$Glass")) (xg_rta _) dX0_init_9 (List.mem_of_getElem? (i := 5) rfl) rfl rfl (hI rfl) rfl (tyX0_ok 5 (by decide)) rfl hk5 (fun h6 eh6 => ?_)
    have hF := hF h6 eh6
    refine xg_iconst (pc := 12) (v := 0) C dX0_init_12 (by decide) ?_
    refine xg_istore_n (pc := 13) (lv2 := [(1, .int 0), (0, va_rf (some this))]) C dX0_init_13 2 hnL (by decide) rfl ?_
    refine xg_sub (lv2 := [(0, va_rf (some this)), (1, .int 0)]) [1, 0] rfl ?_
    exact hF
def rm_X10_init (MC MS : Nat) : Room := { frames := 1, cells := MC, slots := MS, locals := 24 }
theorem nd_X10_init : yX10_init.cls = RX10 ∧ yX10_init.cls ≠ "java/lang/invoke/MethodHandle" ∧ yX10_init.cls ≠ "java/lang/invoke/VarHandle" ∧ (parseMethodDescriptor yX10_init.desc).map (fun d => d.parameters.length) = some 2 := by decide +kernel
theorem inm_X10_init_10 : ∀ w ∈ u_ws RX10 TX10 (xg_N 10), w ∈ wsX10_init := fun _ h9 => List.mem_cons_of_mem _ (List.mem_append_right _ h9)
set_option maxHeartbeats 4000000 in
set_option maxRecDepth 100000 in
theorem met_X10_init (MC MS : Nat) (Y : xg_Y) (this : Nat) (x1 : Option Nat) (x2 : Int32) : xg_NV yX10_init wsX10_init (rm_X10_init MC MS) Y [va_rf (some this), va_rf x1, .int x2] (fun Q h => wp_X10_init MC MS Y Q this x1 x2 h) := by
  refine xg_beginV (cc := cX10_init) (maxL := 3) (own := RX10) (by decide) rfl rfl (by cases x1 <;> exact Nat.le_of_ble_eq_true rfl) (fun X Q h C hnL E hI hw => ?_)
  unfold wp_X10_init at hw
  obtain ⟨hthis, hw⟩ := hw
  refine xg_sub (lv2 := [(0, va_rf (some this)), (1, va_rf x1), (2, .int x2)]) [0, 1, 2] (by cases x1 <;> rfl) ?_
  have hF := hw
  refine xg_aload_n (pc := 0) C dX10_init_0 0 rfl ?_
  refine xg_objinit (pc := 1) C rfl (List.mem_of_getElem? (i := 1) rfl) (List.mem_of_getElem? (i := 2) rfl) (List.mem_of_getElem? (i := 3) rfl) (Nat.le_of_ble_eq_true rfl) (Nat.le_of_ble_eq_true rfl) dX10_init_1 ?_
  refine xg_aload_n (pc := 4) C dX10_init_4 0 rfl ?_
  refine xg_bipush (pc := 5) (v := 31) C dX10_init_5 (by decide) ?_
  obtain ⟨hng, hby, hc1, hn1, hF⟩ := hF
  refine xg_newi (pc := 7) C (List.mem_of_getElem? (i := 4) rfl) hng hby hc1 hn1 dX10_init_7 (fun q1 ca2 Y3 h4 hqq1 eY3 eh4 => ?_)
  have hF := hF q1 ca2 hqq1 Y3 eY3 h4 eh4
  obtain ⟨hk5, hF⟩ := hF
  refine xg_putrF (pc := 9) (C1 := RX10) (T1 := TX10) (ci := 10) (ref := "SandGlasses$Walk") C inm_X10_init_10 rfl (by decide) tyX10 tyX10_ok nmX10 2 (by decide) rfl (ty1 := .array .int) (xg_rta _) dX10_init_9 (List.mem_of_getElem? (i := 5) rfl) rfl rfl (hI rfl) rfl (tyX10_ok 2 (by decide)) rfl hk5 (fun h6 eh6 => ?_)
  have hF := hF h6 eh6
  refine xg_aload_n (pc := 12) C dX10_init_12 0 rfl ?_
  refine xg_aload_n (pc := 13) C dX10_init_13 1 rfl ?_
  refine xg_putrF (pc := 14) (C1 := RX10) (T1 := TX10) (ci := 10) (ref := "SandGlasses$Walk") C inm_X10_init_10 rfl (by decide) tyX10 tyX10_ok nmX10 6 (by decide) rfl (ty1 := .object "SandGlasses$Steps") (xg_rt _) dX10_init_14 (List.mem_of_getElem? (i := 6) rfl) rfl rfl (hI rfl) rfl (tyX10_ok 6 (by decide)) rfl hk5 (fun h7 eh7 => ?_)
  have hF := hF h7 eh7
  refine xg_aload_n (pc := 17) C dX10_init_17 0 rfl ?_
  refine xg_getsN (pc := 18) (ref := "SandGlasses") (host := "SandGlasses") C 1 (by decide) dX10_init_18 (by decide +kernel) rfl ?_
  refine xg_iconst (pc := 21) (v := 0) C dX10_init_21 (by decide) ?_
  refine xg_iconst (pc := 22) (v := 4) C dX10_init_22 (by decide) ?_
  refine xg_iload_n (pc := 23) C dX10_init_23 2 rfl ?_
  obtain ⟨hfit, hF⟩ := hF
  refine xg_mmin (pc := 24) C (List.mem_of_getElem? (i := 7) rfl) (List.mem_of_getElem? (i := 8) rfl) (List.mem_of_getElem? (i := 9) rfl) (List.mem_of_getElem? (i := 10) rfl) (Nat.le_of_ble_eq_true rfl) (Nat.le_of_ble_eq_true rfl) hfit.1 hfit.2 dX10_init_24 ?_
  refine xg_topi (pc := 27) (fun z8 ez8 => ?_)
  have hF := hF z8 ez8
  obtain ⟨hfit, hF⟩ := hF
  refine xg_mmax (pc := 27) C (List.mem_of_getElem? (i := 11) rfl) (List.mem_of_getElem? (i := 12) rfl) (List.mem_of_getElem? (i := 9) rfl) (List.mem_of_getElem? (i := 13) rfl) (Nat.le_of_ble_eq_true rfl) (Nat.le_of_ble_eq_true rfl) hfit.1 hfit.2 dX10_init_27 ?_
  refine xg_topi (pc := 30) (fun z9 ez9 => ?_)
  have hF := hF z9 ez9
  obtain ⟨hi, hF⟩ := hF
  refine xg_sld (pc := 30) C 1 (by decide) hi dX10_init_30 ?_
  obtain ⟨hng, hby, hc1, hn1, hF⟩ := hF
  refine xg_newi (pc := 31) C (List.mem_of_getElem? (i := 4) rfl) hng hby hc1 hn1 dX10_init_31 (fun q10 ca11 Y12 h13 hqq10 eY12 eh13 => ?_)
  have hF := hF q10 ca11 hqq10 Y12 eY12 h13 eh13
  obtain ⟨hk14, hF⟩ := hF
  refine xg_putrF (pc := 33) (C1 := RX10) (T1 := TX10) (ci := 10) (ref := "SandGlasses$Walk") C inm_X10_init_10 rfl (by decide) tyX10 tyX10_ok nmX10 0 (by decide) rfl (ty1 := .array .int) (xg_rta _) dX10_init_33 (List.mem_of_getElem? (i := 14) rfl) rfl rfl (hI rfl) rfl (tyX10_ok 0 (by decide)) rfl hk14 (fun h15 eh15 => ?_)
  have hF := hF h15 eh15
  refine xg_aload_n (pc := 36) C dX10_init_36 0 rfl ?_
  refine xg_aload_n (pc := 37) C dX10_init_37 0 rfl ?_
  refine xg_getr (pc := 38) (C1 := RX10) (T1 := TX10) (ci := 10) (ref := "SandGlasses$Walk") C inm_X10_init_10 rfl (by decide) 0 (by decide) rfl dX10_init_38 (List.mem_of_getElem? (i := 14) rfl) rfl rfl hk14 ?_
  obtain ⟨a16, ha16, hka16, hF⟩ := hF
  refine xg_alen (pc := 41) (c9 := 22) C ha16 hka16 (by decide) dX10_init_41 ?_
  obtain ⟨hng, hby, hc1, hn1, hF⟩ := hF
  refine xg_newi (pc := 42) C (List.mem_of_getElem? (i := 4) rfl) hng hby hc1 hn1 dX10_init_42 (fun q17 ca18 Y19 h20 hqq17 eY19 eh20 => ?_)
  have hF := hF q17 ca18 hqq17 Y19 eY19 h20 eh20
  obtain ⟨hk21, hF⟩ := hF
  refine xg_putrF (pc := 44) (C1 := RX10) (T1 := TX10) (ci := 10) (ref := "SandGlasses$Walk") C inm_X10_init_10 rfl (by decide) tyX10 tyX10_ok nmX10 1 (by decide) rfl (ty1 := .array .int) (xg_rta _) dX10_init_44 (List.mem_of_getElem? (i := 15) rfl) rfl rfl (hI rfl) rfl (tyX10_ok 1 (by decide)) rfl hk21 (fun h22 eh22 => ?_)
  have hF := hF h22 eh22
  refine xg_aload_n (pc := 47) C dX10_init_47 0 rfl ?_
  refine xg_aload_n (pc := 48) C dX10_init_48 0 rfl ?_
  refine xg_getr (pc := 49) (C1 := RX10) (T1 := TX10) (ci := 10) (ref := "SandGlasses$Walk") C inm_X10_init_10 rfl (by decide) 0 (by decide) rfl dX10_init_49 (List.mem_of_getElem? (i := 14) rfl) rfl rfl hk21 ?_
  obtain ⟨a23, ha23, hka23, hF⟩ := hF
  refine xg_alen (pc := 52) (c9 := 22) C ha23 hka23 (by decide) dX10_init_52 ?_
  refine xg_bipush (pc := 53) (v := 16) C dX10_init_53 (by decide) ?_
  refine xg_imul (pc := 55) C dX10_init_55 ?_
  obtain ⟨hng, hby, hc1, hn1, hF⟩ := hF
  refine xg_newi (pc := 56) C (List.mem_of_getElem? (i := 4) rfl) hng hby hc1 hn1 dX10_init_56 (fun q24 ca25 Y26 h27 hqq24 eY26 eh27 => ?_)
  have hF := hF q24 ca25 hqq24 Y26 eY26 h27 eh27
  obtain ⟨hk28, hF⟩ := hF
  refine xg_putrF (pc := 58) (C1 := RX10) (T1 := TX10) (ci := 10) (ref := "SandGlasses$Walk") C inm_X10_init_10 rfl (by decide) tyX10 tyX10_ok nmX10 3 (by decide) rfl (ty1 := .array .int) (xg_rta _) dX10_init_58 (List.mem_of_getElem? (i := 16) rfl) rfl rfl (hI rfl) rfl (tyX10_ok 3 (by decide)) rfl hk28 (fun h29 eh29 => ?_)
  have hF := hF h29 eh29
  refine xg_aload_n (pc := 61) C dX10_init_61 0 rfl ?_
  refine xg_aload_n (pc := 62) C dX10_init_62 0 rfl ?_
  refine xg_getr (pc := 63) (C1 := RX10) (T1 := TX10) (ci := 10) (ref := "SandGlasses$Walk") C inm_X10_init_10 rfl (by decide) 0 (by decide) rfl dX10_init_63 (List.mem_of_getElem? (i := 14) rfl) rfl rfl hk28 ?_
  obtain ⟨a30, ha30, hka30, hF⟩ := hF
  refine xg_alen (pc := 66) (c9 := 22) C ha30 hka30 (by decide) dX10_init_66 ?_
  obtain ⟨hng, hby, hc1, hn1, hF⟩ := hF
  refine xg_newi (pc := 67) C (List.mem_of_getElem? (i := 4) rfl) hng hby hc1 hn1 dX10_init_67 (fun q31 ca32 Y33 h34 hqq31 eY33 eh34 => ?_)
  have hF := hF q31 ca32 hqq31 Y33 eY33 h34 eh34
  obtain ⟨hk35, hF⟩ := hF
  refine xg_putrF (pc := 69) (C1 := RX10) (T1 := TX10) (ci := 10) (ref := "SandGlasses$Walk") C inm_X10_init_10 rfl (by decide) tyX10 tyX10_ok nmX10 7 (by decide) rfl (ty1 := .array .int) (xg_rta _) dX10_init_69 (List.mem_of_getElem? (i := 17) rfl) rfl rfl (hI rfl) rfl (tyX10_ok 7 (by decide)) rfl hk35 (fun h36 eh36 => ?_)
  have hF := hF h36 eh36
  refine xg_aload_n (pc := 72) C dX10_init_72 0 rfl ?_
  refine xg_aload_n (pc := 73) C dX10_init_73 0 rfl ?_
  refine xg_getr (pc := 74) (C1 := RX10) (T1 := TX10) (ci := 10) (ref := "SandGlasses$Walk") C inm_X10_init_10 rfl (by decide) 0 (by decide) rfl dX10_init_74 (List.mem_of_getElem? (i := 14) rfl) rfl rfl hk35 ?_
  obtain ⟨a37, ha37, hka37, hF⟩ := hF
  refine xg_alen (pc := 77) (c9 := 22) C ha37 hka37 (by decide) dX10_init_77 ?_
  obtain ⟨hng, hby, hc1, hn1, hF⟩ := hF
  refine xg_newi (pc := 78) C (List.mem_of_getElem? (i := 4) rfl) hng hby hc1 hn1 dX10_init_78 (fun q38 ca39 Y40 h41 hqq38 eY40 eh41 => ?_)
  have hF := hF q38 ca39 hqq38 Y40 eY40 h41 eh41
  obtain ⟨hk42, hF⟩ := hF
  refine xg_putrF (pc := 80) (C1 := RX10) (T1 := TX10) (ci := 10) (ref := "SandGlasses$Walk") C inm_X10_init_10 rfl (by decide) tyX10 tyX10_ok nmX10 8 (by decide) rfl (ty1 := .array .int) (xg_rta _) dX10_init_80 (List.mem_of_getElem? (i := 18) rfl) rfl rfl (hI rfl) rfl (tyX10_ok 8 (by decide)) rfl hk42 (fun h43 eh43 => ?_)
  have hF := hF h43 eh43
  obtain ⟨hfit, hF⟩ := hF
  exact xg_endV (pc := 83) C E hfit dX10_init_83 hF
def rm_X3_init (MC MS : Nat) : Room := { frames := 1, cells := MC, slots := MS, locals := 24 }
theorem nd_X3_init : yX3_init.cls = RX3 ∧ yX3_init.cls ≠ "java/lang/invoke/MethodHandle" ∧ yX3_init.cls ≠ "java/lang/invoke/VarHandle" ∧ (parseMethodDescriptor yX3_init.desc).map (fun d => d.parameters.length) = some 1 := by decide +kernel
theorem inm_X3_init_3 : ∀ w ∈ u_ws RX3 TX3 (xg_N 3), w ∈ wsX3_init := fun _ h9 => List.mem_cons_of_mem _ (List.mem_append_left _ (List.mem_append_right _ h9))
theorem inm_X3_init_10 : ∀ w ∈ u_ws RX10 TX10 (xg_N 10), w ∈ wsX3_init := fun _ h9 => List.mem_cons_of_mem _ (List.mem_append_right _ h9)
set_option maxHeartbeats 4000000 in
set_option maxRecDepth 100000 in
theorem met_X3_init (MC MS : Nat) (Y : xg_Y) (this : Nat) (x1 : Option Nat) : xg_NV yX3_init wsX3_init (rm_X3_init MC MS) Y [va_rf (some this), va_rf x1] (fun Q h => wp_X3_init MC MS Y Q this x1 h) := by
  refine xg_beginV (cc := cX3_init) (maxL := 2) (own := RX3) (by decide) rfl rfl (by cases x1 <;> exact Nat.le_of_ble_eq_true rfl) (fun X Q h C hnL E hI hw => ?_)
  unfold wp_X3_init at hw
  obtain ⟨hthis, hw⟩ := hw
  refine xg_sub (lv2 := [(0, va_rf (some this)), (1, va_rf x1)]) [0, 1] (by cases x1 <;> rfl) ?_
  have hF := hw
  refine xg_aload_n (pc := 0) C dX3_init_0 0 rfl ?_
  refine xg_objinit (pc := 1) C rfl (List.mem_of_getElem? (i := 1) rfl) (List.mem_of_getElem? (i := 2) rfl) (List.mem_of_getElem? (i := 3) rfl) (Nat.le_of_ble_eq_true rfl) (Nat.le_of_ble_eq_true rfl) dX3_init_1 ?_
  refine xg_aload_n (pc := 4) C dX3_init_4 0 rfl ?_
  refine xg_bipush (pc := 5) (v := 16) C dX3_init_5 (by decide) ?_
  obtain ⟨hng, hby, hc1, hn1, hF⟩ := hF
  refine xg_newi (pc := 7) C (List.mem_of_getElem? (i := 4) rfl) hng hby hc1 hn1 dX3_init_7 (fun q1 ca2 Y3 h4 hqq1 eY3 eh4 => ?_)
  have hF := hF q1 ca2 hqq1 Y3 eY3 h4 eh4
  obtain ⟨hk5, hF⟩ := hF
  refine xg_putrF (pc := 9) (C1 := RX3) (T1 := TX3) (ci := 3) (ref := "SandGlasses$Costs") C inm_X3_init_3 rfl (by decide) tyX3 tyX3_ok nmX3 0 (by decide) rfl (ty1 := .array .int) (xg_rta _) dX3_init_9 (List.mem_of_getElem? (i := 5) rfl) rfl rfl (hI rfl) rfl (tyX3_ok 0 (by decide)) rfl hk5 (fun h6 eh6 => ?_)
  have hF := hF h6 eh6
  refine xg_aload_n (pc := 12) C dX3_init_12 0 rfl ?_
  refine xg_aload_n (pc := 13) C dX3_init_13 1 rfl ?_
  refine xg_putrF (pc := 14) (C1 := RX3) (T1 := TX3) (ci := 3) (ref := "SandGlasses$Costs") C inm_X3_init_3 rfl (by decide) tyX3 tyX3_ok nmX3 2 (by decide) rfl (ty1 := .object "SandGlasses$Walk") (xg_rt _) dX3_init_14 (List.mem_of_getElem? (i := 6) rfl) rfl rfl (hI rfl) rfl (tyX3_ok 2 (by decide)) rfl hk5 (fun h7 eh7 => ?_)
  have hF := hF h7 eh7
  refine xg_aload_n (pc := 17) C dX3_init_17 0 rfl ?_
  refine xg_aload_n (pc := 18) C dX3_init_18 1 rfl ?_
  obtain ⟨a8, ha8, hka8, hF⟩ := hF
  refine xg_getr (pc := 19) (C1 := RX10) (T1 := TX10) (ci := 10) (ref := "SandGlasses$Walk") C inm_X3_init_10 rfl (by decide) 0 (by decide) rfl dX3_init_19 (List.mem_of_getElem? (i := 7) rfl) rfl ha8 hka8 ?_
  obtain ⟨a9, ha9, hka9, hF⟩ := hF
  refine xg_alen (pc := 22) (c9 := 22) C ha9 hka9 (by decide) dX3_init_22 ?_
  refine xg_putiF (pc := 23) (C1 := RX3) (T1 := TX3) (ci := 3) (ref := "SandGlasses$Costs") C inm_X3_init_3 rfl (by decide) tyX3 tyX3_ok nmX3 3 (by decide) rfl dX3_init_23 (List.mem_of_getElem? (i := 8) rfl) rfl rfl (hI rfl) rfl (tyX3_ok 3 (by decide)) rfl hk5 (fun h10 eh10 => ?_)
  have hF := hF h10 eh10
  refine xg_aload_n (pc := 26) C dX3_init_26 0 rfl ?_
  refine xg_aload_n (pc := 27) C dX3_init_27 0 rfl ?_
  refine xg_geti (pc := 28) (C1 := RX3) (T1 := TX3) (ci := 3) (ref := "SandGlasses$Costs") C inm_X3_init_3 rfl (by decide) 3 (by decide) rfl dX3_init_28 (List.mem_of_getElem? (i := 8) rfl) rfl rfl hk5 ?_
  obtain ⟨hng, hby, hc1, hn1, hF⟩ := hF
  refine xg_newi (pc := 31) C (List.mem_of_getElem? (i := 4) rfl) hng hby hc1 hn1 dX3_init_31 (fun q11 ca12 Y13 h14 hqq11 eY13 eh14 => ?_)
  have hF := hF q11 ca12 hqq11 Y13 eY13 h14 eh14
  obtain ⟨hk15, hF⟩ := hF
  refine xg_putrF (pc := 33) (C1 := RX3) (T1 := TX3) (ci := 3) (ref := "SandGlasses$Costs") C inm_X3_init_3 rfl (by decide) tyX3 tyX3_ok nmX3 1 (by decide) rfl (ty1 := .array .int) (xg_rta _) dX3_init_33 (List.mem_of_getElem? (i := 9) rfl) rfl rfl (hI rfl) rfl (tyX3_ok 1 (by decide)) rfl hk15 (fun h16 eh16 => ?_)
  have hF := hF h16 eh16
  refine xg_aload_n (pc := 36) C dX3_init_36 0 rfl ?_
  refine xg_bipush (pc := 37) (v := 31) C dX3_init_37 (by decide) ?_
  refine xg_aload_n (pc := 39) C dX3_init_39 0 rfl ?_
  refine xg_geti (pc := 40) (C1 := RX3) (T1 := TX3) (ci := 3) (ref := "SandGlasses$Costs") C inm_X3_init_3 rfl (by decide) 3 (by decide) rfl dX3_init_40 (List.mem_of_getElem? (i := 8) rfl) rfl rfl hk15 ?_
  refine xg_imul (pc := 43) C dX3_init_43 ?_
  obtain ⟨hng, hby, hc1, hn1, hF⟩ := hF
  refine xg_newi (pc := 44) C (List.mem_of_getElem? (i := 4) rfl) hng hby hc1 hn1 dX3_init_44 (fun q17 ca18 Y19 h20 hqq17 eY19 eh20 => ?_)
  have hF := hF q17 ca18 hqq17 Y19 eY19 h20 eh20
  obtain ⟨hk21, hF⟩ := hF
  refine xg_putrF (pc := 46) (C1 := RX3) (T1 := TX3) (ci := 3) (ref := "SandGlasses$Costs") C inm_X3_init_3 rfl (by decide) tyX3 tyX3_ok nmX3 4 (by decide) rfl (ty1 := .array .int) (xg_rta _) dX3_init_46 (List.mem_of_getElem? (i := 10) rfl) rfl rfl (hI rfl) rfl (tyX3_ok 4 (by decide)) rfl hk21 (fun h22 eh22 => ?_)
  have hF := hF h22 eh22
  obtain ⟨hfit, hF⟩ := hF
  exact xg_endV (pc := 49) C E hfit dX3_init_49 hF
def rm_X1_init (MC MS : Nat) : Room := { frames := 2, cells := MC, slots := MS, locals := 46 }
theorem nd_X1_init : yX1_init.cls = RX1 ∧ yX1_init.cls ≠ "java/lang/invoke/MethodHandle" ∧ yX1_init.cls ≠ "java/lang/invoke/VarHandle" ∧ (parseMethodDescriptor yX1_init.desc).map (fun d => d.parameters.length) = some 2 := by decide +kernel
theorem inm_X1_init_1 : ∀ w ∈ u_ws RX1 TX1 (xg_N 1), w ∈ wsX1_init := fun _ h9 => List.mem_cons_of_mem _ (List.mem_append_left _ (List.mem_append_left _ (List.mem_append_right _ h9)))
theorem inm_X1_init_3 : ∀ w ∈ u_ws RX3 TX3 (xg_N 3), w ∈ wsX1_init := fun _ h9 => List.mem_cons_of_mem _ (List.mem_append_right _ h9)
theorem inm_X1_init_10 : ∀ w ∈ u_ws RX10 TX10 (xg_N 10), w ∈ wsX1_init := fun _ h9 => List.mem_cons_of_mem _ (List.mem_append_left _ (List.mem_append_right _ h9))
set_option maxHeartbeats 4000000 in
set_option maxRecDepth 100000 in
theorem met_X1_init (MC MS : Nat) (Y : xg_Y) (this : Nat) (x1 : Option Nat) (x2 : Int32) : xg_NV yX1_init wsX1_init (rm_X1_init MC MS) Y [va_rf (some this), va_rf x1, .int x2] (fun Q h => wp_X1_init MC MS Y Q this x1 x2 h) := by
  refine xg_beginV (cc := cX1_init) (maxL := 3) (own := RX1) (by decide) rfl rfl (by cases x1 <;> exact Nat.le_of_ble_eq_true rfl) (fun X Q h C hnL E hI hw => ?_)
  unfold wp_X1_init at hw
  obtain ⟨hthis, hw⟩ := hw
  refine xg_sub (lv2 := [(0, va_rf (some this)), (1, va_rf x1), (2, .int x2)]) [0, 1, 2] (by cases x1 <;> rfl) ?_
  have hF := hw
  refine xg_aload_n (pc := 0) C dX1_init_0 0 rfl ?_
  refine xg_objinit (pc := 1) C rfl (List.mem_of_getElem? (i := 1) rfl) (List.mem_of_getElem? (i := 2) rfl) (List.mem_of_getElem? (i := 3) rfl) (Nat.le_of_ble_eq_true rfl) (Nat.le_of_ble_eq_true rfl) dX1_init_1 ?_
  refine xg_aload_n (pc := 4) C dX1_init_4 0 rfl ?_
  refine xg_bipush (pc := 5) (v := 31) C dX1_init_5 (by decide) ?_
  obtain ⟨hng, hby, hc1, hn1, hF⟩ := hF
  refine xg_newi (pc := 7) C (List.mem_of_getElem? (i := 4) rfl) hng hby hc1 hn1 dX1_init_7 (fun q1 ca2 Y3 h4 hqq1 eY3 eh4 => ?_)
  have hF := hF q1 ca2 hqq1 Y3 eY3 h4 eh4
  obtain ⟨hk5, hF⟩ := hF
  refine xg_putrF (pc := 9) (C1 := RX1) (T1 := TX1) (ci := 1) (ref := "SandGlasses$Book") C inm_X1_init_1 rfl (by decide) tyX1 tyX1_ok nmX1 3 (by decide) rfl (ty1 := .array .int) (xg_rta _) dX1_init_9 (List.mem_of_getElem? (i := 5) rfl) rfl rfl (hI rfl) rfl (tyX1_ok 3 (by decide)) rfl hk5 (fun h6 eh6 => ?_)
  have hF := hF h6 eh6
  refine xg_aload_n (pc := 12) C dX1_init_12 0 rfl ?_
  refine xg_bipush (pc := 13) (v := 31) C dX1_init_13 (by decide) ?_
  obtain ⟨hng, hby, hc1, hn1, hF⟩ := hF
  refine xg_newi (pc := 15) C (List.mem_of_getElem? (i := 4) rfl) hng hby hc1 hn1 dX1_init_15 (fun q7 ca8 Y9 h10 hqq7 eY9 eh10 => ?_)
  have hF := hF q7 ca8 hqq7 Y9 eY9 h10 eh10
  obtain ⟨hk11, hF⟩ := hF
  refine xg_putrF (pc := 17) (C1 := RX1) (T1 := TX1) (ci := 1) (ref := "SandGlasses$Book") C inm_X1_init_1 rfl (by decide) tyX1 tyX1_ok nmX1 4 (by decide) rfl (ty1 := .array .int) (xg_rta _) dX1_init_17 (List.mem_of_getElem? (i := 6) rfl) rfl rfl (hI rfl) rfl (tyX1_ok 4 (by decide)) rfl hk11 (fun h12 eh12 => ?_)
  have hF := hF h12 eh12
  refine xg_aload_n (pc := 20) C dX1_init_20 0 rfl ?_
  refine xg_bipush (pc := 21) (v := 31) C dX1_init_21 (by decide) ?_
  obtain ⟨hng, hby, hc1, hn1, hF⟩ := hF
  refine xg_newi (pc := 23) C (List.mem_of_getElem? (i := 4) rfl) hng hby hc1 hn1 dX1_init_23 (fun q13 ca14 Y15 h16 hqq13 eY15 eh16 => ?_)
  have hF := hF q13 ca14 hqq13 Y15 eY15 h16 eh16
  obtain ⟨hk17, hF⟩ := hF
  refine xg_putrF (pc := 25) (C1 := RX1) (T1 := TX1) (ci := 1) (ref := "SandGlasses$Book") C inm_X1_init_1 rfl (by decide) tyX1 tyX1_ok nmX1 5 (by decide) rfl (ty1 := .array .int) (xg_rta _) dX1_init_25 (List.mem_of_getElem? (i := 7) rfl) rfl rfl (hI rfl) rfl (tyX1_ok 5 (by decide)) rfl hk17 (fun h18 eh18 => ?_)
  have hF := hF h18 eh18
  refine xg_aload_n (pc := 28) C dX1_init_28 0 rfl ?_
  refine xg_bipush (pc := 29) (v := 16) C dX1_init_29 (by decide) ?_
  obtain ⟨hng, hby, hc1, hn1, hF⟩ := hF
  refine xg_newi (pc := 31) C (List.mem_of_getElem? (i := 4) rfl) hng hby hc1 hn1 dX1_init_31 (fun q19 ca20 Y21 h22 hqq19 eY21 eh22 => ?_)
  have hF := hF q19 ca20 hqq19 Y21 eY21 h22 eh22
  obtain ⟨hk23, hF⟩ := hF
  refine xg_putrF (pc := 33) (C1 := RX1) (T1 := TX1) (ci := 1) (ref := "SandGlasses$Book") C inm_X1_init_1 rfl (by decide) tyX1 tyX1_ok nmX1 6 (by decide) rfl (ty1 := .array .int) (xg_rta _) dX1_init_33 (List.mem_of_getElem? (i := 8) rfl) rfl rfl (hI rfl) rfl (tyX1_ok 6 (by decide)) rfl hk23 (fun h24 eh24 => ?_)
  have hF := hF h24 eh24
  refine xg_aload_n (pc := 36) C dX1_init_36 0 rfl ?_
  refine xg_bipush (pc := 37) (v := 30) C dX1_init_37 (by decide) ?_
  obtain ⟨hng, hby, hc1, hn1, hF⟩ := hF
  refine xg_newi (pc := 39) C (List.mem_of_getElem? (i := 4) rfl) hng hby hc1 hn1 dX1_init_39 (fun q25 ca26 Y27 h28 hqq25 eY27 eh28 => ?_)
  have hF := hF q25 ca26 hqq25 Y27 eY27 h28 eh28
  obtain ⟨hk29, hF⟩ := hF
  refine xg_putrF (pc := 41) (C1 := RX1) (T1 := TX1) (ci := 1) (ref := "SandGlasses$Book") C inm_X1_init_1 rfl (by decide) tyX1 tyX1_ok nmX1 8 (by decide) rfl (ty1 := .array .int) (xg_rta _) dX1_init_41 (List.mem_of_getElem? (i := 9) rfl) rfl rfl (hI rfl) rfl (tyX1_ok 8 (by decide)) rfl hk29 (fun h30 eh30 => ?_)
  have hF := hF h30 eh30
  refine xg_aload_n (pc := 44) C dX1_init_44 0 rfl ?_
  refine xg_bipush (pc := 45) (v := 30) C dX1_init_45 (by decide) ?_
  obtain ⟨hng, hby, hc1, hn1, hF⟩ := hF
  refine xg_newi (pc := 47) C (List.mem_of_getElem? (i := 4) rfl) hng hby hc1 hn1 dX1_init_47 (fun q31 ca32 Y33 h34 hqq31 eY33 eh34 => ?_)
  have hF := hF q31 ca32 hqq31 Y33 eY33 h34 eh34
  obtain ⟨hk35, hF⟩ := hF
  refine xg_putrF (pc := 49) (C1 := RX1) (T1 := TX1) (ci := 1) (ref := "SandGlasses$Book") C inm_X1_init_1 rfl (by decide) tyX1 tyX1_ok nmX1 9 (by decide) rfl (ty1 := .array .int) (xg_rta _) dX1_init_49 (List.mem_of_getElem? (i := 10) rfl) rfl rfl (hI rfl) rfl (tyX1_ok 9 (by decide)) rfl hk35 (fun h36 eh36 => ?_)
  have hF := hF h36 eh36
  refine xg_aload_n (pc := 52) C dX1_init_52 0 rfl ?_
  refine xg_iconst (pc := 53) (v := (-1)) C dX1_init_53 (by decide) ?_
  refine xg_puti (pc := 54) (C1 := RX1) (T1 := TX1) (ci := 1) (ref := "SandGlasses$Book") C inm_X1_init_1 rfl (by decide) tyX1 tyX1_ok nmX1 12 (by decide) rfl dX1_init_54 (List.mem_of_getElem? (i := 11) rfl) rfl rfl (tyX1_ok 12 (by decide)) rfl hk35 (fun h37 eh37 => ?_)
  have hF := hF h37 eh37
  refine xg_aload_n (pc := 57) C dX1_init_57 0 rfl ?_
  obtain ⟨hc1, hn1, hF⟩ := hF
  refine xg_new (pc := 58) (C1 := RX10) (T1 := TX10) (ci := 10) C inm_X1_init_10 rfl (by decide) (List.mem_of_getElem? (i := 12) rfl) (List.mem_of_getElem? (i := 13) rfl) (List.mem_of_getElem? (i := 14) rfl) tyX10 tyX10_ok (by decide) hc1 hn1 dX1_init_58 (fun q38 Y39 h40 hqq38 eY39 eh40 => ?_)
  have hF := hF q38 hqq38 Y39 eY39 h40 eh40
  refine xg_dup (pc := 61) C dX1_init_61 (xg_rf_cat _) ?_
  refine xg_aload_n (pc := 62) C dX1_init_62 1 rfl ?_
  refine xg_iload_n (pc := 63) C dX1_init_63 2 rfl ?_
  obtain ⟨mc41, ms41, hfit, hF⟩ := hF
  refine xg_diV (pc := 64) C [va_rf x1, .int x2] rfl (List.mem_of_getElem? (i := 14) rfl) (List.mem_of_getElem? (i := 24) rfl) (List.mem_of_getElem? (i := 25) rfl) rfl (met_X10_init mc41 ms41 Y39 q38 x1 x2) gX1_init_X10_init rfl nd_X10_init.2 ⟨Nat.le_of_ble_eq_true rfl, Nat.le_of_ble_eq_true rfl⟩ rfl rfl (Nat.le_of_ble_eq_true rfl) hfit dX1_init_64 hF (fun Y42 h43 hF => ?_)
  obtain ⟨hk44, hF⟩ := hF
  refine xg_putrF (pc := 67) (C1 := RX1) (T1 := TX1) (ci := 1) (ref := "SandGlasses$Book") C inm_X1_init_1 rfl (by decide) tyX1 tyX1_ok nmX1 0 (by decide) rfl (ty1 := .object "SandGlasses$Walk") (xg_rt _) dX1_init_67 (List.mem_of_getElem? (i := 15) rfl) rfl rfl (hI rfl) rfl (tyX1_ok 0 (by decide)) rfl hk44 (fun h45 eh45 => ?_)
  have hF := hF h45 eh45
  refine xg_aload_n (pc := 70) C dX1_init_70 0 rfl ?_
  obtain ⟨hc1, hn1, hF⟩ := hF
  refine xg_new (pc := 71) (C1 := RX10) (T1 := TX10) (ci := 10) C inm_X1_init_10 rfl (by decide) (List.mem_of_getElem? (i := 12) rfl) (List.mem_of_getElem? (i := 13) rfl) (List.mem_of_getElem? (i := 14) rfl) tyX10 tyX10_ok (by decide) hc1 hn1 dX1_init_71 (fun q46 Y47 h48 hqq46 eY47 eh48 => ?_)
  have hF := hF q46 hqq46 Y47 eY47 h48 eh48
  refine xg_dup (pc := 74) C dX1_init_74 (xg_rf_cat _) ?_
  refine xg_aload_n (pc := 75) C dX1_init_75 1 rfl ?_
  refine xg_iload_n (pc := 76) C dX1_init_76 2 rfl ?_
  refine xg_iconst (pc := 77) (v := 1) C dX1_init_77 (by decide) ?_
  refine xg_isub (pc := 78) C dX1_init_78 ?_
  obtain ⟨mc49, ms49, hfit, hF⟩ := hF
  refine xg_diV (pc := 79) C [va_rf x1, .int (x2 - 1)] rfl (List.mem_of_getElem? (i := 14) rfl) (List.mem_of_getElem? (i := 24) rfl) (List.mem_of_getElem? (i := 25) rfl) rfl (met_X10_init mc49 ms49 Y47 q46 x1 (x2 - 1)) gX1_init_X10_init rfl nd_X10_init.2 ⟨Nat.le_of_ble_eq_true rfl, Nat.le_of_ble_eq_true rfl⟩ rfl rfl (Nat.le_of_ble_eq_true rfl) hfit dX1_init_79 hF (fun Y50 h51 hF => ?_)
  obtain ⟨hk52, hF⟩ := hF
  refine xg_putrF (pc := 82) (C1 := RX1) (T1 := TX1) (ci := 1) (ref := "SandGlasses$Book") C inm_X1_init_1 rfl (by decide) tyX1 tyX1_ok nmX1 1 (by decide) rfl (ty1 := .object "SandGlasses$Walk") (xg_rt _) dX1_init_82 (List.mem_of_getElem? (i := 16) rfl) rfl rfl (hI rfl) rfl (tyX1_ok 1 (by decide)) rfl hk52 (fun h53 eh53 => ?_)
  have hF := hF h53 eh53
  refine xg_aload_n (pc := 85) C dX1_init_85 0 rfl ?_
  obtain ⟨hc1, hn1, hF⟩ := hF
  refine xg_new (pc := 86) (C1 := RX3) (T1 := TX3) (ci := 3) C inm_X1_init_3 rfl (by decide) (List.mem_of_getElem? (i := 17) rfl) (List.mem_of_getElem? (i := 18) rfl) (List.mem_of_getElem? (i := 19) rfl) tyX3 tyX3_ok (by decide) hc1 hn1 dX1_init_86 (fun q54 Y55 h56 hqq54 eY55 eh56 => ?_)
  have hF := hF q54 hqq54 Y55 eY55 h56 eh56
  refine xg_dup (pc := 89) C dX1_init_89 (xg_rf_cat _) ?_
  refine xg_aload_n (pc := 90) C dX1_init_90 0 rfl ?_
  obtain ⟨hk57, hF⟩ := hF
  refine xg_getr (pc := 91) (C1 := RX1) (T1 := TX1) (ci := 1) (ref := "SandGlasses$Book") C inm_X1_init_1 rfl (by decide) 0 (by decide) rfl dX1_init_91 (List.mem_of_getElem? (i := 15) rfl) rfl rfl hk57 ?_
  obtain ⟨mc58, ms58, hfit, hF⟩ := hF
  refine xg_diV (pc := 94) C [va_rf (xg_o h56 this 0)] rfl (List.mem_of_getElem? (i := 19) rfl) (List.mem_of_getElem? (i := 42) rfl) (List.mem_of_getElem? (i := 43) rfl) rfl (met_X3_init mc58 ms58 Y55 q54 (xg_o h56 this 0)) gX1_init_X3_init rfl nd_X3_init.2 ⟨Nat.le_of_ble_eq_true rfl, Nat.le_of_ble_eq_true rfl⟩ rfl rfl (Nat.le_of_ble_eq_true rfl) hfit dX1_init_94 hF (fun Y59 h60 hF => ?_)
  obtain ⟨hk61, hF⟩ := hF
  refine xg_putrF (pc := 97) (C1 := RX1) (T1 := TX1) (ci := 1) (ref := "SandGlasses$Book") C inm_X1_init_1 rfl (by decide) tyX1 tyX1_ok nmX1 2 (by decide) rfl (ty1 := .object "SandGlasses$Costs") (xg_rt _) dX1_init_97 (List.mem_of_getElem? (i := 20) rfl) rfl rfl (hI rfl) rfl (tyX1_ok 2 (by decide)) rfl hk61 (fun h62 eh62 => ?_)
  have hF := hF h62 eh62
  refine xg_aload_n (pc := 100) C dX1_init_100 0 rfl ?_
  refine xg_bipush (pc := 101) (v := 11) C dX1_init_101 (by decide) ?_
  refine xg_aload_n (pc := 103) C dX1_init_103 0 rfl ?_
  refine xg_getr (pc := 104) (C1 := RX1) (T1 := TX1) (ci := 1) (ref := "SandGlasses$Book") C inm_X1_init_1 rfl (by decide) 0 (by decide) rfl dX1_init_104 (List.mem_of_getElem? (i := 15) rfl) rfl rfl hk61 ?_
  obtain ⟨a63, ha63, hka63, hF⟩ := hF
  refine xg_getr (pc := 107) (C1 := RX10) (T1 := TX10) (ci := 10) (ref := "SandGlasses$Walk") C inm_X1_init_10 rfl (by decide) 0 (by decide) rfl dX1_init_107 (List.mem_of_getElem? (i := 21) rfl) rfl ha63 hka63 ?_
  obtain ⟨a64, ha64, hka64, hF⟩ := hF
  refine xg_alen (pc := 110) (c9 := 22) C ha64 hka64 (by decide) dX1_init_110 ?_
  refine xg_imul (pc := 111) C dX1_init_111 ?_
  obtain ⟨hng, hby, hc1, hn1, hF⟩ := hF
  refine xg_newl (pc := 112) C (List.mem_of_getElem? (i := 22) rfl) hng hby hc1 hn1 dX1_init_112 (fun q65 ca66 Y67 h68 hqq65 eY67 eh68 => ?_)
  have hF := hF q65 ca66 hqq65 Y67 eY67 h68 eh68
  obtain ⟨hk69, hF⟩ := hF
  refine xg_putrF (pc := 114) (C1 := RX1) (T1 := TX1) (ci := 1) (ref := "SandGlasses$Book") C inm_X1_init_1 rfl (by decide) tyX1 tyX1_ok nmX1 7 (by decide) rfl (ty1 := .array .long) (xg_rta _) dX1_init_114 (List.mem_of_getElem? (i := 23) rfl) rfl rfl (hI rfl) rfl (tyX1_ok 7 (by decide)) rfl hk69 (fun h70 eh70 => ?_)
  have hF := hF h70 eh70
  obtain ⟨hfit, hF⟩ := hF
  exact xg_endV (pc := 117) C E hfit dX1_init_117 hF
def rm_X11_bookOf (MC MS : Nat) : Room := { frames := 5, cells := MC, slots := MS, locals := 119 }
theorem nd_X11_bookOf : yX11_bookOf.cls = RX11 ∧ yX11_bookOf.cls ≠ "java/lang/invoke/MethodHandle" ∧ yX11_bookOf.cls ≠ "java/lang/invoke/VarHandle" ∧ (parseMethodDescriptor yX11_bookOf.desc).map (fun d => d.parameters.length) = some 2 := by decide +kernel
theorem inm_X11_bookOf_1 : ∀ w ∈ u_ws RX1 TX1 (xg_N 1), w ∈ wsX11_bookOf := fun _ h9 => List.mem_cons_of_mem _ (List.mem_append_left _ (List.mem_append_left _ (List.mem_append_left _ (List.mem_append_right _ h9))))
theorem inm_X11_bookOf_8 : ∀ w ∈ u_ws RX8 TX8 (xg_N 8), w ∈ wsX11_bookOf := fun _ h9 => List.mem_cons_of_mem _ (List.mem_append_left _ (List.mem_append_left _ (List.mem_append_left _ (List.mem_append_left _ (List.mem_append_right _ h9)))))
theorem inm_X11_bookOf_11 : ∀ w ∈ u_ws RX11 TX11 (xg_N 11), w ∈ wsX11_bookOf := fun _ h9 => List.mem_cons_of_mem _ (List.mem_append_left _ (List.mem_append_left _ (List.mem_append_left _ (List.mem_append_left _ (List.mem_append_left _ (List.mem_append_right _ h9))))))
set_option maxHeartbeats 4000000 in
set_option maxRecDepth 100000 in
theorem met_X11_bookOf (MC MS : Nat) (Y : xg_Y) (this : Nat) (x1 : Int32) (x2 : Option Nat) : xg_NR yX11_bookOf wsX11_bookOf (rm_X11_bookOf MC MS) Y [va_rf (some this), .int x1, va_rf x2] (fun Q h => wp_X11_bookOf MC MS Y Q this x1 x2 h) := by
  refine xg_beginR (cc := cX11_bookOf) (maxL := 4) (own := RX11) (by decide) rfl rfl (by cases x2 <;> exact Nat.le_of_ble_eq_true rfl) (fun X Q h C hnL E hw => ?_)
  unfold wp_X11_bookOf at hw
  obtain ⟨hthis, hw⟩ := hw
  refine xg_sub (lv2 := [(0, va_rf (some this)), (1, .int x1), (2, va_rf x2)]) [0, 1, 2] (by cases x2 <;> rfl) ?_
  refine mg_use (hw (fun (s0 : Int32) (kc nc : Nat) (Yc : xg_Y) (h : xg_H) => xg_W X kc nc Yc 9 [(0, va_rf (some this)), (2, va_rf x2)] [.int s0] h) (fun (y3 : Int32) (kc nc : Nat) (Yc : xg_Y) (h : xg_H) => xg_W X kc nc Yc 35 [(0, va_rf (some this)), (2, va_rf x2), (3, .int y3)] [] h) (fun (y3 : Int32) (kc nc : Nat) (Yc : xg_Y) (h : xg_H) => xg_W X kc nc Yc 56 [(0, va_rf (some this)), (2, va_rf x2), (3, .int y3)] [] h) ?_ ?_ ?_) (fun hF => ?_)
  · intro s0 kc nc Yc h hF
    refine xg_istore_n (pc := 9) (lv2 := [(3, .int s0), (0, va_rf (some this)), (2, va_rf x2)]) C dX11_bookOf_9 4 hnL (by decide) (by cases x2 <;> rfl) ?_
    refine xg_aload_n (pc := 10) C dX11_bookOf_10 1 rfl ?_
    obtain ⟨hk1, hF⟩ := hF
    refine xg_getr (pc := 11) (C1 := RX11) (T1 := TX11) (ci := 11) (ref := "SandGlasses") C inm_X11_bookOf_11 rfl (by decide) 7 (by decide) rfl dX11_bookOf_11 (List.mem_of_getElem? (i := 1) rfl) rfl rfl hk1 ?_
    refine xg_iload_n (pc := 14) C dX11_bookOf_14 0 rfl ?_
    obtain ⟨a2, ha2, hka2, hF⟩ := hF
    obtain ⟨hi, hF⟩ := hF
    refine xg_aald (pc := 15) (c9 := 25) (C9 := "SandGlasses$Book") C ha2 hka2 (by decide) rfl hi dX11_bookOf_15 ?_
    refine xg_ifnull (pc := 16) 35 C dX11_bookOf_16 (by decide) (fun hc => ?_) (fun a3 ha3 => ?_)
    · have hF := hF.1 hc
      refine xg_sub (lv2 := [(0, va_rf (some this)), (2, va_rf x2), (3, .int s0)]) [1, 2, 0] rfl ?_
      exact hF
    · have hF := hF.2 a3 ha3
      refine xg_aload_n (pc := 19) C dX11_bookOf_19 1 rfl ?_
      refine xg_getr (pc := 20) (C1 := RX11) (T1 := TX11) (ci := 11) (ref := "SandGlasses") C inm_X11_bookOf_11 rfl (by decide) 7 (by decide) rfl dX11_bookOf_20 (List.mem_of_getElem? (i := 1) rfl) rfl rfl hk1 ?_
      refine xg_iload_n (pc := 23) C dX11_bookOf_23 0 rfl ?_
      obtain ⟨hi, hF⟩ := hF
      refine xg_aald (pc := 24) (c9 := 25) (C9 := "SandGlasses$Book") C ha2 hka2 (by decide) rfl hi dX11_bookOf_24 ?_
      refine xg_aload_n (pc := 25) C dX11_bookOf_25 2 rfl ?_
      obtain ⟨a4, ha4, hka4, hF⟩ := hF
      refine xg_geti (pc := 26) (C1 := RX8) (T1 := TX8) (ci := 8) (ref := "SandGlasses$Text") C inm_X11_bookOf_8 rfl (by decide) 0 (by decide) rfl dX11_bookOf_26 (List.mem_of_getElem? (i := 2) rfl) rfl ha4 hka4 ?_
      obtain ⟨hk5, hF⟩ := hF
      obtain ⟨hfit, hF⟩ := hF
      refine xg_cvI (pc := 29) (C1 := RX1) (T1 := TX1) (ci := 1) C (fun zs => [.int (xg_i h a4 0)]) ha3 hk5 (by decide) rfl (met_X1_hasRoomFor Yc a3 (xg_i h a4 0)) gX11_bookOf_X1_hasRoomFor rfl ⟨rfl, rfl⟩ nd_X1_hasRoomFor ⟨Nat.le_of_ble_eq_true rfl, Nat.le_of_ble_eq_true rfl⟩ rfl rfl (Nat.le_of_ble_eq_true rfl) hfit dX11_bookOf_29 hF (fun r7 h6 hF => ?_)
      refine xg_if_ne (pc := 32) 56 C dX11_bookOf_32 (by decide) (fun hc => ?_) (fun hc => ?_)
      · have hF := hF.1 hc
        refine xg_sub (lv2 := [(0, va_rf (some this)), (2, va_rf x2), (3, .int s0)]) [1, 2, 0] rfl ?_
        exact hF
      · have hF := hF.2 hc
        refine xg_sub (lv2 := [(0, va_rf (some this)), (2, va_rf x2), (3, .int s0)]) [1, 2, 0] rfl ?_
        exact hF
  · intro y3 kc nc Yc h hF
    refine xg_aload_n (pc := 35) C dX11_bookOf_35 0 rfl ?_
    obtain ⟨hk8, hF⟩ := hF
    refine xg_getr (pc := 36) (C1 := RX11) (T1 := TX11) (ci := 11) (ref := "SandGlasses") C inm_X11_bookOf_11 rfl (by decide) 7 (by decide) rfl dX11_bookOf_36 (List.mem_of_getElem? (i := 1) rfl) rfl rfl hk8 ?_
    refine xg_iload_n (pc := 39) C dX11_bookOf_39 2 rfl ?_
    obtain ⟨hc1, hn1, hF⟩ := hF
    refine xg_new (pc := 40) (C1 := RX1) (T1 := TX1) (ci := 1) C inm_X11_bookOf_1 rfl (by decide) (List.mem_of_getElem? (i := 3) rfl) (List.mem_of_getElem? (i := 4) rfl) (List.mem_of_getElem? (i := 5) rfl) tyX1 tyX1_ok (by decide) hc1 hn1 dX11_bookOf_40 (fun q9 Y10 h11 hqq9 eY10 eh11 => ?_)
    have hF := hF q9 hqq9 Y10 eY10 h11 eh11
    refine xg_dup (pc := 43) C dX11_bookOf_43 (xg_rf_cat _) ?_
    refine xg_aload_n (pc := 44) C dX11_bookOf_44 0 rfl ?_
    obtain ⟨hk12, hF⟩ := hF
    refine xg_getr (pc := 45) (C1 := RX11) (T1 := TX11) (ci := 11) (ref := "SandGlasses") C inm_X11_bookOf_11 rfl (by decide) 5 (by decide) rfl dX11_bookOf_45 (List.mem_of_getElem? (i := 6) rfl) rfl rfl hk12 ?_
    refine xg_aload_n (pc := 48) C dX11_bookOf_48 1 rfl ?_
    obtain ⟨a13, ha13, hka13, hF⟩ := hF
    refine xg_geti (pc := 49) (C1 := RX8) (T1 := TX8) (ci := 8) (ref := "SandGlasses$Text") C inm_X11_bookOf_8 rfl (by decide) 0 (by decide) rfl dX11_bookOf_49 (List.mem_of_getElem? (i := 2) rfl) rfl ha13 hka13 ?_
    obtain ⟨mc14, ms14, hfit, hF⟩ := hF
    refine xg_diV (pc := 52) C [va_rf (xg_o h11 this 5), .int (xg_i h11 a13 0)] rfl (List.mem_of_getElem? (i := 5) rfl) (List.mem_of_getElem? (i := 20) rfl) (List.mem_of_getElem? (i := 21) rfl) rfl (met_X1_init mc14 ms14 Y10 q9 (xg_o h11 this 5) (xg_i h11 a13 0)) gX11_bookOf_X1_init rfl nd_X1_init.2 ⟨Nat.le_of_ble_eq_true rfl, Nat.le_of_ble_eq_true rfl⟩ rfl rfl (by simp [xg_rf_cat, xg_cat_i, xg_cat_l, xg_cat_a]) hfit dX11_bookOf_52 hF (fun Y15 h16 hF => ?_)
    obtain ⟨a17, ha17, hka17, hF⟩ := hF
    obtain ⟨hk18, hF⟩ := hF
    obtain ⟨hi, hF⟩ := hF
    refine xg_aast (pc := 55) (c9 := 25) (ci := 1) (q9 := (RX1, TX1, xg_N 1)) C ha17 hka17 (by decide) rfl rfl hk18 (by decide) rfl hi dX11_bookOf_55 (fun h19 eh19 => ?_)
    have hF := hF h19 eh19
    exact hF
  · intro y3 kc nc Yc h hF
    refine xg_aload_n (pc := 56) C dX11_bookOf_56 0 rfl ?_
    obtain ⟨hk20, hF⟩ := hF
    refine xg_getr (pc := 57) (C1 := RX11) (T1 := TX11) (ci := 11) (ref := "SandGlasses") C inm_X11_bookOf_11 rfl (by decide) 7 (by decide) rfl dX11_bookOf_57 (List.mem_of_getElem? (i := 1) rfl) rfl rfl hk20 ?_
    refine xg_iload_n (pc := 60) C dX11_bookOf_60 2 rfl ?_
    obtain ⟨a21, ha21, hka21, hF⟩ := hF
    obtain ⟨hi, hF⟩ := hF
    refine xg_aald (pc := 61) (c9 := 25) (C9 := "SandGlasses$Book") C ha21 hka21 (by decide) rfl hi dX11_bookOf_61 ?_
    refine xg_aload_n (pc := 62) C dX11_bookOf_62 1 rfl ?_
    obtain ⟨a22, ha22, hka22, hF⟩ := hF
    obtain ⟨hfit, hF⟩ := hF
    refine xg_cvV (pc := 63) (C1 := RX1) (T1 := TX1) (ci := 1) C (fun zs => [va_rf x2]) ha22 hka22 (by decide) rfl (met_X1_open Yc a22 x2) gX11_bookOf_X1_open rfl ⟨rfl, rfl⟩ nd_X1_open ⟨Nat.le_of_ble_eq_true rfl, Nat.le_of_ble_eq_true rfl⟩ rfl rfl (Nat.le_of_ble_eq_true rfl) hfit dX11_bookOf_63 hF (fun h23 hF => ?_)
    refine xg_aload_n (pc := 66) C dX11_bookOf_66 0 rfl ?_
    refine xg_getr (pc := 67) (C1 := RX11) (T1 := TX11) (ci := 11) (ref := "SandGlasses") C inm_X11_bookOf_11 rfl (by decide) 7 (by decide) rfl dX11_bookOf_67 (List.mem_of_getElem? (i := 1) rfl) rfl rfl hk20 ?_
    refine xg_iload_n (pc := 70) C dX11_bookOf_70 2 rfl ?_
    obtain ⟨a24, ha24, hka24, hF⟩ := hF
    obtain ⟨hi, hF⟩ := hF
    refine xg_aald (pc := 71) (c9 := 25) (C9 := "SandGlasses$Book") C ha24 hka24 (by decide) rfl hi dX11_bookOf_71 ?_
    obtain ⟨hfit, hF⟩ := hF
    exact xg_endR (pc := 72) C E (Or.inl ⟨_, rfl⟩) hfit dX11_bookOf_72 hF
  · skip
    refine xg_iload_n (pc := 0) C dX11_bookOf_0 1 rfl ?_
    refine xg_if_ne (pc := 1) 8 C dX11_bookOf_1 (by decide) (fun hc => ?_) (fun hc => ?_)
    · have hF := hF.1 hc
      refine xg_iconst (pc := 8) (v := 1) C dX11_bookOf_8 (by decide) ?_
      refine xg_sub (lv2 := [(0, va_rf (some this)), (2, va_rf x2)]) [0, 2] rfl ?_
      exact hF
    · have hF := hF.2 hc
      refine xg_iconst (pc := 4) (v := 0) C dX11_bookOf_4 (by decide) ?_
      refine xg_goto (pc := 5) 9 C dX11_bookOf_5 (by decide) ?_
      refine xg_sub (lv2 := [(0, va_rf (some this)), (2, va_rf x2)]) [0, 2] rfl ?_
      exact hF
def rm_X11_apart (MC MS : Nat) : Room := { frames := 6, cells := MC, slots := MS, locals := 142 }
theorem nd_X11_apart : yX11_apart.cls = RX11 ∧ yX11_apart.cls ≠ "java/lang/invoke/MethodHandle" ∧ yX11_apart.cls ≠ "java/lang/invoke/VarHandle" ∧ (parseMethodDescriptor yX11_apart.desc).map (fun d => d.parameters.length) = some 2 := by decide +kernel
theorem inm_X11_apart_11 : ∀ w ∈ u_ws RX11 TX11 (xg_N 11), w ∈ wsX11_apart := fun _ h9 => List.mem_cons_of_mem _ (List.mem_append_left _ (List.mem_append_left _ (List.mem_append_left _ (List.mem_append_left _ (List.mem_append_left _ (List.mem_append_left _ (List.mem_append_right _ h9)))))))
set_option maxHeartbeats 4000000 in
set_option maxRecDepth 100000 in
theorem met_X11_apart (MC MS : Nat) (Y : xg_Y) (this : Nat) (x1 : Int32) (x2 : Int32) : xg_NI yX11_apart wsX11_apart (rm_X11_apart MC MS) Y [va_rf (some this), .int x1, .int x2] (fun Q h => wp_X11_apart MC MS Y Q this x1 x2 h) := by
  refine xg_beginI (cc := cX11_apart) (maxL := 5) (own := RX11) (by decide) rfl rfl (Nat.le_of_ble_eq_true rfl) (fun X Q h C hnL E hw => ?_)
  unfold wp_X11_apart at hw
  obtain ⟨hthis, hw⟩ := hw
  refine xg_sub (lv2 := [(0, va_rf (some this)), (1, .int x1), (2, .int x2)]) [0, 1, 2] rfl ?_
  have hF := hw
  refine xg_aload_n (pc := 0) C dX11_apart_0 0 rfl ?_
  refine xg_getr (pc := 1) (C1 := RX11) (T1 := TX11) (ci := 11) (ref := "SandGlasses") C inm_X11_apart_11 rfl (by decide) 0 (by decide) rfl dX11_apart_1 (List.mem_of_getElem? (i := 1) rfl) rfl rfl hthis ?_
  refine xg_iconst (pc := 4) (v := 0) C dX11_apart_4 (by decide) ?_
  refine xg_iload_n (pc := 5) C dX11_apart_5 1 rfl ?_
  obtain ⟨a1, ha1, hka1, hF⟩ := hF
  obtain ⟨hfit, hF⟩ := hF
  refine xg_cvR (pc := 6) (C1 := RX9) (T1 := TX9) (ci := 9) C (fun zs => [.int 0, .int x1]) ha1 hka1 (by decide) rfl (met_X9_find Y a1 0 x1) gX11_apart_X9_find rfl ⟨rfl, rfl⟩ nd_X9_find ⟨Nat.le_of_ble_eq_true rfl, Nat.le_of_ble_eq_true rfl⟩ rfl rfl (Nat.le_of_ble_eq_true rfl) hfit dX11_apart_6 hF (fun r3 h2 hF => ?_)
  refine xg_astore_n (pc := 9) (lv2 := [(3, va_rf r3), (0, va_rf (some this)), (1, .int x1), (2, .int x2)]) C dX11_apart_9 5 hnL (by decide) rfl ?_
  refine xg_aload_n (pc := 10) C dX11_apart_10 1 rfl ?_
  refine xg_getr (pc := 11) (C1 := RX11) (T1 := TX11) (ci := 11) (ref := "SandGlasses") C inm_X11_apart_11 rfl (by decide) 0 (by decide) rfl dX11_apart_11 (List.mem_of_getElem? (i := 1) rfl) rfl rfl hthis ?_
  refine xg_iconst (pc := 14) (v := 0) C dX11_apart_14 (by decide) ?_
  refine xg_iload_n (pc := 15) C dX11_apart_15 3 rfl ?_
  obtain ⟨a4, ha4, hka4, hF⟩ := hF
  obtain ⟨hfit, hF⟩ := hF
  refine xg_cvR (pc := 16) (C1 := RX9) (T1 := TX9) (ci := 9) C (fun zs => [.int 0, .int x2]) ha4 hka4 (by decide) rfl (met_X9_find Y a4 0 x2) gX11_apart_X9_find rfl ⟨rfl, rfl⟩ nd_X9_find ⟨Nat.le_of_ble_eq_true rfl, Nat.le_of_ble_eq_true rfl⟩ rfl rfl (Nat.le_of_ble_eq_true rfl) hfit dX11_apart_16 hF (fun r6 h5 hF => ?_)
  refine xg_astore (pc := 19) (lv2 := [(4, va_rf r6), (3, va_rf r3), (0, va_rf (some this)), (1, .int x1), (2, .int x2)]) C dX11_apart_19 5 hnL (by decide) (by cases r3 <;> rfl) ?_
  refine xg_aload_n (pc := 21) C dX11_apart_21 1 rfl ?_
  refine xg_ifnull (pc := 22) 30 C dX11_apart_22 (by decide) (fun hc => ?_) (fun a7 ha7 => ?_)
  · have hF := hF.1 hc
    refine xg_iconst (pc := 30) (v := (-1)) C dX11_apart_30 (by decide) ?_
    obtain ⟨hfit, hF⟩ := hF
    exact xg_endI (pc := 31) C E hfit dX11_apart_31 hF
  · have hF := hF.2 a7 ha7
    refine xg_aload (pc := 25) C dX11_apart_25 0 rfl ?_
    refine xg_ifnonnull (pc := 27) 32 C dX11_apart_27 (by decide) (fun a8 ha8 => ?_) (fun hc => ?_)
    · have hF := hF.2 a8 ha8
      refine xg_aload_n (pc := 32) C dX11_apart_32 2 rfl ?_
      refine xg_iload_n (pc := 33) C dX11_apart_33 3 rfl ?_
      refine xg_aload_n (pc := 34) C dX11_apart_34 1 rfl ?_
      obtain ⟨mc10, ms10, hfit, hF⟩ := hF
      refine xg_dvR (pc := 35) (C1 := RX11) (T1 := TX11) (ci := 11) C [.int x1, va_rf r3] rfl hthis (by decide) rfl (met_X11_bookOf mc10 ms10 Y this x1 r3) gX11_apart_X11_bookOf rfl nd_X11_bookOf ⟨Nat.le_of_ble_eq_true rfl, Nat.le_of_ble_eq_true rfl⟩ rfl rfl (Nat.le_of_ble_eq_true rfl) hfit dX11_apart_35 hF (fun r10 Y11 h12 hF => ?_)
      obtain ⟨a13, ha13, hka13, hF⟩ := hF
      obtain ⟨hfit, hF⟩ := hF
      refine xg_cvI (pc := 38) (C1 := RX1) (T1 := TX1) (ci := 1) C (fun zs => []) ha13 hka13 (by decide) rfl (met_X1_told Y11 a13) gX11_apart_X1_told rfl ⟨rfl, rfl⟩ nd_X1_told ⟨Nat.le_of_ble_eq_true rfl, Nat.le_of_ble_eq_true rfl⟩ rfl rfl (Nat.le_of_ble_eq_true rfl) hfit dX11_apart_38 hF (fun r15 h14 hF => ?_)
      refine xg_aload_n (pc := 41) C dX11_apart_41 2 rfl ?_
      refine xg_iload_n (pc := 42) C dX11_apart_42 4 rfl ?_
      refine xg_aload (pc := 43) C dX11_apart_43 0 rfl ?_
      obtain ⟨hk16, hF⟩ := hF
      obtain ⟨mc18, ms18, hfit, hF⟩ := hF
      refine xg_dvR (pc := 45) (C1 := RX11) (T1 := TX11) (ci := 11) C [.int x2, va_rf r6] rfl hk16 (by decide) rfl (met_X11_bookOf mc18 ms18 Y11 this x2 r6) gX11_apart_X11_bookOf rfl nd_X11_bookOf ⟨Nat.le_of_ble_eq_true rfl, Nat.le_of_ble_eq_true rfl⟩ rfl rfl (Nat.le_of_ble_eq_true rfl) hfit dX11_apart_45 hF (fun r18 Y19 h20 hF => ?_)
      obtain ⟨a21, ha21, hka21, hF⟩ := hF
      obtain ⟨hfit, hF⟩ := hF
      refine xg_cvI (pc := 48) (C1 := RX1) (T1 := TX1) (ci := 1) C (fun zs => []) ha21 hka21 (by decide) rfl (met_X1_told Y19 a21) gX11_apart_X1_told rfl ⟨rfl, rfl⟩ nd_X1_told ⟨Nat.le_of_ble_eq_true rfl, Nat.le_of_ble_eq_true rfl⟩ rfl rfl (Nat.le_of_ble_eq_true rfl) hfit dX11_apart_48 hF (fun r23 h22 hF => ?_)
      refine xg_iconst (pc := 51) (v := (-1)) C dX11_apart_51 (by decide) ?_
      refine xg_ixor (pc := 52) C dX11_apart_52 ?_
      refine xg_iand (pc := 53) C dX11_apart_53 ?_
      obtain ⟨hfit, hF⟩ := hF
      exact xg_endI (pc := 54) C E hfit dX11_apart_54 hF
    · have hF := hF.1 hc
      refine xg_iconst (pc := 30) (v := (-1)) C dX11_apart_30 (by decide) ?_
      obtain ⟨hfit, hF⟩ := hF
      exact xg_endI (pc := 31) C E hfit dX11_apart_31 hF
def rm_X11_couples (MC MS : Nat) : Room := { frames := 6, cells := MC, slots := MS, locals := 142 }
theorem nd_X11_couples : yX11_couples.cls = RX11 ∧ yX11_couples.cls ≠ "java/lang/invoke/MethodHandle" ∧ yX11_couples.cls ≠ "java/lang/invoke/VarHandle" ∧ (parseMethodDescriptor yX11_couples.desc).map (fun d => d.parameters.length) = some 2 := by decide +kernel
theorem inm_X11_couples_8 : ∀ w ∈ u_ws RX8 TX8 (xg_N 8), w ∈ wsX11_couples := fun _ h9 => List.mem_cons_of_mem _ (List.mem_append_left _ (List.mem_append_left _ (List.mem_append_left _ (List.mem_append_left _ (List.mem_append_left _ (List.mem_append_right _ h9))))))
theorem inm_X11_couples_11 : ∀ w ∈ u_ws RX11 TX11 (xg_N 11), w ∈ wsX11_couples := fun _ h9 => List.mem_cons_of_mem _ (List.mem_append_left _ (List.mem_append_left _ (List.mem_append_left _ (List.mem_append_left _ (List.mem_append_left _ (List.mem_append_left _ (List.mem_append_right _ h9)))))))
set_option maxHeartbeats 4000000 in
set_option maxRecDepth 100000 in
theorem met_X11_couples (MC MS : Nat) (Y : xg_Y) (this : Nat) (x1 : Int32) (x2 : Int32) : xg_NI yX11_couples wsX11_couples (rm_X11_couples MC MS) Y [va_rf (some this), .int x1, .int x2] (fun Q h => wp_X11_couples MC MS Y Q this x1 x2 h) := by
  refine xg_beginI (cc := cX11_couples) (maxL := 8) (own := RX11) (by decide) rfl rfl (Nat.le_of_ble_eq_true rfl) (fun X Q h C hnL E hw => ?_)
  unfold wp_X11_couples at hw
  obtain ⟨hthis, hw⟩ := hw
  refine xg_sub (lv2 := [(0, va_rf (some this)), (1, .int x1), (2, .int x2)]) [0, 1, 2] rfl ?_
  refine mg_use (hw (fun (y3 : Option Nat) (y4 : Option Nat) (y5 : Int32) (y6 : Int32) (kc nc : Nat) (Yc : xg_Y) (h : xg_H) => xg_W X kc nc Yc 37 [(2, .int x2), (3, va_rf y3), (4, va_rf y4), (5, .int y5), (6, .int y6)] [] h) (fun (y3 : Option Nat) (y4 : Option Nat) (y5 : Int32) (y6 : Int32) (y7 : Int32) (kc nc : Nat) (Yc : xg_Y) (h : xg_H) => xg_W X kc nc Yc 52 [(2, .int x2), (3, va_rf y3), (4, va_rf y4), (5, .int y5), (6, .int y6), (7, .int y7)] [] h) (fun (y3 : Option Nat) (y4 : Option Nat) (y5 : Int32) (y6 : Int32) (y7 : Int32) (kc nc : Nat) (Yc : xg_Y) (h : xg_H) => xg_W X kc nc Yc 85 [(2, .int x2), (3, va_rf y3), (4, va_rf y4), (5, .int y5), (6, .int y6), (7, .int y7)] [] h) ?_ ?_ ?_) (fun hF => ?_)
  · intro y3 y4 y5 y6 kc nc Yc h hF
    refine xg_iload (pc := 37) C dX11_couples_37 4 rfl ?_
    refine xg_aload_n (pc := 39) C dX11_couples_39 1 rfl ?_
    obtain ⟨a11, ha11, hka11, hF⟩ := hF
    refine xg_geti (pc := 40) (C1 := RX8) (T1 := TX8) (ci := 8) (ref := "SandGlasses$Text") C inm_X11_couples_8 rfl (by decide) 0 (by decide) rfl dX11_couples_40 (List.mem_of_getElem? (i := 2) rfl) rfl ha11 hka11 ?_
    refine xg_icmp_ge (pc := 43) 97 C dX11_couples_43 (by decide) (fun hc => ?_) (fun hc => ?_)
    · have hF := hF.1 hc
      refine xg_iload (pc := 97) C dX11_couples_97 3 rfl ?_
      obtain ⟨hfit, hF⟩ := hF
      exact xg_endI (pc := 99) C E hfit dX11_couples_99 hF
    · have hF := hF.2 hc
      refine xg_iload (pc := 46) C dX11_couples_46 4 rfl ?_
      refine xg_iconst (pc := 48) (v := 1) C dX11_couples_48 (by decide) ?_
      refine xg_iadd (pc := 49) C dX11_couples_49 ?_
      refine xg_topi (pc := 50) (fun z12 ez12 => ?_)
      have hF := hF z12 ez12
      refine xg_istore (pc := 50) (lv2 := [(7, .int z12), (2, .int x2), (3, va_rf y3), (4, va_rf y4), (5, .int y5), (6, .int y6)]) C dX11_couples_50 8 hnL (by decide) rfl ?_
      refine xg_sub (lv2 := [(2, .int x2), (3, va_rf y3), (4, va_rf y4), (5, .int y5), (6, .int y6), (7, .int z12)]) [1, 2, 3, 4, 5, 0] rfl ?_
      exact hF
  · intro y3 y4 y5 y6 y7 kc nc Yc h hF
    refine xg_iload (pc := 52) C dX11_couples_52 5 rfl ?_
    refine xg_aload_n (pc := 54) C dX11_couples_54 1 rfl ?_
    obtain ⟨a13, ha13, hka13, hF⟩ := hF
    refine xg_geti (pc := 55) (C1 := RX8) (T1 := TX8) (ci := 8) (ref := "SandGlasses$Text") C inm_X11_couples_8 rfl (by decide) 0 (by decide) rfl dX11_couples_55 (List.mem_of_getElem? (i := 2) rfl) rfl ha13 hka13 ?_
    refine xg_icmp_ge (pc := 58) 91 C dX11_couples_58 (by decide) (fun hc => ?_) (fun hc => ?_)
    · have hF := hF.1 hc
      obtain ⟨z14, ez14⟩ : ∃ y : Int32, y = y6 + 1 := ⟨_, rfl⟩
      have hF := hF z14 ez14
      refine xg_iinc (pc := 91) (v := z14) (lv2 := [(6, .int z14), (2, .int x2), (3, va_rf y3), (4, va_rf y4), (5, .int y5), (7, .int y7)]) C dX11_couples_91 4 rfl (by rw [ez14]; rfl) 8 hnL (by decide) rfl ?_
      refine xg_goto (pc := 94) 37 C dX11_couples_94 (by decide) ?_
      refine xg_sub (lv2 := [(2, .int x2), (3, va_rf y3), (4, va_rf y4), (5, .int y5), (6, .int z14)]) [1, 2, 3, 4, 0] rfl ?_
      exact hF
    · have hF := hF.2 hc
      refine xg_aload (pc := 61) C dX11_couples_61 2 rfl ?_
      refine xg_iconst (pc := 63) (v := 1) C dX11_couples_63 (by decide) ?_
      refine xg_iload (pc := 64) C dX11_couples_64 4 rfl ?_
      refine xg_ishl (pc := 66) C dX11_couples_66 ?_
      refine xg_iconst (pc := 67) (v := 1) C dX11_couples_67 (by decide) ?_
      refine xg_iload (pc := 68) C dX11_couples_68 5 rfl ?_
      refine xg_ishl (pc := 70) C dX11_couples_70 ?_
      refine xg_ior (pc := 71) C dX11_couples_71 ?_
      obtain ⟨a15, ha15, hka15, hF⟩ := hF
      obtain ⟨hfit, hF⟩ := hF
      refine xg_cvI (pc := 72) (C1 := RX1) (T1 := TX1) (ci := 1) C (fun zs => [.int ((1 <<< (y6 &&& 31)) ||| (1 <<< (y7 &&& 31)))]) ha15 hka15 (by decide) rfl (met_X1_toldBy Yc a15 ((1 <<< (y6 &&& 31)) ||| (1 <<< (y7 &&& 31)))) gX11_couples_X1_toldBy rfl ⟨rfl, rfl⟩ nd_X1_toldBy ⟨Nat.le_of_ble_eq_true rfl, Nat.le_of_ble_eq_true rfl⟩ rfl rfl (Nat.le_of_ble_eq_true rfl) hfit dX11_couples_72 hF (fun r17 h16 hF => ?_)
      refine xg_iload_n (pc := 75) C dX11_couples_75 0 rfl ?_
      obtain ⟨hfit, hF⟩ := hF
      refine xg_csI (pc := 76) C (fun zs => [.int r17, .int x2]) (met_X11_has Yc r17 x2) gX11_couples_X11_has rfl ⟨rfl, rfl⟩ nd_X11_has.2 ⟨Nat.le_of_ble_eq_true rfl, Nat.le_of_ble_eq_true rfl⟩ rfl rfl (Nat.le_of_ble_eq_true rfl) hfit dX11_couples_76 hF (fun r19 h18 hF => ?_)
      refine xg_if_eq (pc := 79) 85 C dX11_couples_79 (by decide) (fun hc => ?_) (fun hc => ?_)
      · have hF := hF.1 hc
        exact hF
      · have hF := hF.2 hc
        obtain ⟨z20, ez20⟩ : ∃ y : Int32, y = y5 + 1 := ⟨_, rfl⟩
        have hF := hF z20 ez20
        refine xg_iinc (pc := 82) (v := z20) (lv2 := [(5, .int z20), (2, .int x2), (3, va_rf y3), (4, va_rf y4), (6, .int y6), (7, .int y7)]) C dX11_couples_82 3 rfl (by rw [ez20]; rfl) 8 hnL (by decide) (by cases y4 <;> rfl) ?_
        refine xg_sub (lv2 := [(2, .int x2), (3, va_rf y3), (4, va_rf y4), (5, .int z20), (6, .int y6), (7, .int y7)]) [1, 2, 3, 0, 4, 5] rfl ?_
        exact hF
  · intro y3 y4 y5 y6 y7 kc nc Yc h hF
    obtain ⟨z21, ez21⟩ : ∃ y : Int32, y = y7 + 1 := ⟨_, rfl⟩
    have hF := hF z21 ez21
    refine xg_iinc (pc := 85) (v := z21) (lv2 := [(7, .int z21), (2, .int x2), (3, va_rf y3), (4, va_rf y4), (5, .int y5), (6, .int y6)]) C dX11_couples_85 5 rfl (by rw [ez21]; rfl) 8 hnL (by decide) rfl ?_
    refine xg_goto (pc := 88) 52 C dX11_couples_88 (by decide) ?_
    refine xg_sub (lv2 := [(2, .int x2), (3, va_rf y3), (4, va_rf y4), (5, .int y5), (6, .int y6), (7, .int z21)]) [1, 2, 3, 4, 5, 0] rfl ?_
    exact hF
  · skip
    refine xg_aload_n (pc := 0) C dX11_couples_0 0 rfl ?_
    refine xg_getr (pc := 1) (C1 := RX11) (T1 := TX11) (ci := 11) (ref := "SandGlasses") C inm_X11_couples_11 rfl (by decide) 0 (by decide) rfl dX11_couples_1 (List.mem_of_getElem? (i := 1) rfl) rfl rfl hthis ?_
    refine xg_iconst (pc := 4) (v := 0) C dX11_couples_4 (by decide) ?_
    refine xg_iload_n (pc := 5) C dX11_couples_5 1 rfl ?_
    obtain ⟨a1, ha1, hka1, hF⟩ := hF
    obtain ⟨hfit, hF⟩ := hF
    refine xg_cvR (pc := 6) (C1 := RX9) (T1 := TX9) (ci := 9) C (fun zs => [.int 0, .int x1]) ha1 hka1 (by decide) rfl (met_X9_find Y a1 0 x1) gX11_couples_X9_find rfl ⟨rfl, rfl⟩ nd_X9_find ⟨Nat.le_of_ble_eq_true rfl, Nat.le_of_ble_eq_true rfl⟩ rfl rfl (Nat.le_of_ble_eq_true rfl) hfit dX11_couples_6 hF (fun r3 h2 hF => ?_)
    refine xg_astore_n (pc := 9) (lv2 := [(3, va_rf r3), (0, va_rf (some this)), (1, .int x1), (2, .int x2)]) C dX11_couples_9 8 hnL (by decide) rfl ?_
    refine xg_aload_n (pc := 10) C dX11_couples_10 0 rfl ?_
    refine xg_ifnull (pc := 11) 21 C dX11_couples_11 (by decide) (fun hc => ?_) (fun a4 ha4 => ?_)
    · have hF := hF.1 hc
      refine xg_iconst (pc := 21) (v := (-1)) C dX11_couples_21 (by decide) ?_
      obtain ⟨hfit, hF⟩ := hF
      exact xg_endI (pc := 22) C E hfit dX11_couples_22 hF
    · have hF := hF.2 a4 ha4
      refine xg_iload_n (pc := 14) C dX11_couples_14 3 rfl ?_
      obtain ⟨hfit, hF⟩ := hF
      refine xg_csI (pc := 15) C (fun zs => [.int x2]) (met_X11_isT Y x2) gX11_couples_X11_isT rfl ⟨rfl, rfl⟩ nd_X11_isT.2 ⟨Nat.le_of_ble_eq_true rfl, Nat.le_of_ble_eq_true rfl⟩ rfl rfl (Nat.le_of_ble_eq_true rfl) hfit dX11_couples_15 hF (fun r6 h5 hF => ?_)
      refine xg_if_ne (pc := 18) 23 C dX11_couples_18 (by decide) (fun hc => ?_) (fun hc => ?_)
      · have hF := hF.1 hc
        refine xg_aload_n (pc := 23) C dX11_couples_23 1 rfl ?_
        refine xg_iload_n (pc := 24) C dX11_couples_24 2 rfl ?_
        refine xg_aload_n (pc := 25) C dX11_couples_25 0 rfl ?_
        obtain ⟨mc8, ms8, hfit, hF⟩ := hF
        refine xg_dvR (pc := 26) (C1 := RX11) (T1 := TX11) (ci := 11) C [.int x1, va_rf r3] rfl hthis (by decide) rfl (met_X11_bookOf mc8 ms8 Y this x1 r3) gX11_couples_X11_bookOf rfl nd_X11_bookOf ⟨Nat.le_of_ble_eq_true rfl, Nat.le_of_ble_eq_true rfl⟩ rfl rfl (Nat.le_of_ble_eq_true rfl) hfit dX11_couples_26 hF (fun r8 Y9 h10 hF => ?_)
        refine xg_astore (pc := 29) (lv2 := [(4, va_rf r8), (3, va_rf r3), (0, va_rf (some this)), (1, .int x1), (2, .int x2)]) C dX11_couples_29 8 hnL (by decide) (by cases r3 <;> rfl) ?_
        refine xg_iconst (pc := 31) (v := 0) C dX11_couples_31 (by decide) ?_
        refine xg_istore (pc := 32) (lv2 := [(5, .int 0), (4, va_rf r8), (3, va_rf r3), (0, va_rf (some this)), (1, .int x1), (2, .int x2)]) C dX11_couples_32 8 hnL (by decide) (by cases r8 <;> rfl) ?_
        refine xg_iconst (pc := 34) (v := 0) C dX11_couples_34 (by decide) ?_
        refine xg_istore (pc := 35) (lv2 := [(6, .int 0), (5, .int 0), (4, va_rf r8), (3, va_rf r3), (0, va_rf (some this)), (1, .int x1), (2, .int x2)]) C dX11_couples_35 8 hnL (by decide) rfl ?_
        refine xg_sub (lv2 := [(2, .int x2), (3, va_rf r3), (4, va_rf r8), (5, .int 0), (6, .int 0)]) [6, 3, 2, 1, 0] rfl ?_
        exact hF
      · have hF := hF.2 hc
        refine xg_iconst (pc := 21) (v := (-1)) C dX11_couples_21 (by decide) ?_
        obtain ⟨hfit, hF⟩ := hF
        exact xg_endI (pc := 22) C E hfit dX11_couples_22 hF
def rm_X11_crowd (MC MS : Nat) : Room := { frames := 6, cells := MC, slots := MS, locals := 142 }
theorem nd_X11_crowd : yX11_crowd.cls = RX11 ∧ yX11_crowd.cls ≠ "java/lang/invoke/MethodHandle" ∧ yX11_crowd.cls ≠ "java/lang/invoke/VarHandle" ∧ (parseMethodDescriptor yX11_crowd.desc).map (fun d => d.parameters.length) = some 2 := by decide +kernel
theorem inm_X11_crowd_11 : ∀ w ∈ u_ws RX11 TX11 (xg_N 11), w ∈ wsX11_crowd := fun _ h9 => List.mem_cons_of_mem _ (List.mem_append_left _ (List.mem_append_left _ (List.mem_append_left _ (List.mem_append_left _ (List.mem_append_left _ (List.mem_append_left _ (List.mem_append_right _ h9)))))))
set_option maxHeartbeats 4000000 in
set_option maxRecDepth 100000 in
theorem met_X11_crowd (MC MS : Nat) (Y : xg_Y) (this : Nat) (x1 : Int32) (x2 : Int32) : xg_NI yX11_crowd wsX11_crowd (rm_X11_crowd MC MS) Y [va_rf (some this), .int x1, .int x2] (fun Q h => wp_X11_crowd MC MS Y Q this x1 x2 h) := by
  refine xg_beginI (cc := cX11_crowd) (maxL := 4) (own := RX11) (by decide) rfl rfl (Nat.le_of_ble_eq_true rfl) (fun X Q h C hnL E hw => ?_)
  unfold wp_X11_crowd at hw
  obtain ⟨hthis, hw⟩ := hw
  refine xg_sub (lv2 := [(0, va_rf (some this)), (1, .int x1), (2, .int x2)]) [0, 1, 2] rfl ?_
  have hF := hw
  refine xg_aload_n (pc := 0) C dX11_crowd_0 0 rfl ?_
  refine xg_getr (pc := 1) (C1 := RX11) (T1 := TX11) (ci := 11) (ref := "SandGlasses") C inm_X11_crowd_11 rfl (by decide) 0 (by decide) rfl dX11_crowd_1 (List.mem_of_getElem? (i := 1) rfl) rfl rfl hthis ?_
  refine xg_iconst (pc := 4) (v := 0) C dX11_crowd_4 (by decide) ?_
  refine xg_iload_n (pc := 5) C dX11_crowd_5 1 rfl ?_
  obtain ⟨a1, ha1, hka1, hF⟩ := hF
  obtain ⟨hfit, hF⟩ := hF
  refine xg_cvR (pc := 6) (C1 := RX9) (T1 := TX9) (ci := 9) C (fun zs => [.int 0, .int x1]) ha1 hka1 (by decide) rfl (met_X9_find Y a1 0 x1) gX11_crowd_X9_find rfl ⟨rfl, rfl⟩ nd_X9_find ⟨Nat.le_of_ble_eq_true rfl, Nat.le_of_ble_eq_true rfl⟩ rfl rfl (Nat.le_of_ble_eq_true rfl) hfit dX11_crowd_6 hF (fun r3 h2 hF => ?_)
  refine xg_astore_n (pc := 9) (lv2 := [(3, va_rf r3), (0, va_rf (some this)), (1, .int x1), (2, .int x2)]) C dX11_crowd_9 4 hnL (by decide) rfl ?_
  refine xg_aload_n (pc := 10) C dX11_crowd_10 0 rfl ?_
  refine xg_ifnull (pc := 11) 24 C dX11_crowd_11 (by decide) (fun hc => ?_) (fun a4 ha4 => ?_)
  · have hF := hF.1 hc
    refine xg_iconst (pc := 24) (v := (-1)) C dX11_crowd_24 (by decide) ?_
    obtain ⟨hfit, hF⟩ := hF
    exact xg_endI (pc := 25) C E hfit dX11_crowd_25 hF
  · have hF := hF.2 a4 ha4
    refine xg_iload_n (pc := 14) C dX11_crowd_14 3 rfl ?_
    refine xg_if_lt (pc := 15) 24 C dX11_crowd_15 (by decide) (fun hc => ?_) (fun hc => ?_)
    · have hF := hF.1 hc
      refine xg_iconst (pc := 24) (v := (-1)) C dX11_crowd_24 (by decide) ?_
      obtain ⟨hfit, hF⟩ := hF
      exact xg_endI (pc := 25) C E hfit dX11_crowd_25 hF
    · have hF := hF.2 hc
      refine xg_iload_n (pc := 18) C dX11_crowd_18 3 rfl ?_
      refine xg_bipush (pc := 19) (v := 30) C dX11_crowd_19 (by decide) ?_
      refine xg_icmp_le (pc := 21) 26 C dX11_crowd_21 (by decide) (fun hc => ?_) (fun hc => ?_)
      · have hF := hF.1 hc
        refine xg_aload_n (pc := 26) C dX11_crowd_26 1 rfl ?_
        refine xg_iload_n (pc := 27) C dX11_crowd_27 2 rfl ?_
        refine xg_aload_n (pc := 28) C dX11_crowd_28 0 rfl ?_
        obtain ⟨mc6, ms6, hfit, hF⟩ := hF
        refine xg_dvR (pc := 29) (C1 := RX11) (T1 := TX11) (ci := 11) C [.int x1, va_rf r3] rfl hthis (by decide) rfl (met_X11_bookOf mc6 ms6 Y this x1 r3) gX11_crowd_X11_bookOf rfl nd_X11_bookOf ⟨Nat.le_of_ble_eq_true rfl, Nat.le_of_ble_eq_true rfl⟩ rfl rfl (Nat.le_of_ble_eq_true rfl) hfit dX11_crowd_29 hF (fun r6 Y7 h8 hF => ?_)
        refine xg_iconst (pc := 32) (v := 1) C dX11_crowd_32 (by decide) ?_
        refine xg_iload_n (pc := 33) C dX11_crowd_33 3 rfl ?_
        refine xg_ishl (pc := 34) C dX11_crowd_34 ?_
        obtain ⟨a9, ha9, hka9, hF⟩ := hF
        obtain ⟨hfit, hF⟩ := hF
        refine xg_cvI (pc := 35) (C1 := RX1) (T1 := TX1) (ci := 1) C (fun zs => [.int (1 <<< (x2 &&& 31))]) ha9 hka9 (by decide) rfl (met_X1_rowsWithin Y7 a9 (1 <<< (x2 &&& 31))) gX11_crowd_X1_rowsWithin rfl ⟨rfl, rfl⟩ nd_X1_rowsWithin ⟨Nat.le_of_ble_eq_true rfl, Nat.le_of_ble_eq_true rfl⟩ rfl rfl (Nat.le_of_ble_eq_true rfl) hfit dX11_crowd_35 hF (fun r11 h10 hF => ?_)
        obtain ⟨hfit, hF⟩ := hF
        exact xg_endI (pc := 38) C E hfit dX11_crowd_38 hF
      · have hF := hF.2 hc
        refine xg_iconst (pc := 24) (v := (-1)) C dX11_crowd_24 (by decide) ?_
        obtain ⟨hfit, hF⟩ := hF
        exact xg_endI (pc := 25) C E hfit dX11_crowd_25 hF
def rm_X11_early (MC MS : Nat) : Room := { frames := 6, cells := MC, slots := MS, locals := 142 }
theorem nd_X11_early : yX11_early.cls = RX11 ∧ yX11_early.cls ≠ "java/lang/invoke/MethodHandle" ∧ yX11_early.cls ≠ "java/lang/invoke/VarHandle" ∧ (parseMethodDescriptor yX11_early.desc).map (fun d => d.parameters.length) = some 3 := by decide +kernel
theorem inm_X11_early_11 : ∀ w ∈ u_ws RX11 TX11 (xg_N 11), w ∈ wsX11_early := fun _ h9 => List.mem_cons_of_mem _ (List.mem_append_left _ (List.mem_append_left _ (List.mem_append_left _ (List.mem_append_left _ (List.mem_append_left _ (List.mem_append_left _ (List.mem_append_right _ h9)))))))
set_option maxHeartbeats 4000000 in
set_option maxRecDepth 100000 in
theorem met_X11_early (MC MS : Nat) (Y : xg_Y) (this : Nat) (x1 : Int32) (x2 : Int32) (x3 : Int32) : xg_NI yX11_early wsX11_early (rm_X11_early MC MS) Y [va_rf (some this), .int x1, .int x2, .int x3] (fun Q h => wp_X11_early MC MS Y Q this x1 x2 x3 h) := by
  refine xg_beginI (cc := cX11_early) (maxL := 6) (own := RX11) (by decide) rfl rfl (Nat.le_of_ble_eq_true rfl) (fun X Q h C hnL E hw => ?_)
  unfold wp_X11_early at hw
  obtain ⟨hthis, hw⟩ := hw
  refine xg_sub (lv2 := [(0, va_rf (some this)), (1, .int x1), (2, .int x2), (3, .int x3)]) [0, 1, 2, 3] rfl ?_
  have hF := hw
  refine xg_aload_n (pc := 0) C dX11_early_0 0 rfl ?_
  refine xg_getr (pc := 1) (C1 := RX11) (T1 := TX11) (ci := 11) (ref := "SandGlasses") C inm_X11_early_11 rfl (by decide) 0 (by decide) rfl dX11_early_1 (List.mem_of_getElem? (i := 1) rfl) rfl rfl hthis ?_
  refine xg_iconst (pc := 4) (v := 0) C dX11_early_4 (by decide) ?_
  refine xg_iload_n (pc := 5) C dX11_early_5 1 rfl ?_
  obtain ⟨a1, ha1, hka1, hF⟩ := hF
  obtain ⟨hfit, hF⟩ := hF
  refine xg_cvR (pc := 6) (C1 := RX9) (T1 := TX9) (ci := 9) C (fun zs => [.int 0, .int x1]) ha1 hka1 (by decide) rfl (met_X9_find Y a1 0 x1) gX11_early_X9_find rfl ⟨rfl, rfl⟩ nd_X9_find ⟨Nat.le_of_ble_eq_true rfl, Nat.le_of_ble_eq_true rfl⟩ rfl rfl (Nat.le_of_ble_eq_true rfl) hfit dX11_early_6 hF (fun r3 h2 hF => ?_)
  refine xg_astore (pc := 9) (lv2 := [(4, va_rf r3), (0, va_rf (some this)), (1, .int x1), (2, .int x2), (3, .int x3)]) C dX11_early_9 6 hnL (by decide) rfl ?_
  refine xg_aload (pc := 11) C dX11_early_11 0 rfl ?_
  refine xg_ifnull (pc := 13) 26 C dX11_early_13 (by decide) (fun hc => ?_) (fun a4 ha4 => ?_)
  · have hF := hF.1 hc
    refine xg_iconst (pc := 26) (v := (-1)) C dX11_early_26 (by decide) ?_
    obtain ⟨hfit, hF⟩ := hF
    exact xg_endI (pc := 27) C E hfit dX11_early_27 hF
  · have hF := hF.2 a4 ha4
    refine xg_iload_n (pc := 16) C dX11_early_16 3 rfl ?_
    refine xg_if_lt (pc := 17) 26 C dX11_early_17 (by decide) (fun hc => ?_) (fun hc => ?_)
    · have hF := hF.1 hc
      refine xg_iconst (pc := 26) (v := (-1)) C dX11_early_26 (by decide) ?_
      obtain ⟨hfit, hF⟩ := hF
      exact xg_endI (pc := 27) C E hfit dX11_early_27 hF
    · have hF := hF.2 hc
      refine xg_iload_n (pc := 20) C dX11_early_20 3 rfl ?_
      refine xg_bipush (pc := 21) (v := 20) C dX11_early_21 (by decide) ?_
      refine xg_icmp_le (pc := 23) 28 C dX11_early_23 (by decide) (fun hc => ?_) (fun hc => ?_)
      · have hF := hF.1 hc
        refine xg_aload_n (pc := 28) C dX11_early_28 1 rfl ?_
        refine xg_iload_n (pc := 29) C dX11_early_29 2 rfl ?_
        refine xg_aload (pc := 30) C dX11_early_30 0 rfl ?_
        obtain ⟨mc6, ms6, hfit, hF⟩ := hF
        refine xg_dvR (pc := 32) (C1 := RX11) (T1 := TX11) (ci := 11) C [.int x1, va_rf r3] rfl hthis (by decide) rfl (met_X11_bookOf mc6 ms6 Y this x1 r3) gX11_early_X11_bookOf rfl nd_X11_bookOf ⟨Nat.le_of_ble_eq_true rfl, Nat.le_of_ble_eq_true rfl⟩ rfl rfl (Nat.le_of_ble_eq_true rfl) hfit dX11_early_32 hF (fun r6 Y7 h8 hF => ?_)
        refine xg_iload_n (pc := 35) C dX11_early_35 3 rfl ?_
        obtain ⟨a9, ha9, hka9, hF⟩ := hF
        obtain ⟨hfit, hF⟩ := hF
        refine xg_cvI (pc := 36) (C1 := RX1) (T1 := TX1) (ci := 1) C (fun zs => [.int x2]) ha9 hka9 (by decide) rfl (met_X1_minutesOfEvent Y7 a9 x2) gX11_early_X1_minutesOfEvent rfl ⟨rfl, rfl⟩ nd_X1_minutesOfEvent ⟨Nat.le_of_ble_eq_true rfl, Nat.le_of_ble_eq_true rfl⟩ rfl rfl (Nat.le_of_ble_eq_true rfl) hfit dX11_early_36 hF (fun r11 h10 hF => ?_)
        refine xg_istore (pc := 39) (lv2 := [(5, .int r11), (4, va_rf r3), (0, va_rf (some this)), (1, .int x1), (2, .int x2), (3, .int x3)]) C dX11_early_39 6 hnL (by decide) (by cases r3 <;> rfl) ?_
        refine xg_iload_n (pc := 41) C dX11_early_41 5 rfl ?_
        refine xg_if_eq (pc := 42) 53 C dX11_early_42 (by decide) (fun hc => ?_) (fun hc => ?_)
        · have hF := hF.1 hc
          refine xg_iload (pc := 53) C dX11_early_53 0 rfl ?_
          obtain ⟨hfit, hF⟩ := hF
          refine xg_csI (pc := 55) C (fun zs => [.int r11]) (met_X11_lowest Y7 r11) gX11_early_X11_lowest rfl ⟨rfl, rfl⟩ nd_X11_lowest.2 ⟨Nat.le_of_ble_eq_true rfl, Nat.le_of_ble_eq_true rfl⟩ rfl rfl (Nat.le_of_ble_eq_true rfl) hfit dX11_early_55 hF (fun r13 h12 hF => ?_)
          obtain ⟨hfit, hF⟩ := hF
          exact xg_endI (pc := 58) C E hfit dX11_early_58 hF
        · have hF := hF.2 hc
          refine xg_iload (pc := 45) C dX11_early_45 0 rfl ?_
          obtain ⟨hfit, hF⟩ := hF
          refine xg_csI (pc := 47) C (fun zs => [.int r11]) (met_X11_highest Y7 r11) gX11_early_X11_highest rfl ⟨rfl, rfl⟩ nd_X11_highest.2 ⟨Nat.le_of_ble_eq_true rfl, Nat.le_of_ble_eq_true rfl⟩ rfl rfl (Nat.le_of_ble_eq_true rfl) hfit dX11_early_47 hF (fun r15 h14 hF => ?_)
          refine xg_goto (pc := 50) 58 C dX11_early_50 (by decide) ?_
          obtain ⟨hfit, hF⟩ := hF
          exact xg_endI (pc := 58) C E hfit dX11_early_58 hF
      · have hF := hF.2 hc
        refine xg_iconst (pc := 26) (v := (-1)) C dX11_early_26 (by decide) ?_
        obtain ⟨hfit, hF⟩ := hF
        exact xg_endI (pc := 27) C E hfit dX11_early_27 hF
def rm_X8_init (MC MS : Nat) : Room := { frames := 1, cells := MC, slots := MS, locals := 24 }
theorem nd_X8_init : yX8_init.cls = RX8 ∧ yX8_init.cls ≠ "java/lang/invoke/MethodHandle" ∧ yX8_init.cls ≠ "java/lang/invoke/VarHandle" ∧ (parseMethodDescriptor yX8_init.desc).map (fun d => d.parameters.length) = some 1 := by decide +kernel
theorem inm_X8_init_8 : ∀ w ∈ u_ws RX8 TX8 (xg_N 8), w ∈ wsX8_init := fun _ h9 => List.mem_cons_of_mem _ (List.mem_append_right _ h9)
set_option maxHeartbeats 4000000 in
set_option maxRecDepth 100000 in
theorem met_X8_init (MC MS : Nat) (Y : xg_Y) (this : Nat) (x1 : Int32) : xg_NV yX8_init wsX8_init (rm_X8_init MC MS) Y [va_rf (some this), .int x1] (fun Q h => wp_X8_init MC MS Y Q this x1 h) := by
  refine xg_beginV (cc := cX8_init) (maxL := 3) (own := RX8) (by decide) rfl rfl (Nat.le_of_ble_eq_true rfl) (fun X Q h C hnL E hI hw => ?_)
  unfold wp_X8_init at hw
  obtain ⟨hthis, hw⟩ := hw
  refine xg_sub (lv2 := [(0, va_rf (some this)), (1, .int x1)]) [0, 1] rfl ?_
  refine mg_use (hw (fun (s0 : Int32) (kc nc : Nat) (Yc : xg_Y) (h : xg_H) => xg_W X kc nc Yc 36 [] [.int s0, va_rf (some this)] h) ?_) (fun hF => ?_)
  · intro s0 kc nc Yc h hF
    obtain ⟨hng, hby, hc1, hn1, hF⟩ := hF
    refine xg_newi (pc := 36) C (List.mem_of_getElem? (i := 4) rfl) hng hby hc1 hn1 dX8_init_36 (fun q14 ca15 Y16 h17 hqq14 eY16 eh17 => ?_)
    have hF := hF q14 ca15 hqq14 Y16 eY16 h17 eh17
    obtain ⟨hk18, hF⟩ := hF
    refine xg_putrF (pc := 38) (C1 := RX8) (T1 := TX8) (ci := 8) (ref := "SandGlasses$Text") C inm_X8_init_8 rfl (by decide) tyX8 tyX8_ok nmX8 3 (by decide) rfl (ty1 := .array .int) (xg_rta _) dX8_init_38 (List.mem_of_getElem? (i := 7) rfl) rfl rfl (hI rfl) rfl (tyX8_ok 3 (by decide)) rfl hk18 (fun h19 eh19 => ?_)
    have hF := hF h19 eh19
    obtain ⟨hfit, hF⟩ := hF
    exact xg_endV (pc := 41) C E hfit dX8_init_41 hF
  · skip
    refine xg_aload_n (pc := 0) C dX8_init_0 0 rfl ?_
    refine xg_objinit (pc := 1) C rfl (List.mem_of_getElem? (i := 1) rfl) (List.mem_of_getElem? (i := 2) rfl) (List.mem_of_getElem? (i := 3) rfl) (Nat.le_of_ble_eq_true rfl) (Nat.le_of_ble_eq_true rfl) dX8_init_1 ?_
    refine xg_getsN (pc := 4) (ref := "SandGlasses") (host := "SandGlasses") C 0 (by decide) dX8_init_4 (by decide +kernel) rfl ?_
    refine xg_iload_n (pc := 7) C dX8_init_7 1 rfl ?_
    refine xg_iconst (pc := 8) (v := 3) C dX8_init_8 (by decide) ?_
    refine xg_iand (pc := 9) C dX8_init_9 ?_
    obtain ⟨hi, hF⟩ := hF
    refine xg_sld (pc := 10) C 0 (by decide) hi dX8_init_10 ?_
    refine xg_topi (pc := 11) (fun z1 ez1 => ?_)
    have hF := hF z1 ez1
    refine xg_istore_n (pc := 11) (lv2 := [(2, .int z1), (0, va_rf (some this)), (1, .int x1)]) C dX8_init_11 3 hnL (by decide) rfl ?_
    refine xg_aload_n (pc := 12) C dX8_init_12 1 rfl ?_
    refine xg_iload_n (pc := 13) C dX8_init_13 0 rfl ?_
    obtain ⟨hng, hby, hc1, hn1, hF⟩ := hF
    refine xg_newi (pc := 14) C (List.mem_of_getElem? (i := 4) rfl) hng hby hc1 hn1 dX8_init_14 (fun q2 ca3 Y4 h5 hqq2 eY4 eh5 => ?_)
    have hF := hF q2 ca3 hqq2 Y4 eY4 h5 eh5
    obtain ⟨hk6, hF⟩ := hF
    refine xg_putrF (pc := 16) (C1 := RX8) (T1 := TX8) (ci := 8) (ref := "SandGlasses$Text") C inm_X8_init_8 rfl (by decide) tyX8 tyX8_ok nmX8 1 (by decide) rfl (ty1 := .array .int) (xg_rta _) dX8_init_16 (List.mem_of_getElem? (i := 5) rfl) rfl rfl (hI rfl) rfl (tyX8_ok 1 (by decide)) rfl hk6 (fun h7 eh7 => ?_)
    have hF := hF h7 eh7
    refine xg_aload_n (pc := 19) C dX8_init_19 1 rfl ?_
    refine xg_iload_n (pc := 20) C dX8_init_20 0 rfl ?_
    obtain ⟨hng, hby, hc1, hn1, hF⟩ := hF
    refine xg_newi (pc := 21) C (List.mem_of_getElem? (i := 4) rfl) hng hby hc1 hn1 dX8_init_21 (fun q8 ca9 Y10 h11 hqq8 eY10 eh11 => ?_)
    have hF := hF q8 ca9 hqq8 Y10 eY10 h11 eh11
    obtain ⟨hk12, hF⟩ := hF
    refine xg_putrF (pc := 23) (C1 := RX8) (T1 := TX8) (ci := 8) (ref := "SandGlasses$Text") C inm_X8_init_8 rfl (by decide) tyX8 tyX8_ok nmX8 2 (by decide) rfl (ty1 := .array .int) (xg_rta _) dX8_init_23 (List.mem_of_getElem? (i := 6) rfl) rfl rfl (hI rfl) rfl (tyX8_ok 2 (by decide)) rfl hk12 (fun h13 eh13 => ?_)
    have hF := hF h13 eh13
    refine xg_aload_n (pc := 26) C dX8_init_26 1 rfl ?_
    refine xg_iload_n (pc := 27) C dX8_init_27 2 rfl ?_
    refine xg_if_ne (pc := 28) 35 C dX8_init_28 (by decide) (fun hc => ?_) (fun hc => ?_)
    · have hF := hF.1 hc
      refine xg_iconst (pc := 35) (v := 0) C dX8_init_35 (by decide) ?_
      refine xg_sub (lv2 := []) [] rfl ?_
      exact hF
    · have hF := hF.2 hc
      refine xg_iload_n (pc := 31) C dX8_init_31 0 rfl ?_
      refine xg_goto (pc := 32) 36 C dX8_init_32 (by decide) ?_
      refine xg_sub (lv2 := []) [] rfl ?_
      exact hF
def rm_X9_init (MC MS : Nat) : Room := { frames := 2, cells := MC, slots := MS, locals := 46 }
theorem nd_X9_init : yX9_init.cls = RX9 ∧ yX9_init.cls ≠ "java/lang/invoke/MethodHandle" ∧ yX9_init.cls ≠ "java/lang/invoke/VarHandle" ∧ (parseMethodDescriptor yX9_init.desc).map (fun d => d.parameters.length) = some 0 := by decide +kernel
theorem inm_X9_init_8 : ∀ w ∈ u_ws RX8 TX8 (xg_N 8), w ∈ wsX9_init := fun _ h9 => List.mem_cons_of_mem _ (List.mem_append_right _ h9)
theorem inm_X9_init_9 : ∀ w ∈ u_ws RX9 TX9 (xg_N 9), w ∈ wsX9_init := fun _ h9 => List.mem_cons_of_mem _ (List.mem_append_left _ (List.mem_append_right _ h9))
set_option maxHeartbeats 4000000 in
set_option maxRecDepth 100000 in
theorem met_X9_init (MC MS : Nat) (Y : xg_Y) (this : Nat) : xg_NV yX9_init wsX9_init (rm_X9_init MC MS) Y [va_rf (some this)] (fun Q h => wp_X9_init MC MS Y Q this h) := by
  refine xg_beginV (cc := cX9_init) (maxL := 2) (own := RX9) (by decide) rfl rfl (Nat.le_of_ble_eq_true rfl) (fun X Q h C hnL E hI hw => ?_)
  unfold wp_X9_init at hw
  obtain ⟨hthis, hw⟩ := hw
  refine xg_sub (lv2 := [(0, va_rf (some this))]) [0] rfl ?_
  refine mg_use (hw (fun (y1 : Int32) (kc nc : Nat) (Yc : xg_Y) (h : xg_H) => xg_W X kc nc Yc 36 [(0, va_rf (some this)), (1, .int y1)] [] h) ?_) (fun hF => ?_)
  · intro y1 kc nc Yc h hF
    refine xg_iload_n (pc := 36) C dX9_init_36 1 rfl ?_
    refine xg_aload_n (pc := 37) C dX9_init_37 0 rfl ?_
    obtain ⟨hk20, hF⟩ := hF
    refine xg_getr (pc := 38) (C1 := RX9) (T1 := TX9) (ci := 9) (ref := "SandGlasses$Told") C inm_X9_init_9 rfl (by decide) 5 (by decide) rfl dX9_init_38 (List.mem_of_getElem? (i := 9) rfl) rfl rfl hk20 ?_
    obtain ⟨a21, ha21, hka21, hF⟩ := hF
    refine xg_alen (pc := 41) (c9 := 27) C ha21 hka21 (by decide) dX9_init_41 ?_
    refine xg_icmp_ge (pc := 42) 67 C dX9_init_42 (by decide) (fun hc => ?_) (fun hc => ?_)
    · have hF := hF.1 hc
      obtain ⟨hfit, hF⟩ := hF
      exact xg_endV (pc := 67) C E hfit dX9_init_67 hF
    · have hF := hF.2 hc
      refine xg_aload_n (pc := 45) C dX9_init_45 0 rfl ?_
      refine xg_getr (pc := 46) (C1 := RX9) (T1 := TX9) (ci := 9) (ref := "SandGlasses$Told") C inm_X9_init_9 rfl (by decide) 5 (by decide) rfl dX9_init_46 (List.mem_of_getElem? (i := 9) rfl) rfl rfl hk20 ?_
      refine xg_iload_n (pc := 49) C dX9_init_49 1 rfl ?_
      obtain ⟨hc1, hn1, hF⟩ := hF
      refine xg_new (pc := 50) (C1 := RX8) (T1 := TX8) (ci := 8) C inm_X9_init_8 rfl (by decide) (List.mem_of_getElem? (i := 8) rfl) (List.mem_of_getElem? (i := 10) rfl) (List.mem_of_getElem? (i := 11) rfl) tyX8 tyX8_ok (by decide) hc1 hn1 dX9_init_50 (fun q22 Y23 h24 hqq22 eY23 eh24 => ?_)
      have hF := hF q22 hqq22 Y23 eY23 h24 eh24
      refine xg_dup (pc := 53) C dX9_init_53 (xg_rf_cat _) ?_
      refine xg_iload_n (pc := 54) C dX9_init_54 1 rfl ?_
      refine xg_iconst (pc := 55) (v := 2) C dX9_init_55 (by decide) ?_
      refine xg_idiv (pc := 56) C dX9_init_56 (by decide) ?_
      obtain ⟨mc25, ms25, hfit, hF⟩ := hF
      refine xg_diV (pc := 57) C [.int (y1 / 2)] rfl (List.mem_of_getElem? (i := 11) rfl) (List.mem_of_getElem? (i := 12) rfl) (List.mem_of_getElem? (i := 13) rfl) rfl (met_X8_init mc25 ms25 Y23 q22 (y1 / 2)) gX9_init_X8_init rfl nd_X8_init.2 ⟨Nat.le_of_ble_eq_true rfl, Nat.le_of_ble_eq_true rfl⟩ rfl rfl (by simp [xg_rf_cat, xg_cat_i, xg_cat_l, xg_cat_a]) hfit dX9_init_57 hF (fun Y26 h27 hF => ?_)
      obtain ⟨hk28, hF⟩ := hF
      obtain ⟨hk29, hF⟩ := hF
      obtain ⟨hi, hF⟩ := hF
      refine xg_aast (pc := 60) (c9 := 27) (ci := 8) (q9 := (RX8, TX8, xg_N 8)) C ha21 hk28 (by decide) rfl rfl hk29 (by decide) rfl hi dX9_init_60 (fun h30 eh30 => ?_)
      have hF := hF h30 eh30
      obtain ⟨z31, ez31⟩ : ∃ y : Int32, y = y1 + 1 := ⟨_, rfl⟩
      have hF := hF z31 ez31
      refine xg_iinc (pc := 61) (v := z31) (lv2 := [(1, .int z31), (0, va_rf (some this))]) C dX9_init_61 1 rfl (by rw [ez31]; rfl) 2 hnL (by decide) rfl ?_
      refine xg_goto (pc := 64) 36 C dX9_init_64 (by decide) ?_
      refine xg_sub (lv2 := [(0, va_rf (some this)), (1, .int z31)]) [1, 0] rfl ?_
      exact hF
  · skip
    refine xg_aload_n (pc := 0) C dX9_init_0 0 rfl ?_
    refine xg_objinit (pc := 1) C rfl (List.mem_of_getElem? (i := 1) rfl) (List.mem_of_getElem? (i := 2) rfl) (List.mem_of_getElem? (i := 3) rfl) (Nat.le_of_ble_eq_true rfl) (Nat.le_of_ble_eq_true rfl) dX9_init_1 ?_
    refine xg_aload_n (pc := 4) C dX9_init_4 0 rfl ?_
    refine xg_sipush (pc := 5) (v := 600) C dX9_init_5 (by decide) ?_
    obtain ⟨hng, hby, hc1, hn1, hF⟩ := hF
    refine xg_newi (pc := 8) C (List.mem_of_getElem? (i := 4) rfl) hng hby hc1 hn1 dX9_init_8 (fun q1 ca2 Y3 h4 hqq1 eY3 eh4 => ?_)
    have hF := hF q1 ca2 hqq1 Y3 eY3 h4 eh4
    obtain ⟨hk5, hF⟩ := hF
    refine xg_putrF (pc := 10) (C1 := RX9) (T1 := TX9) (ci := 9) (ref := "SandGlasses$Told") C inm_X9_init_9 rfl (by decide) tyX9 tyX9_ok nmX9 0 (by decide) rfl (ty1 := .array .int) (xg_rta _) dX9_init_10 (List.mem_of_getElem? (i := 5) rfl) rfl rfl (hI rfl) rfl (tyX9_ok 0 (by decide)) rfl hk5 (fun h6 eh6 => ?_)
    have hF := hF h6 eh6
    refine xg_aload_n (pc := 13) C dX9_init_13 0 rfl ?_
    refine xg_iconst (pc := 14) (v := (-1)) C dX9_init_14 (by decide) ?_
    refine xg_puti (pc := 15) (C1 := RX9) (T1 := TX9) (ci := 9) (ref := "SandGlasses$Told") C inm_X9_init_9 rfl (by decide) tyX9 tyX9_ok nmX9 3 (by decide) rfl dX9_init_15 (List.mem_of_getElem? (i := 6) rfl) rfl rfl (tyX9_ok 3 (by decide)) rfl hk5 (fun h7 eh7 => ?_)
    have hF := hF h7 eh7
    refine xg_aload_n (pc := 18) C dX9_init_18 0 rfl ?_
    refine xg_iconst (pc := 19) (v := 4) C dX9_init_19 (by decide) ?_
    obtain ⟨hng, hby, hc1, hn1, hF⟩ := hF
    refine xg_newi (pc := 20) C (List.mem_of_getElem? (i := 4) rfl) hng hby hc1 hn1 dX9_init_20 (fun q8 ca9 Y10 h11 hqq8 eY10 eh11 => ?_)
    have hF := hF q8 ca9 hqq8 Y10 eY10 h11 eh11
    obtain ⟨hk12, hF⟩ := hF
    refine xg_putrF (pc := 22) (C1 := RX9) (T1 := TX9) (ci := 9) (ref := "SandGlasses$Told") C inm_X9_init_9 rfl (by decide) tyX9 tyX9_ok nmX9 4 (by decide) rfl (ty1 := .array .int) (xg_rta _) dX9_init_22 (List.mem_of_getElem? (i := 7) rfl) rfl rfl (hI rfl) rfl (tyX9_ok 4 (by decide)) rfl hk12 (fun h13 eh13 => ?_)
    have hF := hF h13 eh13
    refine xg_aload_n (pc := 25) C dX9_init_25 0 rfl ?_
    refine xg_bipush (pc := 26) (v := 8) C dX9_init_26 (by decide) ?_
    obtain ⟨hng, hby, hc1, hn1, hF⟩ := hF
    refine xg_newq (pc := 28) (C1 := RX8) (c9 := 27) C (List.mem_of_getElem? (i := 8) rfl) (by decide +kernel) (by decide) rfl hng hby hc1 hn1 dX9_init_28 (fun q14 ca15 Y16 h17 hqq14 eY16 eh17 => ?_)
    have hF := hF q14 ca15 hqq14 Y16 eY16 h17 eh17
    obtain ⟨hk18, hF⟩ := hF
    refine xg_putrF (pc := 31) (C1 := RX9) (T1 := TX9) (ci := 9) (ref := "SandGlasses$Told") C inm_X9_init_9 rfl (by decide) tyX9 tyX9_ok nmX9 5 (by decide) rfl (ty1 := .array (.object "SandGlasses$Text")) (xg_rta _) dX9_init_31 (List.mem_of_getElem? (i := 9) rfl) rfl rfl (hI rfl) rfl (tyX9_ok 5 (by decide)) rfl hk18 (fun h19 eh19 => ?_)
    have hF := hF h19 eh19
    refine xg_iconst (pc := 34) (v := 0) C dX9_init_34 (by decide) ?_
    refine xg_istore_n (pc := 35) (lv2 := [(1, .int 0), (0, va_rf (some this))]) C dX9_init_35 2 hnL (by decide) rfl ?_
    refine xg_sub (lv2 := [(0, va_rf (some this)), (1, .int 0)]) [1, 0] rfl ?_
    exact hF
def rm_X11_image (MC MS : Nat) : Room := { frames := 3, cells := MC, slots := MS, locals := 103 }
theorem nd_X11_image : yX11_image.cls = RX11 ∧ yX11_image.cls ≠ "java/lang/invoke/MethodHandle" ∧ yX11_image.cls ≠ "java/lang/invoke/VarHandle" ∧ (parseMethodDescriptor yX11_image.desc).map (fun d => d.parameters.length) = some 1 := by decide +kernel
theorem inm_X11_image_9 : ∀ w ∈ u_ws RX9 TX9 (xg_N 9), w ∈ wsX11_image := fun _ h9 => List.mem_cons_of_mem _ (List.mem_append_left _ (List.mem_append_right _ h9))
theorem inm_X11_image_11 : ∀ w ∈ u_ws RX11 TX11 (xg_N 11), w ∈ wsX11_image := fun _ h9 => List.mem_cons_of_mem _ (List.mem_append_left _ (List.mem_append_left _ (List.mem_append_right _ h9)))
set_option maxHeartbeats 4000000 in
set_option maxRecDepth 100000 in
theorem met_X11_image (MC MS : Nat) (Y : xg_Y) (this : Nat) (x1 : Int32) : xg_NI yX11_image wsX11_image (rm_X11_image MC MS) Y [va_rf (some this), .int x1] (fun Q h => wp_X11_image MC MS Y Q this x1 h) := by
  refine xg_beginI (cc := cX11_image) (maxL := 2) (own := RX11) (by decide) rfl rfl (Nat.le_of_ble_eq_true rfl) (fun X Q h C hnL E hw => ?_)
  unfold wp_X11_image at hw
  obtain ⟨hthis, hw⟩ := hw
  refine xg_sub (lv2 := [(0, va_rf (some this)), (1, .int x1)]) [0, 1] rfl ?_
  refine mg_use (hw (fun (kc nc : Nat) (Yc : xg_Y) (h : xg_H) => xg_W X kc nc Yc 33 [(0, va_rf (some this)), (1, .int x1)] [] h) ?_) (fun hF => ?_)
  · intro kc nc Yc h hF
    refine xg_aload_n (pc := 33) C dX11_image_33 0 rfl ?_
    obtain ⟨hk12, hF⟩ := hF
    refine xg_getr (pc := 34) (C1 := RX11) (T1 := TX11) (ci := 11) (ref := "SandGlasses") C inm_X11_image_11 rfl (by decide) 1 (by decide) rfl dX11_image_34 (List.mem_of_getElem? (i := 1) rfl) rfl rfl hk12 ?_
    refine xg_iload_n (pc := 37) C dX11_image_37 1 rfl ?_
    obtain ⟨a13, ha13, hka13, hF⟩ := hF
    obtain ⟨hi, hF⟩ := hF
    refine xg_aald (pc := 38) (c9 := 28) (C9 := "SandGlasses$Told") C ha13 hka13 (by decide) rfl hi dX11_image_38 ?_
    refine xg_aload_n (pc := 39) C dX11_image_39 0 rfl ?_
    refine xg_getr (pc := 40) (C1 := RX11) (T1 := TX11) (ci := 11) (ref := "SandGlasses") C inm_X11_image_11 rfl (by decide) 0 (by decide) rfl dX11_image_40 (List.mem_of_getElem? (i := 5) rfl) rfl rfl hk12 ?_
    obtain ⟨a14, ha14, hka14, hF⟩ := hF
    obtain ⟨hfit, hF⟩ := hF
    refine xg_cvV (pc := 43) (C1 := RX9) (T1 := TX9) (ci := 9) C (fun zs => [va_rf (xg_o h this 0)]) ha14 hka14 (by decide) rfl (met_X9_become Yc a14 (xg_o h this 0)) gX11_image_X9_become rfl ⟨rfl, rfl⟩ nd_X9_become ⟨Nat.le_of_ble_eq_true rfl, Nat.le_of_ble_eq_true rfl⟩ rfl rfl (Nat.le_of_ble_eq_true rfl) hfit dX11_image_43 hF (fun h15 hF => ?_)
    refine xg_iconst (pc := 46) (v := 1) C dX11_image_46 (by decide) ?_
    obtain ⟨hfit, hF⟩ := hF
    exact xg_endZ (pc := 47) C E (Or.inr rfl) hfit dX11_image_47 hF
  · skip
    refine xg_iload_n (pc := 0) C dX11_image_0 1 rfl ?_
    refine xg_if_lt (pc := 1) 9 C dX11_image_1 (by decide) (fun hc => ?_) (fun hc => ?_)
    · have hF := hF.1 hc
      refine xg_iconst (pc := 9) (v := 0) C dX11_image_9 (by decide) ?_
      obtain ⟨hfit, hF⟩ := hF
      exact xg_endZ (pc := 10) C E (Or.inl rfl) hfit dX11_image_10 hF
    · have hF := hF.2 hc
      refine xg_iload_n (pc := 4) C dX11_image_4 1 rfl ?_
      refine xg_iconst (pc := 5) (v := 3) C dX11_image_5 (by decide) ?_
      refine xg_icmp_lt (pc := 6) 11 C dX11_image_6 (by decide) (fun hc => ?_) (fun hc => ?_)
      · have hF := hF.1 hc
        refine xg_aload_n (pc := 11) C dX11_image_11 0 rfl ?_
        refine xg_getr (pc := 12) (C1 := RX11) (T1 := TX11) (ci := 11) (ref := "SandGlasses") C inm_X11_image_11 rfl (by decide) 1 (by decide) rfl dX11_image_12 (List.mem_of_getElem? (i := 1) rfl) rfl rfl hthis ?_
        refine xg_iload_n (pc := 15) C dX11_image_15 1 rfl ?_
        obtain ⟨a1, ha1, hka1, hF⟩ := hF
        obtain ⟨hi, hF⟩ := hF
        refine xg_aald (pc := 16) (c9 := 28) (C9 := "SandGlasses$Told") C ha1 hka1 (by decide) rfl hi dX11_image_16 ?_
        refine xg_ifnonnull (pc := 17) 33 C dX11_image_17 (by decide) (fun a2 ha2 => ?_) (fun hc => ?_)
        · have hF := hF.2 a2 ha2
          exact hF
        · have hF := hF.1 hc
          refine xg_aload_n (pc := 20) C dX11_image_20 0 rfl ?_
          refine xg_getr (pc := 21) (C1 := RX11) (T1 := TX11) (ci := 11) (ref := "SandGlasses") C inm_X11_image_11 rfl (by decide) 1 (by decide) rfl dX11_image_21 (List.mem_of_getElem? (i := 1) rfl) rfl rfl hthis ?_
          refine xg_iload_n (pc := 24) C dX11_image_24 1 rfl ?_
          obtain ⟨hc1, hn1, hF⟩ := hF
          refine xg_new (pc := 25) (C1 := RX9) (T1 := TX9) (ci := 9) C inm_X11_image_9 rfl (by decide) (List.mem_of_getElem? (i := 2) rfl) (List.mem_of_getElem? (i := 3) rfl) (List.mem_of_getElem? (i := 4) rfl) tyX9 tyX9_ok (by decide) hc1 hn1 dX11_image_25 (fun q3 Y4 h5 hqq3 eY4 eh5 => ?_)
          have hF := hF q3 hqq3 Y4 eY4 h5 eh5
          refine xg_dup (pc := 28) C dX11_image_28 (xg_rf_cat _) ?_
          obtain ⟨mc6, ms6, hfit, hF⟩ := hF
          refine xg_diV (pc := 29) C [] rfl (List.mem_of_getElem? (i := 4) rfl) (List.mem_of_getElem? (i := 6) rfl) (List.mem_of_getElem? (i := 7) rfl) rfl (met_X9_init mc6 ms6 Y4 q3) gX11_image_X9_init rfl nd_X9_init.2 ⟨Nat.le_of_ble_eq_true rfl, Nat.le_of_ble_eq_true rfl⟩ rfl rfl (by simp [xg_rf_cat, xg_cat_i, xg_cat_l, xg_cat_a]) hfit dX11_image_29 hF (fun Y7 h8 hF => ?_)
          obtain ⟨hk9, hF⟩ := hF
          obtain ⟨hk10, hF⟩ := hF
          obtain ⟨hi, hF⟩ := hF
          refine xg_aast (pc := 32) (c9 := 28) (ci := 9) (q9 := (RX9, TX9, xg_N 9)) C ha1 hk9 (by decide) rfl rfl hk10 (by decide) rfl hi dX11_image_32 (fun h11 eh11 => ?_)
          have hF := hF h11 eh11
          exact hF
      · have hF := hF.2 hc
        refine xg_iconst (pc := 9) (v := 0) C dX11_image_9 (by decide) ?_
        obtain ⟨hfit, hF⟩ := hF
        exact xg_endZ (pc := 10) C E (Or.inl rfl) hfit dX11_image_10 hF
def rm_X6_init (MC MS : Nat) : Room := { frames := 2, cells := MC, slots := MS, locals := 46 }
theorem nd_X6_init : yX6_init.cls = RX6 ∧ yX6_init.cls ≠ "java/lang/invoke/MethodHandle" ∧ yX6_init.cls ≠ "java/lang/invoke/VarHandle" ∧ (parseMethodDescriptor yX6_init.desc).map (fun d => d.parameters.length) = some 0 := by decide +kernel
theorem inm_X6_init_6 : ∀ w ∈ u_ws RX6 TX6 (xg_N 6), w ∈ wsX6_init := fun _ h9 => List.mem_cons_of_mem _ (List.mem_append_left _ (List.mem_append_right _ h9))
theorem inm_X6_init_8 : ∀ w ∈ u_ws RX8 TX8 (xg_N 8), w ∈ wsX6_init := fun _ h9 => List.mem_cons_of_mem _ (List.mem_append_right _ h9)
set_option maxHeartbeats 4000000 in
set_option maxRecDepth 100000 in
theorem met_X6_init (MC MS : Nat) (Y : xg_Y) (this : Nat) : xg_NV yX6_init wsX6_init (rm_X6_init MC MS) Y [va_rf (some this)] (fun Q h => wp_X6_init MC MS Y Q this h) := by
  refine xg_beginV (cc := cX6_init) (maxL := 2) (own := RX6) (by decide) rfl rfl (Nat.le_of_ble_eq_true rfl) (fun X Q h C hnL E hI hw => ?_)
  unfold wp_X6_init at hw
  obtain ⟨hthis, hw⟩ := hw
  refine xg_sub (lv2 := [(0, va_rf (some this))]) [0] rfl ?_
  refine mg_use (hw (fun (y1 : Int32) (kc nc : Nat) (Yc : xg_Y) (h : xg_H) => xg_W X kc nc Yc 28 [(0, va_rf (some this)), (1, .int y1)] [] h) ?_) (fun hF => ?_)
  · intro y1 kc nc Yc h hF
    refine xg_iload_n (pc := 28) C dX6_init_28 1 rfl ?_
    refine xg_iconst (pc := 29) (v := 4) C dX6_init_29 (by decide) ?_
    refine xg_icmp_ge (pc := 30) 53 C dX6_init_30 (by decide) (fun hc => ?_) (fun hc => ?_)
    · have hF := hF.1 hc
      refine xg_aload_n (pc := 53) C dX6_init_53 0 rfl ?_
      refine xg_iconst (pc := 54) (v := 0) C dX6_init_54 (by decide) ?_
      obtain ⟨hng, hby, hc1, hn1, hF⟩ := hF
      refine xg_newi (pc := 55) C (List.mem_of_getElem? (i := 6) rfl) hng hby hc1 hn1 dX6_init_55 (fun q19 ca20 Y21 h22 hqq19 eY21 eh22 => ?_)
      have hF := hF q19 ca20 hqq19 Y21 eY21 h22 eh22
      obtain ⟨hk23, hF⟩ := hF
      refine xg_putr (pc := 57) (C1 := RX6) (T1 := TX6) (ci := 6) (ref := "SandGlasses$Reader") C inm_X6_init_6 rfl (by decide) tyX6 tyX6_ok nmX6 5 (by decide) rfl (ty1 := .array .int) (xg_rta _) dX6_init_57 (List.mem_of_getElem? (i := 11) rfl) rfl rfl (tyX6_ok 5 (by decide)) rfl hk23 (fun h24 eh24 => ?_)
      have hF := hF h24 eh24
      obtain ⟨hfit, hF⟩ := hF
      exact xg_endV (pc := 60) C E hfit dX6_init_60 hF
    · have hF := hF.2 hc
      refine xg_aload_n (pc := 33) C dX6_init_33 0 rfl ?_
      obtain ⟨hk25, hF⟩ := hF
      refine xg_getr (pc := 34) (C1 := RX6) (T1 := TX6) (ci := 6) (ref := "SandGlasses$Reader") C inm_X6_init_6 rfl (by decide) 2 (by decide) rfl dX6_init_34 (List.mem_of_getElem? (i := 5) rfl) rfl rfl hk25 ?_
      refine xg_iload_n (pc := 37) C dX6_init_37 1 rfl ?_
      obtain ⟨hc1, hn1, hF⟩ := hF
      refine xg_new (pc := 38) (C1 := RX8) (T1 := TX8) (ci := 8) C inm_X6_init_8 rfl (by decide) (List.mem_of_getElem? (i := 4) rfl) (List.mem_of_getElem? (i := 9) rfl) (List.mem_of_getElem? (i := 10) rfl) tyX8 tyX8_ok (by decide) hc1 hn1 dX6_init_38 (fun q26 Y27 h28 hqq26 eY27 eh28 => ?_)
      have hF := hF q26 hqq26 Y27 eY27 h28 eh28
      refine xg_dup (pc := 41) C dX6_init_41 (xg_rf_cat _) ?_
      refine xg_iload_n (pc := 42) C dX6_init_42 1 rfl ?_
      obtain ⟨mc29, ms29, hfit, hF⟩ := hF
      refine xg_diV (pc := 43) C [.int y1] rfl (List.mem_of_getElem? (i := 10) rfl) (List.mem_of_getElem? (i := 12) rfl) (List.mem_of_getElem? (i := 13) rfl) rfl (met_X8_init mc29 ms29 Y27 q26 y1) gX6_init_X8_init rfl nd_X8_init.2 ⟨Nat.le_of_ble_eq_true rfl, Nat.le_of_ble_eq_true rfl⟩ rfl rfl (by simp [xg_rf_cat, xg_cat_i, xg_cat_l, xg_cat_a]) hfit dX6_init_43 hF (fun Y30 h31 hF => ?_)
      obtain ⟨a32, ha32, hka32, hF⟩ := hF
      obtain ⟨hk33, hF⟩ := hF
      obtain ⟨hi, hF⟩ := hF
      refine xg_aast (pc := 46) (c9 := 27) (ci := 8) (q9 := (RX8, TX8, xg_N 8)) C ha32 hka32 (by decide) rfl rfl hk33 (by decide) rfl hi dX6_init_46 (fun h34 eh34 => ?_)
      have hF := hF h34 eh34
      obtain ⟨z35, ez35⟩ : ∃ y : Int32, y = y1 + 1 := ⟨_, rfl⟩
      have hF := hF z35 ez35
      refine xg_iinc (pc := 47) (v := z35) (lv2 := [(1, .int z35), (0, va_rf (some this))]) C dX6_init_47 1 rfl (by rw [ez35]; rfl) 2 hnL (by decide) rfl ?_
      refine xg_goto (pc := 50) 28 C dX6_init_50 (by decide) ?_
      refine xg_sub (lv2 := [(0, va_rf (some this)), (1, .int z35)]) [1, 0] rfl ?_
      exact hF
  · skip
    refine xg_aload_n (pc := 0) C dX6_init_0 0 rfl ?_
    refine xg_objinit (pc := 1) C rfl (List.mem_of_getElem? (i := 1) rfl) (List.mem_of_getElem? (i := 2) rfl) (List.mem_of_getElem? (i := 3) rfl) (Nat.le_of_ble_eq_true rfl) (Nat.le_of_ble_eq_true rfl) dX6_init_1 ?_
    refine xg_aload_n (pc := 4) C dX6_init_4 0 rfl ?_
    refine xg_iconst (pc := 5) (v := 4) C dX6_init_5 (by decide) ?_
    obtain ⟨hng, hby, hc1, hn1, hF⟩ := hF
    refine xg_newq (pc := 6) (C1 := RX8) (c9 := 27) C (List.mem_of_getElem? (i := 4) rfl) (by decide +kernel) (by decide) rfl hng hby hc1 hn1 dX6_init_6 (fun q1 ca2 Y3 h4 hqq1 eY3 eh4 => ?_)
    have hF := hF q1 ca2 hqq1 Y3 eY3 h4 eh4
    obtain ⟨hk5, hF⟩ := hF
    refine xg_putrF (pc := 9) (C1 := RX6) (T1 := TX6) (ci := 6) (ref := "SandGlasses$Reader") C inm_X6_init_6 rfl (by decide) tyX6 tyX6_ok nmX6 2 (by decide) rfl (ty1 := .array (.object "SandGlasses$Text")) (xg_rta _) dX6_init_9 (List.mem_of_getElem? (i := 5) rfl) rfl rfl (hI rfl) rfl (tyX6_ok 2 (by decide)) rfl hk5 (fun h6 eh6 => ?_)
    have hF := hF h6 eh6
    refine xg_aload_n (pc := 12) C dX6_init_12 0 rfl ?_
    refine xg_iconst (pc := 13) (v := 4) C dX6_init_13 (by decide) ?_
    obtain ⟨hng, hby, hc1, hn1, hF⟩ := hF
    refine xg_newi (pc := 14) C (List.mem_of_getElem? (i := 6) rfl) hng hby hc1 hn1 dX6_init_14 (fun q7 ca8 Y9 h10 hqq7 eY9 eh10 => ?_)
    have hF := hF q7 ca8 hqq7 Y9 eY9 h10 eh10
    obtain ⟨hk11, hF⟩ := hF
    refine xg_putrF (pc := 16) (C1 := RX6) (T1 := TX6) (ci := 6) (ref := "SandGlasses$Reader") C inm_X6_init_6 rfl (by decide) tyX6 tyX6_ok nmX6 3 (by decide) rfl (ty1 := .array .int) (xg_rta _) dX6_init_16 (List.mem_of_getElem? (i := 7) rfl) rfl rfl (hI rfl) rfl (tyX6_ok 3 (by decide)) rfl hk11 (fun h12 eh12 => ?_)
    have hF := hF h12 eh12
    refine xg_aload_n (pc := 19) C dX6_init_19 0 rfl ?_
    refine xg_iconst (pc := 20) (v := 2) C dX6_init_20 (by decide) ?_
    obtain ⟨hng, hby, hc1, hn1, hF⟩ := hF
    refine xg_newi (pc := 21) C (List.mem_of_getElem? (i := 6) rfl) hng hby hc1 hn1 dX6_init_21 (fun q13 ca14 Y15 h16 hqq13 eY15 eh16 => ?_)
    have hF := hF q13 ca14 hqq13 Y15 eY15 h16 eh16
    obtain ⟨hk17, hF⟩ := hF
    refine xg_putrF (pc := 23) (C1 := RX6) (T1 := TX6) (ci := 6) (ref := "SandGlasses$Reader") C inm_X6_init_6 rfl (by decide) tyX6 tyX6_ok nmX6 4 (by decide) rfl (ty1 := .array .int) (xg_rta _) dX6_init_23 (List.mem_of_getElem? (i := 8) rfl) rfl rfl (hI rfl) rfl (tyX6_ok 4 (by decide)) rfl hk17 (fun h18 eh18 => ?_)
    have hF := hF h18 eh18
    refine xg_iconst (pc := 26) (v := 0) C dX6_init_26 (by decide) ?_
    refine xg_istore_n (pc := 27) (lv2 := [(1, .int 0), (0, va_rf (some this))]) C dX6_init_27 2 hnL (by decide) rfl ?_
    refine xg_sub (lv2 := [(0, va_rf (some this)), (1, .int 0)]) [1, 0] rfl ?_
    exact hF
def rm_X2_init (MC MS : Nat) : Room := { frames := 2, cells := MC, slots := MS, locals := 44 }
theorem nd_X2_init : yX2_init.cls = RX2 ∧ yX2_init.cls ≠ "java/lang/invoke/MethodHandle" ∧ yX2_init.cls ≠ "java/lang/invoke/VarHandle" ∧ (parseMethodDescriptor yX2_init.desc).map (fun d => d.parameters.length) = some 0 := by decide +kernel
theorem inm_X2_init_2 : ∀ w ∈ u_ws RX2 TX2 (xg_N 2), w ∈ wsX2_init := fun _ h9 => List.mem_cons_of_mem _ (List.mem_append_right _ h9)
theorem inm_X2_init_5 : ∀ w ∈ u_ws RX5 TX5 (xg_N 5), w ∈ wsX2_init := fun _ h9 => List.mem_cons_of_mem _ (List.mem_append_left _ (List.mem_append_right _ h9))
set_option maxHeartbeats 4000000 in
set_option maxRecDepth 100000 in
theorem met_X2_init (MC MS : Nat) (Y : xg_Y) (this : Nat) : xg_NV yX2_init wsX2_init (rm_X2_init MC MS) Y [va_rf (some this)] (fun Q h => wp_X2_init MC MS Y Q this h) := by
  refine xg_beginV (cc := cX2_init) (maxL := 1) (own := RX2) (by decide) rfl rfl (Nat.le_of_ble_eq_true rfl) (fun X Q h C hnL E hI hw => ?_)
  unfold wp_X2_init at hw
  obtain ⟨hthis, hw⟩ := hw
  refine xg_sub (lv2 := [(0, va_rf (some this))]) [0] rfl ?_
  have hF := hw
  refine xg_aload_n (pc := 0) C dX2_init_0 0 rfl ?_
  refine xg_objinit (pc := 1) C rfl (List.mem_of_getElem? (i := 1) rfl) (List.mem_of_getElem? (i := 2) rfl) (List.mem_of_getElem? (i := 3) rfl) (Nat.le_of_ble_eq_true rfl) (Nat.le_of_ble_eq_true rfl) dX2_init_1 ?_
  refine xg_aload_n (pc := 4) C dX2_init_4 0 rfl ?_
  obtain ⟨hc1, hn1, hF⟩ := hF
  refine xg_new (pc := 5) (C1 := RX5) (T1 := TX5) (ci := 5) C inm_X2_init_5 rfl (by decide) (List.mem_of_getElem? (i := 4) rfl) (List.mem_of_getElem? (i := 5) rfl) (List.mem_of_getElem? (i := 6) rfl) tyX5 tyX5_ok (by decide) hc1 hn1 dX2_init_5 (fun q1 Y2 h3 hqq1 eY2 eh3 => ?_)
  have hF := hF q1 hqq1 Y2 eY2 h3 eh3
  refine xg_dup (pc := 8) C dX2_init_8 (xg_rf_cat _) ?_
  obtain ⟨mc4, ms4, hfit, hF⟩ := hF
  refine xg_djV (pc := 9) (host := "SandGlasses") C [] rfl (by decide +kernel) (List.mem_of_getElem? (i := 6) rfl) (List.mem_of_getElem? (i := 16) rfl) rfl (met_X5_init mc4 ms4 Y2 q1) gX2_init_X5_init_n11 rfl nd_X5_init.2 ⟨Nat.le_of_ble_eq_true rfl, Nat.le_of_ble_eq_true rfl⟩ rfl rfl (Nat.le_of_ble_eq_true rfl) hfit dX2_init_9 hF (fun Y5 h6 hF => ?_)
  obtain ⟨hk7, hF⟩ := hF
  refine xg_putrF (pc := 12) (C1 := RX2) (T1 := TX2) (ci := 2) (ref := "SandGlasses$Cloth") C inm_X2_init_2 rfl (by decide) tyX2 tyX2_ok nmX2 2 (by decide) rfl (ty1 := .object "SandGlasses$Glass") (xg_rt _) dX2_init_12 (List.mem_of_getElem? (i := 7) rfl) rfl rfl (hI rfl) rfl (tyX2_ok 2 (by decide)) rfl hk7 (fun h8 eh8 => ?_)
  have hF := hF h8 eh8
  refine xg_aload_n (pc := 15) C dX2_init_15 0 rfl ?_
  refine xg_iconst (pc := 16) (v := 4) C dX2_init_16 (by decide) ?_
  obtain ⟨hng, hby, hc1, hn1, hF⟩ := hF
  refine xg_newi (pc := 17) C (List.mem_of_getElem? (i := 8) rfl) hng hby hc1 hn1 dX2_init_17 (fun q9 ca10 Y11 h12 hqq9 eY11 eh12 => ?_)
  have hF := hF q9 ca10 hqq9 Y11 eY11 h12 eh12
  obtain ⟨hk13, hF⟩ := hF
  refine xg_putrF (pc := 19) (C1 := RX2) (T1 := TX2) (ci := 2) (ref := "SandGlasses$Cloth") C inm_X2_init_2 rfl (by decide) tyX2 tyX2_ok nmX2 3 (by decide) rfl (ty1 := .array .int) (xg_rta _) dX2_init_19 (List.mem_of_getElem? (i := 9) rfl) rfl rfl (hI rfl) rfl (tyX2_ok 3 (by decide)) rfl hk13 (fun h14 eh14 => ?_)
  have hF := hF h14 eh14
  refine xg_aload_n (pc := 22) C dX2_init_22 0 rfl ?_
  refine xg_bipush (pc := 23) (v := 32) C dX2_init_23 (by decide) ?_
  obtain ⟨hng, hby, hc1, hn1, hF⟩ := hF
  refine xg_newi (pc := 25) C (List.mem_of_getElem? (i := 8) rfl) hng hby hc1 hn1 dX2_init_25 (fun q15 ca16 Y17 h18 hqq15 eY17 eh18 => ?_)
  have hF := hF q15 ca16 hqq15 Y17 eY17 h18 eh18
  obtain ⟨hk19, hF⟩ := hF
  refine xg_putrF (pc := 27) (C1 := RX2) (T1 := TX2) (ci := 2) (ref := "SandGlasses$Cloth") C inm_X2_init_2 rfl (by decide) tyX2 tyX2_ok nmX2 4 (by decide) rfl (ty1 := .array .int) (xg_rta _) dX2_init_27 (List.mem_of_getElem? (i := 10) rfl) rfl rfl (hI rfl) rfl (tyX2_ok 4 (by decide)) rfl hk19 (fun h20 eh20 => ?_)
  have hF := hF h20 eh20
  refine xg_aload_n (pc := 30) C dX2_init_30 0 rfl ?_
  refine xg_sipush (pc := 31) (v := 1312) C dX2_init_31 (by decide) ?_
  obtain ⟨hng, hby, hc1, hn1, hF⟩ := hF
  refine xg_newl (pc := 34) C (List.mem_of_getElem? (i := 11) rfl) hng hby hc1 hn1 dX2_init_34 (fun q21 ca22 Y23 h24 hqq21 eY23 eh24 => ?_)
  have hF := hF q21 ca22 hqq21 Y23 eY23 h24 eh24
  obtain ⟨hk25, hF⟩ := hF
  refine xg_putrF (pc := 36) (C1 := RX2) (T1 := TX2) (ci := 2) (ref := "SandGlasses$Cloth") C inm_X2_init_2 rfl (by decide) tyX2 tyX2_ok nmX2 5 (by decide) rfl (ty1 := .array .long) (xg_rta _) dX2_init_36 (List.mem_of_getElem? (i := 12) rfl) rfl rfl (hI rfl) rfl (tyX2_ok 5 (by decide)) rfl hk25 (fun h26 eh26 => ?_)
  have hF := hF h26 eh26
  refine xg_aload_n (pc := 39) C dX2_init_39 0 rfl ?_
  refine xg_iconst (pc := 40) (v := 4) C dX2_init_40 (by decide) ?_
  obtain ⟨hng, hby, hc1, hn1, hF⟩ := hF
  refine xg_newi (pc := 41) C (List.mem_of_getElem? (i := 8) rfl) hng hby hc1 hn1 dX2_init_41 (fun q27 ca28 Y29 h30 hqq27 eY29 eh30 => ?_)
  have hF := hF q27 ca28 hqq27 Y29 eY29 h30 eh30
  obtain ⟨hk31, hF⟩ := hF
  refine xg_putrF (pc := 43) (C1 := RX2) (T1 := TX2) (ci := 2) (ref := "SandGlasses$Cloth") C inm_X2_init_2 rfl (by decide) tyX2 tyX2_ok nmX2 6 (by decide) rfl (ty1 := .array .int) (xg_rta _) dX2_init_43 (List.mem_of_getElem? (i := 13) rfl) rfl rfl (hI rfl) rfl (tyX2_ok 6 (by decide)) rfl hk31 (fun h32 eh32 => ?_)
  have hF := hF h32 eh32
  refine xg_aload_n (pc := 46) C dX2_init_46 0 rfl ?_
  refine xg_bipush (pc := 47) (v := 41) C dX2_init_47 (by decide) ?_
  obtain ⟨hng, hby, hc1, hn1, hF⟩ := hF
  refine xg_newi (pc := 49) C (List.mem_of_getElem? (i := 8) rfl) hng hby hc1 hn1 dX2_init_49 (fun q33 ca34 Y35 h36 hqq33 eY35 eh36 => ?_)
  have hF := hF q33 ca34 hqq33 Y35 eY35 h36 eh36
  obtain ⟨hk37, hF⟩ := hF
  refine xg_putrF (pc := 51) (C1 := RX2) (T1 := TX2) (ci := 2) (ref := "SandGlasses$Cloth") C inm_X2_init_2 rfl (by decide) tyX2 tyX2_ok nmX2 7 (by decide) rfl (ty1 := .array .int) (xg_rta _) dX2_init_51 (List.mem_of_getElem? (i := 14) rfl) rfl rfl (hI rfl) rfl (tyX2_ok 7 (by decide)) rfl hk37 (fun h38 eh38 => ?_)
  have hF := hF h38 eh38
  refine xg_aload_n (pc := 54) C dX2_init_54 0 rfl ?_
  refine xg_iconst (pc := 55) (v := 4) C dX2_init_55 (by decide) ?_
  obtain ⟨hng, hby, hc1, hn1, hF⟩ := hF
  refine xg_newl (pc := 56) C (List.mem_of_getElem? (i := 11) rfl) hng hby hc1 hn1 dX2_init_56 (fun q39 ca40 Y41 h42 hqq39 eY41 eh42 => ?_)
  have hF := hF q39 ca40 hqq39 Y41 eY41 h42 eh42
  obtain ⟨hk43, hF⟩ := hF
  refine xg_putrF (pc := 58) (C1 := RX2) (T1 := TX2) (ci := 2) (ref := "SandGlasses$Cloth") C inm_X2_init_2 rfl (by decide) tyX2 tyX2_ok nmX2 8 (by decide) rfl (ty1 := .array .long) (xg_rta _) dX2_init_58 (List.mem_of_getElem? (i := 15) rfl) rfl rfl (hI rfl) rfl (tyX2_ok 8 (by decide)) rfl hk43 (fun h44 eh44 => ?_)
  have hF := hF h44 eh44
  obtain ⟨hfit, hF⟩ := hF
  exact xg_endV (pc := 61) C E hfit dX2_init_61 hF
def rm_X7_init (MC MS : Nat) : Room := { frames := 1, cells := MC, slots := MS, locals := 24 }
theorem nd_X7_init : yX7_init.cls = RX7 ∧ yX7_init.cls ≠ "java/lang/invoke/MethodHandle" ∧ yX7_init.cls ≠ "java/lang/invoke/VarHandle" ∧ (parseMethodDescriptor yX7_init.desc).map (fun d => d.parameters.length) = some 0 := by decide +kernel
theorem inm_X7_init_7 : ∀ w ∈ u_ws RX7 TX7 (xg_N 7), w ∈ wsX7_init := fun _ h9 => List.mem_cons_of_mem _ (List.mem_append_right _ h9)
set_option maxHeartbeats 4000000 in
set_option maxRecDepth 100000 in
theorem met_X7_init (MC MS : Nat) (Y : xg_Y) (this : Nat) : xg_NV yX7_init wsX7_init (rm_X7_init MC MS) Y [va_rf (some this)] (fun Q h => wp_X7_init MC MS Y Q this h) := by
  refine xg_beginV (cc := cX7_init) (maxL := 1) (own := RX7) (by decide) rfl rfl (Nat.le_of_ble_eq_true rfl) (fun X Q h C hnL E hI hw => ?_)
  unfold wp_X7_init at hw
  obtain ⟨hthis, hw⟩ := hw
  refine xg_sub (lv2 := [(0, va_rf (some this))]) [0] rfl ?_
  have hF := hw
  refine xg_aload_n (pc := 0) C dX7_init_0 0 rfl ?_
  refine xg_objinit (pc := 1) C rfl (List.mem_of_getElem? (i := 1) rfl) (List.mem_of_getElem? (i := 2) rfl) (List.mem_of_getElem? (i := 3) rfl) (Nat.le_of_ble_eq_true rfl) (Nat.le_of_ble_eq_true rfl) dX7_init_1 ?_
  refine xg_aload_n (pc := 4) C dX7_init_4 0 rfl ?_
  refine xg_sipush (pc := 5) (v := 4096) C dX7_init_5 (by decide) ?_
  obtain ⟨hng, hby, hc1, hn1, hF⟩ := hF
  refine xg_newi (pc := 8) C (List.mem_of_getElem? (i := 4) rfl) hng hby hc1 hn1 dX7_init_8 (fun q1 ca2 Y3 h4 hqq1 eY3 eh4 => ?_)
  have hF := hF q1 ca2 hqq1 Y3 eY3 h4 eh4
  obtain ⟨hk5, hF⟩ := hF
  refine xg_putrF (pc := 10) (C1 := RX7) (T1 := TX7) (ci := 7) (ref := "SandGlasses$Steps") C inm_X7_init_7 rfl (by decide) tyX7 tyX7_ok nmX7 0 (by decide) rfl (ty1 := .array .int) (xg_rta _) dX7_init_10 (List.mem_of_getElem? (i := 5) rfl) rfl rfl (hI rfl) rfl (tyX7_ok 0 (by decide)) rfl hk5 (fun h6 eh6 => ?_)
  have hF := hF h6 eh6
  refine xg_aload_n (pc := 13) C dX7_init_13 0 rfl ?_
  refine xg_sipush (pc := 14) (v := 4096) C dX7_init_14 (by decide) ?_
  obtain ⟨hng, hby, hc1, hn1, hF⟩ := hF
  refine xg_newi (pc := 17) C (List.mem_of_getElem? (i := 4) rfl) hng hby hc1 hn1 dX7_init_17 (fun q7 ca8 Y9 h10 hqq7 eY9 eh10 => ?_)
  have hF := hF q7 ca8 hqq7 Y9 eY9 h10 eh10
  obtain ⟨hk11, hF⟩ := hF
  refine xg_putrF (pc := 19) (C1 := RX7) (T1 := TX7) (ci := 7) (ref := "SandGlasses$Steps") C inm_X7_init_7 rfl (by decide) tyX7 tyX7_ok nmX7 1 (by decide) rfl (ty1 := .array .int) (xg_rta _) dX7_init_19 (List.mem_of_getElem? (i := 6) rfl) rfl rfl (hI rfl) rfl (tyX7_ok 1 (by decide)) rfl hk11 (fun h12 eh12 => ?_)
  have hF := hF h12 eh12
  obtain ⟨hfit, hF⟩ := hF
  exact xg_endV (pc := 22) C E hfit dX7_init_22 hF
def rm_X4_init (MC MS : Nat) : Room := { frames := 1, cells := MC, slots := MS, locals := 24 }
theorem nd_X4_init : yX4_init.cls = RX4 ∧ yX4_init.cls ≠ "java/lang/invoke/MethodHandle" ∧ yX4_init.cls ≠ "java/lang/invoke/VarHandle" ∧ (parseMethodDescriptor yX4_init.desc).map (fun d => d.parameters.length) = some 1 := by decide +kernel
theorem inm_X4_init_4 : ∀ w ∈ u_ws RX4 TX4 (xg_N 4), w ∈ wsX4_init := fun _ h9 => List.mem_cons_of_mem _ (List.mem_append_right _ h9)
set_option maxHeartbeats 4000000 in
set_option maxRecDepth 100000 in
theorem met_X4_init (MC MS : Nat) (Y : xg_Y) (this : Nat) (x1 : Option Nat) : xg_NV yX4_init wsX4_init (rm_X4_init MC MS) Y [va_rf (some this), va_rf x1] (fun Q h => wp_X4_init MC MS Y Q this x1 h) := by
  refine xg_beginV (cc := cX4_init) (maxL := 2) (own := RX4) (by decide) rfl rfl (by cases x1 <;> exact Nat.le_of_ble_eq_true rfl) (fun X Q h C hnL E hI hw => ?_)
  unfold wp_X4_init at hw
  obtain ⟨hthis, hw⟩ := hw
  refine xg_sub (lv2 := [(0, va_rf (some this)), (1, va_rf x1)]) [0, 1] (by cases x1 <;> rfl) ?_
  have hF := hw
  refine xg_aload_n (pc := 0) C dX4_init_0 0 rfl ?_
  refine xg_objinit (pc := 1) C rfl (List.mem_of_getElem? (i := 1) rfl) (List.mem_of_getElem? (i := 2) rfl) (List.mem_of_getElem? (i := 3) rfl) (Nat.le_of_ble_eq_true rfl) (Nat.le_of_ble_eq_true rfl) dX4_init_1 ?_
  refine xg_aload_n (pc := 4) C dX4_init_4 0 rfl ?_
  refine xg_aload_n (pc := 5) C dX4_init_5 1 rfl ?_
  refine xg_putrF (pc := 6) (C1 := RX4) (T1 := TX4) (ci := 4) (ref := "SandGlasses$Game") C inm_X4_init_4 rfl (by decide) tyX4 tyX4_ok nmX4 3 (by decide) rfl (ty1 := .object "SandGlasses$Steps") (xg_rt _) dX4_init_6 (List.mem_of_getElem? (i := 4) rfl) rfl rfl (hI rfl) rfl (tyX4_ok 3 (by decide)) rfl hthis (fun h1 eh1 => ?_)
  have hF := hF h1 eh1
  obtain ⟨hfit, hF⟩ := hF
  exact xg_endV (pc := 9) C E hfit dX4_init_9 hF
def rm_X11_init (MC MS : Nat) : Room := { frames := 3, cells := MC, slots := MS, locals := 67 }
theorem nd_X11_init : yX11_init.cls = RX11 ∧ yX11_init.cls ≠ "java/lang/invoke/MethodHandle" ∧ yX11_init.cls ≠ "java/lang/invoke/VarHandle" ∧ (parseMethodDescriptor yX11_init.desc).map (fun d => d.parameters.length) = some 0 := by decide +kernel
theorem inm_X11_init_0 : ∀ w ∈ u_ws RX0 TX0 (xg_N 0), w ∈ wsX11_init := fun _ h9 => List.mem_cons_of_mem _ (List.mem_append_left _ (List.mem_append_left _ (List.mem_append_left _ (List.mem_append_left _ (List.mem_append_left _ (List.mem_append_right _ h9))))))
theorem inm_X11_init_2 : ∀ w ∈ u_ws RX2 TX2 (xg_N 2), w ∈ wsX11_init := fun _ h9 => List.mem_cons_of_mem _ (List.mem_append_left _ (List.mem_append_left _ (List.mem_append_left _ (List.mem_append_left _ (List.mem_append_right _ h9)))))
theorem inm_X11_init_4 : ∀ w ∈ u_ws RX4 TX4 (xg_N 4), w ∈ wsX11_init := fun _ h9 => List.mem_cons_of_mem _ (List.mem_append_left _ (List.mem_append_left _ (List.mem_append_right _ h9)))
theorem inm_X11_init_6 : ∀ w ∈ u_ws RX6 TX6 (xg_N 6), w ∈ wsX11_init := fun _ h9 => List.mem_cons_of_mem _ (List.mem_append_left _ (List.mem_append_left _ (List.mem_append_left _ (List.mem_append_left _ (List.mem_append_left _ (List.mem_append_left _ (List.mem_append_right _ h9)))))))
theorem inm_X11_init_7 : ∀ w ∈ u_ws RX7 TX7 (xg_N 7), w ∈ wsX11_init := fun _ h9 => List.mem_cons_of_mem _ (List.mem_append_left _ (List.mem_append_left _ (List.mem_append_left _ (List.mem_append_right _ h9))))
theorem inm_X11_init_9 : ∀ w ∈ u_ws RX9 TX9 (xg_N 9), w ∈ wsX11_init := fun _ h9 => List.mem_cons_of_mem _ (List.mem_append_left _ (List.mem_append_left _ (List.mem_append_left _ (List.mem_append_left _ (List.mem_append_left _ (List.mem_append_left _ (List.mem_append_left _ (List.mem_append_left _ (List.mem_append_right _ h9)))))))))
theorem inm_X11_init_11 : ∀ w ∈ u_ws RX11 TX11 (xg_N 11), w ∈ wsX11_init := fun _ h9 => List.mem_cons_of_mem _ (List.mem_append_left _ (List.mem_append_left _ (List.mem_append_left _ (List.mem_append_left _ (List.mem_append_left _ (List.mem_append_left _ (List.mem_append_left _ (List.mem_append_right _ h9))))))))
set_option maxHeartbeats 4000000 in
set_option maxRecDepth 100000 in
theorem met_X11_init (MC MS : Nat) (Y : xg_Y) (this : Nat) : xg_NV yX11_init wsX11_init (rm_X11_init MC MS) Y [va_rf (some this)] (fun Q h => wp_X11_init MC MS Y Q this h) := by
  refine xg_beginV (cc := cX11_init) (maxL := 1) (own := RX11) (by decide) rfl rfl (Nat.le_of_ble_eq_true rfl) (fun X Q h C hnL E hI hw => ?_)
  unfold wp_X11_init at hw
  obtain ⟨hthis, hw⟩ := hw
  refine xg_sub (lv2 := [(0, va_rf (some this))]) [0] rfl ?_
  have hF := hw
  refine xg_aload_n (pc := 0) C dX11_init_0 0 rfl ?_
  refine xg_objinit (pc := 1) C rfl (List.mem_of_getElem? (i := 1) rfl) (List.mem_of_getElem? (i := 2) rfl) (List.mem_of_getElem? (i := 3) rfl) (Nat.le_of_ble_eq_true rfl) (Nat.le_of_ble_eq_true rfl) dX11_init_1 ?_
  refine xg_aload_n (pc := 4) C dX11_init_4 0 rfl ?_
  obtain ⟨hc1, hn1, hF⟩ := hF
  refine xg_new (pc := 5) (C1 := RX9) (T1 := TX9) (ci := 9) C inm_X11_init_9 rfl (by decide) (List.mem_of_getElem? (i := 4) rfl) (List.mem_of_getElem? (i := 5) rfl) (List.mem_of_getElem? (i := 6) rfl) tyX9 tyX9_ok (by decide) hc1 hn1 dX11_init_5 (fun q1 Y2 h3 hqq1 eY2 eh3 => ?_)
  have hF := hF q1 hqq1 Y2 eY2 h3 eh3
  refine xg_dup (pc := 8) C dX11_init_8 (xg_rf_cat _) ?_
  obtain ⟨mc4, ms4, hfit, hF⟩ := hF
  refine xg_diV (pc := 9) C [] rfl (List.mem_of_getElem? (i := 6) rfl) (List.mem_of_getElem? (i := 31) rfl) (List.mem_of_getElem? (i := 32) rfl) rfl (met_X9_init mc4 ms4 Y2 q1) gX11_init_X9_init rfl nd_X9_init.2 ⟨Nat.le_of_ble_eq_true rfl, Nat.le_of_ble_eq_true rfl⟩ rfl rfl (Nat.le_of_ble_eq_true rfl) hfit dX11_init_9 hF (fun Y5 h6 hF => ?_)
  obtain ⟨hk7, hF⟩ := hF
  refine xg_putrF (pc := 12) (C1 := RX11) (T1 := TX11) (ci := 11) (ref := "SandGlasses") C inm_X11_init_11 rfl (by decide) tyX11 tyX11_ok nmX11 0 (by decide) rfl (ty1 := .object "SandGlasses$Told") (xg_rt _) dX11_init_12 (List.mem_of_getElem? (i := 7) rfl) rfl rfl (hI rfl) rfl (tyX11_ok 0 (by decide)) rfl hk7 (fun h8 eh8 => ?_)
  have hF := hF h8 eh8
  refine xg_aload_n (pc := 15) C dX11_init_15 0 rfl ?_
  refine xg_iconst (pc := 16) (v := 3) C dX11_init_16 (by decide) ?_
  obtain ⟨hng, hby, hc1, hn1, hF⟩ := hF
  refine xg_newq (pc := 17) (C1 := RX9) (c9 := 28) C (List.mem_of_getElem? (i := 4) rfl) (by decide +kernel) (by decide) rfl hng hby hc1 hn1 dX11_init_17 (fun q9 ca10 Y11 h12 hqq9 eY11 eh12 => ?_)
  have hF := hF q9 ca10 hqq9 Y11 eY11 h12 eh12
  obtain ⟨hk13, hF⟩ := hF
  refine xg_putrF (pc := 20) (C1 := RX11) (T1 := TX11) (ci := 11) (ref := "SandGlasses") C inm_X11_init_11 rfl (by decide) tyX11 tyX11_ok nmX11 1 (by decide) rfl (ty1 := .array (.object "SandGlasses$Told")) (xg_rta _) dX11_init_20 (List.mem_of_getElem? (i := 8) rfl) rfl rfl (hI rfl) rfl (tyX11_ok 1 (by decide)) rfl hk13 (fun h14 eh14 => ?_)
  have hF := hF h14 eh14
  refine xg_aload_n (pc := 23) C dX11_init_23 0 rfl ?_
  obtain ⟨hc1, hn1, hF⟩ := hF
  refine xg_new (pc := 24) (C1 := RX6) (T1 := TX6) (ci := 6) C inm_X11_init_6 rfl (by decide) (List.mem_of_getElem? (i := 9) rfl) (List.mem_of_getElem? (i := 10) rfl) (List.mem_of_getElem? (i := 11) rfl) tyX6 tyX6_ok (by decide) hc1 hn1 dX11_init_24 (fun q15 Y16 h17 hqq15 eY16 eh17 => ?_)
  have hF := hF q15 hqq15 Y16 eY16 h17 eh17
  refine xg_dup (pc := 27) C dX11_init_27 (xg_rf_cat _) ?_
  obtain ⟨mc18, ms18, hfit, hF⟩ := hF
  refine xg_diV (pc := 28) C [] rfl (List.mem_of_getElem? (i := 11) rfl) (List.mem_of_getElem? (i := 50) rfl) (List.mem_of_getElem? (i := 51) rfl) rfl (met_X6_init mc18 ms18 Y16 q15) gX11_init_X6_init rfl nd_X6_init.2 ⟨Nat.le_of_ble_eq_true rfl, Nat.le_of_ble_eq_true rfl⟩ rfl rfl (Nat.le_of_ble_eq_true rfl) hfit dX11_init_28 hF (fun Y19 h20 hF => ?_)
  obtain ⟨hk21, hF⟩ := hF
  refine xg_putrF (pc := 31) (C1 := RX11) (T1 := TX11) (ci := 11) (ref := "SandGlasses") C inm_X11_init_11 rfl (by decide) tyX11 tyX11_ok nmX11 2 (by decide) rfl (ty1 := .object "SandGlasses$Reader") (xg_rt _) dX11_init_31 (List.mem_of_getElem? (i := 12) rfl) rfl rfl (hI rfl) rfl (tyX11_ok 2 (by decide)) rfl hk21 (fun h22 eh22 => ?_)
  have hF := hF h22 eh22
  refine xg_aload_n (pc := 34) C dX11_init_34 0 rfl ?_
  obtain ⟨hc1, hn1, hF⟩ := hF
  refine xg_new (pc := 35) (C1 := RX0) (T1 := TX0) (ci := 0) C inm_X11_init_0 rfl (by decide) (List.mem_of_getElem? (i := 13) rfl) (List.mem_of_getElem? (i := 14) rfl) (List.mem_of_getElem? (i := 15) rfl) tyX0 tyX0_ok (by decide) hc1 hn1 dX11_init_35 (fun q23 Y24 h25 hqq23 eY24 eh25 => ?_)
  have hF := hF q23 hqq23 Y24 eY24 h25 eh25
  refine xg_dup (pc := 38) C dX11_init_38 (xg_rf_cat _) ?_
  obtain ⟨mc26, ms26, hfit, hF⟩ := hF
  refine xg_diV (pc := 39) C [] rfl (List.mem_of_getElem? (i := 15) rfl) (List.mem_of_getElem? (i := 60) rfl) (List.mem_of_getElem? (i := 61) rfl) rfl (met_X0_init mc26 ms26 Y24 q23) gX11_init_X0_init rfl nd_X0_init.2 ⟨Nat.le_of_ble_eq_true rfl, Nat.le_of_ble_eq_true rfl⟩ rfl rfl (Nat.le_of_ble_eq_true rfl) hfit dX11_init_39 hF (fun Y27 h28 hF => ?_)
  obtain ⟨hk29, hF⟩ := hF
  refine xg_putrF (pc := 42) (C1 := RX11) (T1 := TX11) (ci := 11) (ref := "SandGlasses") C inm_X11_init_11 rfl (by decide) tyX11 tyX11_ok nmX11 3 (by decide) rfl (ty1 := .object "SandGlasses$Bench") (xg_rt _) dX11_init_42 (List.mem_of_getElem? (i := 16) rfl) rfl rfl (hI rfl) rfl (tyX11_ok 3 (by decide)) rfl hk29 (fun h30 eh30 => ?_)
  have hF := hF h30 eh30
  refine xg_aload_n (pc := 45) C dX11_init_45 0 rfl ?_
  obtain ⟨hc1, hn1, hF⟩ := hF
  refine xg_new (pc := 46) (C1 := RX2) (T1 := TX2) (ci := 2) C inm_X11_init_2 rfl (by decide) (List.mem_of_getElem? (i := 17) rfl) (List.mem_of_getElem? (i := 18) rfl) (List.mem_of_getElem? (i := 19) rfl) tyX2 tyX2_ok (by decide) hc1 hn1 dX11_init_46 (fun q31 Y32 h33 hqq31 eY32 eh33 => ?_)
  have hF := hF q31 hqq31 Y32 eY32 h33 eh33
  refine xg_dup (pc := 49) C dX11_init_49 (xg_rf_cat _) ?_
  obtain ⟨mc34, ms34, hfit, hF⟩ := hF
  refine xg_djV (pc := 50) (host := "SandGlasses") C [] rfl (by decide +kernel) (List.mem_of_getElem? (i := 19) rfl) (List.mem_of_getElem? (i := 71) rfl) rfl (met_X2_init mc34 ms34 Y32 q31) gX11_init_X2_init_n36 rfl nd_X2_init.2 ⟨Nat.le_of_ble_eq_true rfl, Nat.le_of_ble_eq_true rfl⟩ rfl rfl (Nat.le_of_ble_eq_true rfl) hfit dX11_init_50 hF (fun Y35 h36 hF => ?_)
  obtain ⟨hk37, hF⟩ := hF
  refine xg_putrF (pc := 53) (C1 := RX11) (T1 := TX11) (ci := 11) (ref := "SandGlasses") C inm_X11_init_11 rfl (by decide) tyX11 tyX11_ok nmX11 4 (by decide) rfl (ty1 := .object "SandGlasses$Cloth") (xg_rt _) dX11_init_53 (List.mem_of_getElem? (i := 20) rfl) rfl rfl (hI rfl) rfl (tyX11_ok 4 (by decide)) rfl hk37 (fun h38 eh38 => ?_)
  have hF := hF h38 eh38
  refine xg_aload_n (pc := 56) C dX11_init_56 0 rfl ?_
  obtain ⟨hc1, hn1, hF⟩ := hF
  refine xg_new (pc := 57) (C1 := RX7) (T1 := TX7) (ci := 7) C inm_X11_init_7 rfl (by decide) (List.mem_of_getElem? (i := 21) rfl) (List.mem_of_getElem? (i := 22) rfl) (List.mem_of_getElem? (i := 23) rfl) tyX7 tyX7_ok (by decide) hc1 hn1 dX11_init_57 (fun q39 Y40 h41 hqq39 eY40 eh41 => ?_)
  have hF := hF q39 hqq39 Y40 eY40 h41 eh41
  refine xg_dup (pc := 60) C dX11_init_60 (xg_rf_cat _) ?_
  obtain ⟨mc42, ms42, hfit, hF⟩ := hF
  refine xg_djV (pc := 61) (host := "SandGlasses") C [] rfl (by decide +kernel) (List.mem_of_getElem? (i := 23) rfl) (List.mem_of_getElem? (i := 83) rfl) rfl (met_X7_init mc42 ms42 Y40 q39) gX11_init_X7_init_n43 rfl nd_X7_init.2 ⟨Nat.le_of_ble_eq_true rfl, Nat.le_of_ble_eq_true rfl⟩ rfl rfl (Nat.le_of_ble_eq_true rfl) hfit dX11_init_61 hF (fun Y43 h44 hF => ?_)
  obtain ⟨hk45, hF⟩ := hF
  refine xg_putrF (pc := 64) (C1 := RX11) (T1 := TX11) (ci := 11) (ref := "SandGlasses") C inm_X11_init_11 rfl (by decide) tyX11 tyX11_ok nmX11 5 (by decide) rfl (ty1 := .object "SandGlasses$Steps") (xg_rt _) dX11_init_64 (List.mem_of_getElem? (i := 24) rfl) rfl rfl (hI rfl) rfl (tyX11_ok 5 (by decide)) rfl hk45 (fun h46 eh46 => ?_)
  have hF := hF h46 eh46
  refine xg_aload_n (pc := 67) C dX11_init_67 0 rfl ?_
  obtain ⟨hc1, hn1, hF⟩ := hF
  refine xg_new (pc := 68) (C1 := RX4) (T1 := TX4) (ci := 4) C inm_X11_init_4 rfl (by decide) (List.mem_of_getElem? (i := 25) rfl) (List.mem_of_getElem? (i := 26) rfl) (List.mem_of_getElem? (i := 27) rfl) tyX4 tyX4_ok (by decide) hc1 hn1 dX11_init_68 (fun q47 Y48 h49 hqq47 eY48 eh49 => ?_)
  have hF := hF q47 hqq47 Y48 eY48 h49 eh49
  refine xg_dup (pc := 71) C dX11_init_71 (xg_rf_cat _) ?_
  refine xg_aload_n (pc := 72) C dX11_init_72 0 rfl ?_
  obtain ⟨hk50, hF⟩ := hF
  refine xg_getr (pc := 73) (C1 := RX11) (T1 := TX11) (ci := 11) (ref := "SandGlasses") C inm_X11_init_11 rfl (by decide) 5 (by decide) rfl dX11_init_73 (List.mem_of_getElem? (i := 24) rfl) rfl rfl hk50 ?_
  obtain ⟨mc51, ms51, hfit, hF⟩ := hF
  refine xg_diV (pc := 76) C [va_rf (xg_o h49 this 5)] rfl (List.mem_of_getElem? (i := 27) rfl) (List.mem_of_getElem? (i := 88) rfl) (List.mem_of_getElem? (i := 89) rfl) rfl (met_X4_init mc51 ms51 Y48 q47 (xg_o h49 this 5)) gX11_init_X4_init rfl nd_X4_init.2 ⟨Nat.le_of_ble_eq_true rfl, Nat.le_of_ble_eq_true rfl⟩ rfl rfl (Nat.le_of_ble_eq_true rfl) hfit dX11_init_76 hF (fun Y52 h53 hF => ?_)
  obtain ⟨hk54, hF⟩ := hF
  refine xg_putrF (pc := 79) (C1 := RX11) (T1 := TX11) (ci := 11) (ref := "SandGlasses") C inm_X11_init_11 rfl (by decide) tyX11 tyX11_ok nmX11 6 (by decide) rfl (ty1 := .object "SandGlasses$Game") (xg_rt _) dX11_init_79 (List.mem_of_getElem? (i := 28) rfl) rfl rfl (hI rfl) rfl (tyX11_ok 6 (by decide)) rfl hk54 (fun h55 eh55 => ?_)
  have hF := hF h55 eh55
  refine xg_aload_n (pc := 82) C dX11_init_82 0 rfl ?_
  refine xg_iconst (pc := 83) (v := 2) C dX11_init_83 (by decide) ?_
  obtain ⟨hng, hby, hc1, hn1, hF⟩ := hF
  refine xg_newq (pc := 84) (C1 := RX1) (c9 := 25) C (List.mem_of_getElem? (i := 29) rfl) (by decide +kernel) (by decide) rfl hng hby hc1 hn1 dX11_init_84 (fun q56 ca57 Y58 h59 hqq56 eY58 eh59 => ?_)
  have hF := hF q56 ca57 hqq56 Y58 eY58 h59 eh59
  obtain ⟨hk60, hF⟩ := hF
  refine xg_putrF (pc := 87) (C1 := RX11) (T1 := TX11) (ci := 11) (ref := "SandGlasses") C inm_X11_init_11 rfl (by decide) tyX11 tyX11_ok nmX11 7 (by decide) rfl (ty1 := .array (.object "SandGlasses$Book")) (xg_rta _) dX11_init_87 (List.mem_of_getElem? (i := 30) rfl) rfl rfl (hI rfl) rfl (tyX11_ok 7 (by decide)) rfl hk60 (fun h61 eh61 => ?_)
  have hF := hF h61 eh61
  obtain ⟨hfit, hF⟩ := hF
  exact xg_endV (pc := 90) C E hfit dX11_init_90 hF
def rm_X11_luck (MC MS : Nat) : Room := { frames := 6, cells := MC, slots := MS, locals := 142 }
theorem nd_X11_luck : yX11_luck.cls = RX11 ∧ yX11_luck.cls ≠ "java/lang/invoke/MethodHandle" ∧ yX11_luck.cls ≠ "java/lang/invoke/VarHandle" ∧ (parseMethodDescriptor yX11_luck.desc).map (fun d => d.parameters.length) = some 3 := by decide +kernel
theorem inm_X11_luck_8 : ∀ w ∈ u_ws RX8 TX8 (xg_N 8), w ∈ wsX11_luck := fun _ h9 => List.mem_cons_of_mem _ (List.mem_append_left _ (List.mem_append_left _ (List.mem_append_left _ (List.mem_append_left _ (List.mem_append_left _ (List.mem_append_right _ h9))))))
theorem inm_X11_luck_11 : ∀ w ∈ u_ws RX11 TX11 (xg_N 11), w ∈ wsX11_luck := fun _ h9 => List.mem_cons_of_mem _ (List.mem_append_left _ (List.mem_append_left _ (List.mem_append_left _ (List.mem_append_left _ (List.mem_append_left _ (List.mem_append_left _ (List.mem_append_right _ h9)))))))
set_option maxHeartbeats 4000000 in
set_option maxRecDepth 100000 in
theorem met_X11_luck (MC MS : Nat) (Y : xg_Y) (this : Nat) (x1 : Int32) (x2 : Int32) (x3 : Int32) : xg_NL yX11_luck wsX11_luck (rm_X11_luck MC MS) Y [va_rf (some this), .int x1, .int x2, .int x3] (fun Q h => wp_X11_luck MC MS Y Q this x1 x2 x3 h) := by
  refine xg_beginL (cc := cX11_luck) (maxL := 11) (own := RX11) (by decide) rfl rfl (Nat.le_of_ble_eq_true rfl) (fun X Q h C hnL E hw => ?_)
  unfold wp_X11_luck at hw
  obtain ⟨hthis, hw⟩ := hw
  refine xg_sub (lv2 := [(0, va_rf (some this)), (1, .int x1), (2, .int x2), (3, .int x3)]) [0, 1, 2, 3] rfl ?_
  refine mg_use (hw (fun (y9 : Int64) (s0 : Int64) (kc nc : Nat) (Yc : xg_Y) (h : xg_H) => xg_W X kc nc Yc 75 [(9, .long y9)] [.long s0] h) ?_) (fun hF => ?_)
  · intro y9 s0 kc nc Yc h hF
    refine xg_lconst (pc := 75) (v := 1) C dX11_luck_75 (by decide) ?_
    refine xg_lload (pc := 76) C dX11_luck_76 0 rfl ?_
    obtain ⟨hfit, hF⟩ := hF
    refine xg_mmaxl (pc := 78) C (List.mem_of_getElem? (i := 4) rfl) (List.mem_of_getElem? (i := 5) rfl) (List.mem_of_getElem? (i := 6) rfl) (List.mem_of_getElem? (i := 7) rfl) (Nat.le_of_ble_eq_true rfl) (Nat.le_of_ble_eq_true rfl) hfit.1 hfit.2 dX11_luck_78 ?_
    refine xg_topl (pc := 81) (fun z16 ez16 => ?_)
    have hF := hF z16 ez16
    obtain ⟨hne, hF⟩ := hF
    refine xg_ldiv (pc := 81) C dX11_luck_81 hne ?_
    obtain ⟨hfit, hF⟩ := hF
    exact xg_endL (pc := 82) C E hfit dX11_luck_82 hF
  · skip
    refine xg_aload_n (pc := 0) C dX11_luck_0 0 rfl ?_
    refine xg_getr (pc := 1) (C1 := RX11) (T1 := TX11) (ci := 11) (ref := "SandGlasses") C inm_X11_luck_11 rfl (by decide) 0 (by decide) rfl dX11_luck_1 (List.mem_of_getElem? (i := 1) rfl) rfl rfl hthis ?_
    refine xg_iconst (pc := 4) (v := 0) C dX11_luck_4 (by decide) ?_
    refine xg_iload_n (pc := 5) C dX11_luck_5 1 rfl ?_
    obtain ⟨a1, ha1, hka1, hF⟩ := hF
    obtain ⟨hfit, hF⟩ := hF
    refine xg_cvR (pc := 6) (C1 := RX9) (T1 := TX9) (ci := 9) C (fun zs => [.int 0, .int x1]) ha1 hka1 (by decide) rfl (met_X9_find Y a1 0 x1) gX11_luck_X9_find rfl ⟨rfl, rfl⟩ nd_X9_find ⟨Nat.le_of_ble_eq_true rfl, Nat.le_of_ble_eq_true rfl⟩ rfl rfl (Nat.le_of_ble_eq_true rfl) hfit dX11_luck_6 hF (fun r3 h2 hF => ?_)
    refine xg_astore (pc := 9) (lv2 := [(4, va_rf r3), (0, va_rf (some this)), (1, .int x1), (2, .int x2), (3, .int x3)]) C dX11_luck_9 11 hnL (by decide) rfl ?_
    refine xg_aload (pc := 11) C dX11_luck_11 0 rfl ?_
    refine xg_ifnull (pc := 13) 27 C dX11_luck_13 (by decide) (fun hc => ?_) (fun a4 ha4 => ?_)
    · have hF := hF.1 hc
      refine xg_ldc2 (pc := 27) (v := (-1)) C dX11_luck_27 (List.mem_of_getElem? (i := 2) rfl) ?_
      obtain ⟨hfit, hF⟩ := hF
      exact xg_endL (pc := 30) C E hfit dX11_luck_30 hF
    · have hF := hF.2 a4 ha4
      refine xg_iload_n (pc := 16) C dX11_luck_16 3 rfl ?_
      refine xg_iconst (pc := 17) (v := 1) C dX11_luck_17 (by decide) ?_
      refine xg_icmp_lt (pc := 18) 27 C dX11_luck_18 (by decide) (fun hc => ?_) (fun hc => ?_)
      · have hF := hF.1 hc
        refine xg_ldc2 (pc := 27) (v := (-1)) C dX11_luck_27 (List.mem_of_getElem? (i := 2) rfl) ?_
        obtain ⟨hfit, hF⟩ := hF
        exact xg_endL (pc := 30) C E hfit dX11_luck_30 hF
      · have hF := hF.2 hc
        refine xg_iload_n (pc := 21) C dX11_luck_21 3 rfl ?_
        refine xg_bipush (pc := 22) (v := 10) C dX11_luck_22 (by decide) ?_
        refine xg_icmp_le (pc := 24) 31 C dX11_luck_24 (by decide) (fun hc => ?_) (fun hc => ?_)
        · have hF := hF.1 hc
          refine xg_aload_n (pc := 31) C dX11_luck_31 1 rfl ?_
          refine xg_iload_n (pc := 32) C dX11_luck_32 2 rfl ?_
          refine xg_aload (pc := 33) C dX11_luck_33 0 rfl ?_
          obtain ⟨mc6, ms6, hfit, hF⟩ := hF
          refine xg_dvR (pc := 35) (C1 := RX11) (T1 := TX11) (ci := 11) C [.int x1, va_rf r3] rfl hthis (by decide) rfl (met_X11_bookOf mc6 ms6 Y this x1 r3) gX11_luck_X11_bookOf rfl nd_X11_bookOf ⟨Nat.le_of_ble_eq_true rfl, Nat.le_of_ble_eq_true rfl⟩ rfl rfl (Nat.le_of_ble_eq_true rfl) hfit dX11_luck_35 hF (fun r6 Y7 h8 hF => ?_)
          refine xg_iload_n (pc := 38) C dX11_luck_38 3 rfl ?_
          obtain ⟨a9, ha9, hka9, hF⟩ := hF
          obtain ⟨hfit, hF⟩ := hF
          refine xg_cvL (pc := 39) (C1 := RX1) (T1 := TX1) (ci := 1) C (fun zs => [.int x2]) ha9 hka9 (by decide) rfl (met_X1_luckOver Y7 a9 x2) gX11_luck_X1_luckOver rfl ⟨rfl, rfl⟩ nd_X1_luckOver ⟨Nat.le_of_ble_eq_true rfl, Nat.le_of_ble_eq_true rfl⟩ rfl rfl (Nat.le_of_ble_eq_true rfl) hfit dX11_luck_39 hF (fun r11 h10 hF => ?_)
          refine xg_lstore (pc := 42) (lv2 := [(5, .long r11), (4, va_rf r3), (0, va_rf (some this)), (1, .int x1), (2, .int x2), (3, .int x3)]) C dX11_luck_42 11 hnL (by decide) (by cases r3 <;> rfl) ?_
          refine xg_lconst (pc := 44) (v := 1) C dX11_luck_44 (by decide) ?_
          refine xg_aload (pc := 45) C dX11_luck_45 1 rfl ?_
          obtain ⟨hk12, hF⟩ := hF
          refine xg_geti (pc := 47) (C1 := RX8) (T1 := TX8) (ci := 8) (ref := "SandGlasses$Text") C inm_X11_luck_8 rfl (by decide) 0 (by decide) rfl dX11_luck_47 (List.mem_of_getElem? (i := 3) rfl) rfl ha4 hk12 ?_
          refine xg_iload_n (pc := 50) C dX11_luck_50 4 rfl ?_
          refine xg_imul (pc := 51) C dX11_luck_51 ?_
          refine xg_lshl (pc := 52) C dX11_luck_52 ?_
          refine xg_topl (pc := 53) (fun z13 ez13 => ?_)
          have hF := hF z13 ez13
          refine xg_lstore (pc := 53) (lv2 := [(7, .long z13), (5, .long r11), (4, va_rf r3), (0, va_rf (some this)), (1, .int x1), (2, .int x2), (3, .int x3)]) C dX11_luck_53 11 hnL (by decide) rfl ?_
          refine xg_lload (pc := 55) C dX11_luck_55 1 rfl ?_
          refine xg_lload (pc := 57) C dX11_luck_57 0 rfl ?_
          obtain ⟨hfit, hF⟩ := hF
          refine xg_csL (pc := 59) C (fun zs => [.long r11, .long z13]) (met_X11_common Y7 r11 z13) gX11_luck_X11_common rfl ⟨rfl, rfl⟩ nd_X11_common.2 ⟨Nat.le_of_ble_eq_true rfl, Nat.le_of_ble_eq_true rfl⟩ rfl rfl (Nat.le_of_ble_eq_true rfl) hfit dX11_luck_59 hF (fun r15 h14 hF => ?_)
          refine xg_lstore (pc := 62) (lv2 := [(9, .long r15), (7, .long z13), (5, .long r11), (4, va_rf r3), (0, va_rf (some this)), (1, .int x1), (2, .int x2), (3, .int x3)]) C dX11_luck_62 11 hnL (by decide) rfl ?_
          refine xg_iload_n (pc := 64) C dX11_luck_64 7 rfl ?_
          refine xg_if_eq (pc := 65) 73 C dX11_luck_65 (by decide) (fun hc => ?_) (fun hc => ?_)
          · have hF := hF.1 hc
            refine xg_lload (pc := 73) C dX11_luck_73 2 rfl ?_
            refine xg_sub (lv2 := [(9, .long r15)]) [0] rfl ?_
            exact hF
          · have hF := hF.2 hc
            refine xg_lload (pc := 68) C dX11_luck_68 1 rfl ?_
            refine xg_goto (pc := 70) 75 C dX11_luck_70 (by decide) ?_
            refine xg_sub (lv2 := [(9, .long r15)]) [0] rfl ?_
            exact hF
        · have hF := hF.2 hc
          refine xg_ldc2 (pc := 27) (v := (-1)) C dX11_luck_27 (List.mem_of_getElem? (i := 2) rfl) ?_
          obtain ⟨hfit, hF⟩ := hF
          exact xg_endL (pc := 30) C E hfit dX11_luck_30 hF
def rm_X11_need (MC MS : Nat) : Room := { frames := 6, cells := MC, slots := MS, locals := 142 }
theorem nd_X11_need : yX11_need.cls = RX11 ∧ yX11_need.cls ≠ "java/lang/invoke/MethodHandle" ∧ yX11_need.cls ≠ "java/lang/invoke/VarHandle" ∧ (parseMethodDescriptor yX11_need.desc).map (fun d => d.parameters.length) = some 3 := by decide +kernel
theorem inm_X11_need_11 : ∀ w ∈ u_ws RX11 TX11 (xg_N 11), w ∈ wsX11_need := fun _ h9 => List.mem_cons_of_mem _ (List.mem_append_left _ (List.mem_append_left _ (List.mem_append_left _ (List.mem_append_left _ (List.mem_append_left _ (List.mem_append_left _ (List.mem_append_right _ h9)))))))
set_option maxHeartbeats 4000000 in
set_option maxRecDepth 100000 in
theorem met_X11_need (MC MS : Nat) (Y : xg_Y) (this : Nat) (x1 : Int32) (x2 : Int32) (x3 : Int32) : xg_NI yX11_need wsX11_need (rm_X11_need MC MS) Y [va_rf (some this), .int x1, .int x2, .int x3] (fun Q h => wp_X11_need MC MS Y Q this x1 x2 x3 h) := by
  refine xg_beginI (cc := cX11_need) (maxL := 6) (own := RX11) (by decide) rfl rfl (Nat.le_of_ble_eq_true rfl) (fun X Q h C hnL E hw => ?_)
  unfold wp_X11_need at hw
  obtain ⟨hthis, hw⟩ := hw
  refine xg_sub (lv2 := [(0, va_rf (some this)), (1, .int x1), (2, .int x2), (3, .int x3)]) [0, 1, 2, 3] rfl ?_
  have hF := hw
  refine xg_aload_n (pc := 0) C dX11_need_0 0 rfl ?_
  refine xg_getr (pc := 1) (C1 := RX11) (T1 := TX11) (ci := 11) (ref := "SandGlasses") C inm_X11_need_11 rfl (by decide) 0 (by decide) rfl dX11_need_1 (List.mem_of_getElem? (i := 1) rfl) rfl rfl hthis ?_
  refine xg_iconst (pc := 4) (v := 0) C dX11_need_4 (by decide) ?_
  refine xg_iload_n (pc := 5) C dX11_need_5 1 rfl ?_
  obtain ⟨a1, ha1, hka1, hF⟩ := hF
  obtain ⟨hfit, hF⟩ := hF
  refine xg_cvR (pc := 6) (C1 := RX9) (T1 := TX9) (ci := 9) C (fun zs => [.int 0, .int x1]) ha1 hka1 (by decide) rfl (met_X9_find Y a1 0 x1) gX11_need_X9_find rfl ⟨rfl, rfl⟩ nd_X9_find ⟨Nat.le_of_ble_eq_true rfl, Nat.le_of_ble_eq_true rfl⟩ rfl rfl (Nat.le_of_ble_eq_true rfl) hfit dX11_need_6 hF (fun r3 h2 hF => ?_)
  refine xg_astore (pc := 9) (lv2 := [(4, va_rf r3), (0, va_rf (some this)), (1, .int x1), (2, .int x2), (3, .int x3)]) C dX11_need_9 6 hnL (by decide) rfl ?_
  refine xg_aload (pc := 11) C dX11_need_11 0 rfl ?_
  refine xg_ifnull (pc := 13) 23 C dX11_need_13 (by decide) (fun hc => ?_) (fun a4 ha4 => ?_)
  · have hF := hF.1 hc
    refine xg_iconst (pc := 23) (v := (-1)) C dX11_need_23 (by decide) ?_
    obtain ⟨hfit, hF⟩ := hF
    exact xg_endI (pc := 24) C E hfit dX11_need_24 hF
  · have hF := hF.2 a4 ha4
    refine xg_iload_n (pc := 16) C dX11_need_16 3 rfl ?_
    obtain ⟨hfit, hF⟩ := hF
    refine xg_csI (pc := 17) C (fun zs => [.int x2]) (met_X11_isT Y x2) gX11_need_X11_isT rfl ⟨rfl, rfl⟩ nd_X11_isT.2 ⟨Nat.le_of_ble_eq_true rfl, Nat.le_of_ble_eq_true rfl⟩ rfl rfl (Nat.le_of_ble_eq_true rfl) hfit dX11_need_17 hF (fun r6 h5 hF => ?_)
    refine xg_if_ne (pc := 20) 25 C dX11_need_20 (by decide) (fun hc => ?_) (fun hc => ?_)
    · have hF := hF.1 hc
      refine xg_aload_n (pc := 25) C dX11_need_25 1 rfl ?_
      refine xg_iload_n (pc := 26) C dX11_need_26 2 rfl ?_
      refine xg_aload (pc := 27) C dX11_need_27 0 rfl ?_
      obtain ⟨mc8, ms8, hfit, hF⟩ := hF
      refine xg_dvR (pc := 29) (C1 := RX11) (T1 := TX11) (ci := 11) C [.int x1, va_rf r3] rfl hthis (by decide) rfl (met_X11_bookOf mc8 ms8 Y this x1 r3) gX11_need_X11_bookOf rfl nd_X11_bookOf ⟨Nat.le_of_ble_eq_true rfl, Nat.le_of_ble_eq_true rfl⟩ rfl rfl (Nat.le_of_ble_eq_true rfl) hfit dX11_need_29 hF (fun r8 Y9 h10 hF => ?_)
      refine xg_iload_n (pc := 32) C dX11_need_32 3 rfl ?_
      obtain ⟨a11, ha11, hka11, hF⟩ := hF
      obtain ⟨hfit, hF⟩ := hF
      refine xg_cvI (pc := 33) (C1 := RX1) (T1 := TX1) (ci := 1) C (fun zs => [.int x2]) ha11 hka11 (by decide) rfl (met_X1_fewestGlasses Y9 a11 x2) gX11_need_X1_fewestGlasses rfl ⟨rfl, rfl⟩ nd_X1_fewestGlasses ⟨Nat.le_of_ble_eq_true rfl, Nat.le_of_ble_eq_true rfl⟩ rfl rfl (Nat.le_of_ble_eq_true rfl) hfit dX11_need_33 hF (fun r13 h12 hF => ?_)
      refine xg_istore (pc := 36) (lv2 := [(5, .int r13), (4, va_rf r3), (0, va_rf (some this)), (1, .int x1), (2, .int x2), (3, .int x3)]) C dX11_need_36 6 hnL (by decide) (by cases r3 <;> rfl) ?_
      refine xg_iload (pc := 38) C dX11_need_38 0 rfl ?_
      refine xg_iconst (pc := 40) (v := (-1)) C dX11_need_40 (by decide) ?_
      refine xg_icmp_ne (pc := 41) 46 C dX11_need_41 (by decide) (fun hc => ?_) (fun hc => ?_)
      · have hF := hF.1 hc
        refine xg_iload_n (pc := 46) C dX11_need_46 5 rfl ?_
        refine xg_if_eq (pc := 47) 55 C dX11_need_47 (by decide) (fun hc => ?_) (fun hc => ?_)
        · have hF := hF.1 hc
          refine xg_iload (pc := 55) C dX11_need_55 0 rfl ?_
          obtain ⟨hfit, hF⟩ := hF
          refine xg_csI (pc := 57) C (fun zs => [.int r13]) (met_J6_bitCount_0f7a4 Y9 r13) gX11_need_J6_bitCount_0f7a4 rfl ⟨rfl, rfl⟩ nd_J6_bitCount_0f7a4.2 ⟨Nat.le_of_ble_eq_true rfl, Nat.le_of_ble_eq_true rfl⟩ rfl rfl (Nat.le_of_ble_eq_true rfl) hfit dX11_need_57 hF (fun r15 h14 hF => ?_)
          obtain ⟨hfit, hF⟩ := hF
          exact xg_endI (pc := 60) C E hfit dX11_need_60 hF
        · have hF := hF.2 hc
          refine xg_iload (pc := 50) C dX11_need_50 0 rfl ?_
          refine xg_goto (pc := 52) 60 C dX11_need_52 (by decide) ?_
          obtain ⟨hfit, hF⟩ := hF
          exact xg_endI (pc := 60) C E hfit dX11_need_60 hF
      · have hF := hF.2 hc
        refine xg_iconst (pc := 44) (v := (-1)) C dX11_need_44 (by decide) ?_
        obtain ⟨hfit, hF⟩ := hF
        exact xg_endI (pc := 45) C E hfit dX11_need_45 hF
    · have hF := hF.2 hc
      refine xg_iconst (pc := 23) (v := (-1)) C dX11_need_23 (by decide) ?_
      obtain ⟨hfit, hF⟩ := hF
      exact xg_endI (pc := 24) C E hfit dX11_need_24 hF
