def rm_X6_breakOff : Room := { frames := 0, cells := 0, slots := 0, locals := 0 }
theorem nd_X6_breakOff : yX6_breakOff.cls = RX6 ∧ yX6_breakOff.cls ≠ "java/lang/invoke/MethodHandle" ∧ yX6_breakOff.cls ≠ "java/lang/invoke/VarHandle" ∧ (parseMethodDescriptor yX6_breakOff.desc).map (fun d => d.parameters.length) = some 0 := by decide +kernel
theorem inm_X6_breakOff_6 : ∀ w ∈ u_ws RX6 TX6 (xg_N 6), w ∈ wsX6_breakOff := fun _ h9 => List.mem_cons_of_mem _ (List.mem_append_right _ h9)
set_option maxHeartbeats 4000000 in
set_option maxRecDepth 100000 in
theorem met_X6_breakOff (Y : xg_Y) (this : Nat) : xg_MV yX6_breakOff wsX6_breakOff rm_X6_breakOff Y [va_rf (some this)] (fun Q h => wp_X6_breakOff Y Q this h) := by
  refine xg_startV (cc := cX6_breakOff) (maxL := 1) (own := RX6) (by decide) rfl rfl (Nat.le_of_ble_eq_true rfl) (fun X Q h C hnL E hw => ?_)
  unfold wp_X6_breakOff at hw
  obtain ⟨hthis, hw⟩ := hw
  refine xg_sub (lv2 := [(0, va_rf (some this))]) [0] rfl ?_
  have hF := hw
  refine xg_aload_n (pc := 0) C dX6_breakOff_0 0 rfl ?_
  refine xg_iconst (pc := 1) (v := 1) C dX6_breakOff_1 (by decide) ?_
  refine xg_puti (pc := 2) (C1 := RX6) (T1 := TX6) (ci := 6) (ref := "SandGlasses$Reader") C inm_X6_breakOff_6 rfl (by decide) tyX6 tyX6_ok nmX6 0 (by decide) rfl dX6_breakOff_2 (List.mem_of_getElem? (i := 1) rfl) rfl rfl (tyX6_ok 0 (by decide)) rfl hthis (fun h1 eh1 => ?_)
  have hF := hF h1 eh1
  refine xg_aload_n (pc := 5) C dX6_breakOff_5 0 rfl ?_
  refine xg_aload_n (pc := 6) C dX6_breakOff_6 0 rfl ?_
  refine xg_geti (pc := 7) (C1 := RX6) (T1 := TX6) (ci := 6) (ref := "SandGlasses$Reader") C inm_X6_breakOff_6 rfl (by decide) 7 (by decide) rfl dX6_breakOff_7 (List.mem_of_getElem? (i := 2) rfl) rfl rfl hthis ?_
  refine xg_puti (pc := 10) (C1 := RX6) (T1 := TX6) (ci := 6) (ref := "SandGlasses$Reader") C inm_X6_breakOff_6 rfl (by decide) tyX6 tyX6_ok nmX6 1 (by decide) rfl dX6_breakOff_10 (List.mem_of_getElem? (i := 3) rfl) rfl rfl (tyX6_ok 1 (by decide)) rfl hthis (fun h2 eh2 => ?_)
  have hF := hF h2 eh2
  exact xg_retV (pc := 13) C E dX6_breakOff_13 hF
def rm_X6_draft : Room := { frames := 0, cells := 0, slots := 0, locals := 0 }
theorem nd_X6_draft : yX6_draft.cls = RX6 ∧ yX6_draft.cls ≠ "java/lang/invoke/MethodHandle" ∧ yX6_draft.cls ≠ "java/lang/invoke/VarHandle" ∧ (parseMethodDescriptor yX6_draft.desc).map (fun d => d.parameters.length) = some 1 := by decide +kernel
theorem inm_X6_draft_6 : ∀ w ∈ u_ws RX6 TX6 (xg_N 6), w ∈ wsX6_draft := fun _ h9 => List.mem_cons_of_mem _ (List.mem_append_right _ h9)
set_option maxHeartbeats 4000000 in
set_option maxRecDepth 100000 in
theorem met_X6_draft (Y : xg_Y) (this : Nat) (x1 : Int32) : xg_MR yX6_draft wsX6_draft rm_X6_draft Y [va_rf (some this), .int x1] (fun Q h => wp_X6_draft Y Q this x1 h) := by
  refine xg_startR (cc := cX6_draft) (maxL := 2) (own := RX6) (by decide) rfl rfl (Nat.le_of_ble_eq_true rfl) (fun X Q h C hnL E hw => ?_)
  unfold wp_X6_draft at hw
  obtain ⟨hthis, hw⟩ := hw
  refine xg_sub (lv2 := [(0, va_rf (some this)), (1, .int x1)]) [0, 1] rfl ?_
  have hF := hw
  refine xg_aload_n (pc := 0) C dX6_draft_0 0 rfl ?_
  refine xg_getr (pc := 1) (C1 := RX6) (T1 := TX6) (ci := 6) (ref := "SandGlasses$Reader") C inm_X6_draft_6 rfl (by decide) 2 (by decide) rfl dX6_draft_1 (List.mem_of_getElem? (i := 1) rfl) rfl rfl hthis ?_
  refine xg_iload_n (pc := 4) C dX6_draft_4 1 rfl ?_
  refine xg_iconst (pc := 5) (v := 3) C dX6_draft_5 (by decide) ?_
  refine xg_iand (pc := 6) C dX6_draft_6 ?_
  obtain ⟨a1, ha1, hka1, hF⟩ := hF
  obtain ⟨hi, hF⟩ := hF
  refine xg_aald (pc := 7) (c9 := 27) (C9 := "SandGlasses$Text") C ha1 hka1 (by decide) rfl hi dX6_draft_7 ?_
  exact xg_retR (pc := 8) C E (Or.inl ⟨_, rfl⟩) dX6_draft_8 hF
def rm_X6_note : Room := { frames := 0, cells := 0, slots := 0, locals := 0 }
theorem nd_X6_note : yX6_note.cls = RX6 ∧ yX6_note.cls ≠ "java/lang/invoke/MethodHandle" ∧ yX6_note.cls ≠ "java/lang/invoke/VarHandle" ∧ (parseMethodDescriptor yX6_note.desc).map (fun d => d.parameters.length) = some 2 := by decide +kernel
theorem inm_X6_note_6 : ∀ w ∈ u_ws RX6 TX6 (xg_N 6), w ∈ wsX6_note := fun _ h9 => List.mem_cons_of_mem _ (List.mem_append_right _ h9)
set_option maxHeartbeats 4000000 in
set_option maxRecDepth 100000 in
theorem met_X6_note (Y : xg_Y) (this : Nat) (x1 : Int32) (x2 : Int32) : xg_MV yX6_note wsX6_note rm_X6_note Y [va_rf (some this), .int x1, .int x2] (fun Q h => wp_X6_note Y Q this x1 x2 h) := by
  refine xg_startV (cc := cX6_note) (maxL := 3) (own := RX6) (by decide) rfl rfl (Nat.le_of_ble_eq_true rfl) (fun X Q h C hnL E hw => ?_)
  unfold wp_X6_note at hw
  obtain ⟨hthis, hw⟩ := hw
  refine xg_sub (lv2 := [(0, va_rf (some this)), (1, .int x1), (2, .int x2)]) [0, 1, 2] rfl ?_
  have hF := hw
  refine xg_aload_n (pc := 0) C dX6_note_0 0 rfl ?_
  refine xg_geti (pc := 1) (C1 := RX6) (T1 := TX6) (ci := 6) (ref := "SandGlasses$Reader") C inm_X6_note_6 rfl (by decide) 0 (by decide) rfl dX6_note_1 (List.mem_of_getElem? (i := 1) rfl) rfl rfl hthis ?_
  refine xg_if_ne (pc := 4) 17 C dX6_note_4 (by decide) (fun hc => ?_) (fun hc => ?_)
  · have hF := hF.1 hc
    exact xg_retV (pc := 17) C E dX6_note_17 hF
  · have hF := hF.2 hc
    refine xg_aload_n (pc := 7) C dX6_note_7 0 rfl ?_
    refine xg_iload_n (pc := 8) C dX6_note_8 1 rfl ?_
    refine xg_puti (pc := 9) (C1 := RX6) (T1 := TX6) (ci := 6) (ref := "SandGlasses$Reader") C inm_X6_note_6 rfl (by decide) tyX6 tyX6_ok nmX6 0 (by decide) rfl dX6_note_9 (List.mem_of_getElem? (i := 1) rfl) rfl rfl (tyX6_ok 0 (by decide)) rfl hthis (fun h1 eh1 => ?_)
    have hF := hF h1 eh1
    refine xg_aload_n (pc := 12) C dX6_note_12 0 rfl ?_
    refine xg_iload_n (pc := 13) C dX6_note_13 2 rfl ?_
    refine xg_puti (pc := 14) (C1 := RX6) (T1 := TX6) (ci := 6) (ref := "SandGlasses$Reader") C inm_X6_note_6 rfl (by decide) tyX6 tyX6_ok nmX6 1 (by decide) rfl dX6_note_14 (List.mem_of_getElem? (i := 2) rfl) rfl rfl (tyX6_ok 1 (by decide)) rfl hthis (fun h2 eh2 => ?_)
    have hF := hF h2 eh2
    exact xg_retV (pc := 17) C E dX6_note_17 hF
def rm_X6_finish : Room := { frames := 1, cells := 0, slots := 0, locals := 24 }
theorem nd_X6_finish : yX6_finish.cls = RX6 ∧ yX6_finish.cls ≠ "java/lang/invoke/MethodHandle" ∧ yX6_finish.cls ≠ "java/lang/invoke/VarHandle" ∧ (parseMethodDescriptor yX6_finish.desc).map (fun d => d.parameters.length) = some 0 := by decide +kernel
theorem inm_X6_finish_6 : ∀ w ∈ u_ws RX6 TX6 (xg_N 6), w ∈ wsX6_finish := fun _ h9 => List.mem_cons_of_mem _ (List.mem_append_left _ (List.mem_append_right _ h9))
theorem inm_X6_finish_8 : ∀ w ∈ u_ws RX8 TX8 (xg_N 8), w ∈ wsX6_finish := fun _ h9 => List.mem_cons_of_mem _ (List.mem_append_right _ h9)
set_option maxHeartbeats 4000000 in
set_option maxRecDepth 100000 in
theorem met_X6_finish (Y : xg_Y) (this : Nat) : xg_MV yX6_finish wsX6_finish rm_X6_finish Y [va_rf (some this)] (fun Q h => wp_X6_finish Y Q this h) := by
  refine xg_startV (cc := cX6_finish) (maxL := 3) (own := RX6) (by decide) rfl rfl (Nat.le_of_ble_eq_true rfl) (fun X Q h C hnL E hw => ?_)
  unfold wp_X6_finish at hw
  obtain ⟨hthis, hw⟩ := hw
  refine xg_sub (lv2 := [(0, va_rf (some this))]) [0] rfl ?_
  refine mg_use (hw (fun (y1 : Option Nat) (h : xg_H) => xg_W X 0 0 Y 55 [(0, va_rf (some this)), (1, va_rf y1)] [] h) (fun (y1 : Option Nat) (y2 : Int32) (h : xg_H) => xg_W X 0 0 Y 57 [(0, va_rf (some this)), (1, va_rf y1), (2, .int y2)] [] h) ?_ ?_) (fun hF => ?_)
  · intro y1 h hF
    refine xg_iconst (pc := 55) (v := 0) C dX6_finish_55 (by decide) ?_
    refine xg_istore_n (pc := 56) (lv2 := [(2, .int 0), (0, va_rf (some this)), (1, va_rf y1)]) C dX6_finish_56 3 hnL (by decide) (by cases y1 <;> rfl) ?_
    refine xg_sub (lv2 := [(0, va_rf (some this)), (1, va_rf y1), (2, .int 0)]) [1, 2, 0] rfl ?_
    exact hF
  · intro y1 y2 h hF
    refine xg_iload_n (pc := 57) C dX6_finish_57 2 rfl ?_
    refine xg_aload_n (pc := 58) C dX6_finish_58 1 rfl ?_
    obtain ⟨a8, ha8, hka8, hF⟩ := hF
    refine xg_getr (pc := 59) (C1 := RX8) (T1 := TX8) (ci := 8) (ref := "SandGlasses$Text") C inm_X6_finish_8 rfl (by decide) 3 (by decide) rfl dX6_finish_59 (List.mem_of_getElem? (i := 12) rfl) rfl ha8 hka8 ?_
    obtain ⟨a9, ha9, hka9, hF⟩ := hF
    refine xg_alen (pc := 62) (c9 := 22) C ha9 hka9 (by decide) dX6_finish_62 ?_
    refine xg_icmp_ge (pc := 63) 84 C dX6_finish_63 (by decide) (fun hc => ?_) (fun hc => ?_)
    · have hF := hF.1 hc
      exact xg_retV (pc := 84) C E dX6_finish_84 hF
    · have hF := hF.2 hc
      refine xg_aload_n (pc := 66) C dX6_finish_66 1 rfl ?_
      refine xg_getr (pc := 67) (C1 := RX8) (T1 := TX8) (ci := 8) (ref := "SandGlasses$Text") C inm_X6_finish_8 rfl (by decide) 3 (by decide) rfl dX6_finish_67 (List.mem_of_getElem? (i := 12) rfl) rfl ha8 hka8 ?_
      refine xg_iload_n (pc := 70) C dX6_finish_70 2 rfl ?_
      refine xg_aload_n (pc := 71) C dX6_finish_71 0 rfl ?_
      refine xg_getr (pc := 72) (C1 := RX6) (T1 := TX6) (ci := 6) (ref := "SandGlasses$Reader") C inm_X6_finish_6 rfl (by decide) 3 (by decide) rfl dX6_finish_72 (List.mem_of_getElem? (i := 13) rfl) rfl rfl hthis ?_
      refine xg_iload_n (pc := 75) C dX6_finish_75 2 rfl ?_
      obtain ⟨a10, ha10, hka10, hF⟩ := hF
      obtain ⟨hi, hF⟩ := hF
      refine xg_iald (pc := 76) C ha10 hka10 hi dX6_finish_76 ?_
      obtain ⟨hi, hF⟩ := hF
      refine xg_iast (pc := 77) C ha9 hka9 hi dX6_finish_77 (fun h11 eh11 => ?_)
      have hF := hF h11 eh11
      obtain ⟨z12, ez12⟩ : ∃ y : Int32, y = y2 + 1 := ⟨_, rfl⟩
      have hF := hF z12 ez12
      refine xg_iinc (pc := 78) (v := z12) (lv2 := [(2, .int z12), (0, va_rf (some this)), (1, va_rf y1)]) C dX6_finish_78 2 rfl (by rw [ez12]; rfl) 3 hnL (by decide) (by cases y1 <;> rfl) ?_
      refine xg_goto (pc := 81) 57 C dX6_finish_81 (by decide) ?_
      refine xg_sub (lv2 := [(0, va_rf (some this)), (1, va_rf y1), (2, .int z12)]) [1, 2, 0] rfl ?_
      exact hF
  · skip
    refine xg_aload_n (pc := 0) C dX6_finish_0 0 rfl ?_
    refine xg_getr (pc := 1) (C1 := RX6) (T1 := TX6) (ci := 6) (ref := "SandGlasses$Reader") C inm_X6_finish_6 rfl (by decide) 2 (by decide) rfl dX6_finish_1 (List.mem_of_getElem? (i := 1) rfl) rfl rfl hthis ?_
    refine xg_aload_n (pc := 4) C dX6_finish_4 0 rfl ?_
    refine xg_geti (pc := 5) (C1 := RX6) (T1 := TX6) (ci := 6) (ref := "SandGlasses$Reader") C inm_X6_finish_6 rfl (by decide) 8 (by decide) rfl dX6_finish_5 (List.mem_of_getElem? (i := 2) rfl) rfl rfl hthis ?_
    obtain ⟨a1, ha1, hka1, hF⟩ := hF
    obtain ⟨hi, hF⟩ := hF
    refine xg_aald (pc := 8) (c9 := 27) (C9 := "SandGlasses$Text") C ha1 hka1 (by decide) rfl hi dX6_finish_8 ?_
    refine xg_topr (pc := 9) (fun z2 ez2 => ?_)
    have hF := hF z2 ez2
    refine xg_astore_n (pc := 9) (lv2 := [(1, va_rf z2), (0, va_rf (some this))]) C dX6_finish_9 3 hnL (by decide) rfl ?_
    refine xg_aload_n (pc := 10) C dX6_finish_10 0 rfl ?_
    refine xg_aload_n (pc := 11) C dX6_finish_11 1 rfl ?_
    refine xg_geti (pc := 12) (C1 := RX6) (T1 := TX6) (ci := 6) (ref := "SandGlasses$Reader") C inm_X6_finish_6 rfl (by decide) 9 (by decide) rfl dX6_finish_12 (List.mem_of_getElem? (i := 3) rfl) rfl rfl hthis ?_
    refine xg_aload_n (pc := 15) C dX6_finish_15 0 rfl ?_
    obtain ⟨a3, ha3, hka3, hF⟩ := hF
    refine xg_getr (pc := 16) (C1 := RX8) (T1 := TX8) (ci := 8) (ref := "SandGlasses$Text") C inm_X6_finish_8 rfl (by decide) 1 (by decide) rfl dX6_finish_16 (List.mem_of_getElem? (i := 4) rfl) rfl ha3 hka3 ?_
    obtain ⟨a4, ha4, hka4, hF⟩ := hF
    refine xg_alen (pc := 19) (c9 := 22) C ha4 hka4 (by decide) dX6_finish_19 ?_
    refine xg_mmin (pc := 20) C (List.mem_of_getElem? (i := 5) rfl) (List.mem_of_getElem? (i := 6) rfl) (List.mem_of_getElem? (i := 7) rfl) (List.mem_of_getElem? (i := 8) rfl) (Nat.le_of_ble_eq_true rfl) (by simp [xg_rf_cat, xg_cat_i, xg_cat_l, xg_cat_a, rm_X6_finish]) (Nat.zero_le _) (Nat.zero_le _) dX6_finish_20 ?_
    refine xg_topi (pc := 23) (fun z5 ez5 => ?_)
    have hF := hF z5 ez5
    refine xg_puti (pc := 23) (C1 := RX8) (T1 := TX8) (ci := 8) (ref := "SandGlasses$Text") C inm_X6_finish_8 rfl (by decide) tyX8 tyX8_ok nmX8 0 (by decide) rfl dX6_finish_23 (List.mem_of_getElem? (i := 9) rfl) rfl rfl (tyX8_ok 0 (by decide)) ha3 hka3 (fun h6 eh6 => ?_)
    have hF := hF h6 eh6
    refine xg_aload_n (pc := 26) C dX6_finish_26 1 rfl ?_
    refine xg_geti (pc := 27) (C1 := RX6) (T1 := TX6) (ci := 6) (ref := "SandGlasses$Reader") C inm_X6_finish_6 rfl (by decide) 9 (by decide) rfl dX6_finish_27 (List.mem_of_getElem? (i := 3) rfl) rfl rfl hthis ?_
    refine xg_iconst (pc := 30) (v := 4) C dX6_finish_30 (by decide) ?_
    refine xg_icmp_ge (pc := 31) 55 C dX6_finish_31 (by decide) (fun hc => ?_) (fun hc => ?_)
    · have hF := hF.1 hc
      refine xg_sub (lv2 := [(0, va_rf (some this)), (1, va_rf z2)]) [1, 0] rfl ?_
      exact hF
    · have hF := hF.2 hc
      refine xg_aload_n (pc := 34) C dX6_finish_34 1 rfl ?_
      refine xg_geti (pc := 35) (C1 := RX6) (T1 := TX6) (ci := 6) (ref := "SandGlasses$Reader") C inm_X6_finish_6 rfl (by decide) 10 (by decide) rfl dX6_finish_35 (List.mem_of_getElem? (i := 10) rfl) rfl rfl hthis ?_
      refine xg_aload_n (pc := 38) C dX6_finish_38 1 rfl ?_
      refine xg_geti (pc := 39) (C1 := RX6) (T1 := TX6) (ci := 6) (ref := "SandGlasses$Reader") C inm_X6_finish_6 rfl (by decide) 9 (by decide) rfl dX6_finish_39 (List.mem_of_getElem? (i := 3) rfl) rfl rfl hthis ?_
      refine xg_ishr (pc := 42) C dX6_finish_42 ?_
      refine xg_if_eq (pc := 43) 55 C dX6_finish_43 (by decide) (fun hc => ?_) (fun hc => ?_)
      · have hF := hF.1 hc
        refine xg_sub (lv2 := [(0, va_rf (some this)), (1, va_rf z2)]) [1, 0] rfl ?_
        exact hF
      · have hF := hF.2 hc
        refine xg_aload_n (pc := 46) C dX6_finish_46 1 rfl ?_
        refine xg_iconst (pc := 47) (v := 4) C dX6_finish_47 (by decide) ?_
        refine xg_aload_n (pc := 48) C dX6_finish_48 1 rfl ?_
        refine xg_geti (pc := 49) (C1 := RX6) (T1 := TX6) (ci := 6) (ref := "SandGlasses$Reader") C inm_X6_finish_6 rfl (by decide) 6 (by decide) rfl dX6_finish_49 (List.mem_of_getElem? (i := 11) rfl) rfl rfl hthis ?_
        refine xg_cvV (pc := 52) (C1 := RX6) (T1 := TX6) (ci := 6) C [.int 4, .int (xg_i h6 this 6)] rfl hthis (by decide) rfl (met_X6_note Y this 4 (xg_i h6 this 6)) gX6_finish_X6_note rfl ⟨rfl, rfl⟩ nd_X6_note ⟨Nat.le_of_ble_eq_true rfl, Nat.le_of_ble_eq_true rfl⟩ rfl rfl (Nat.le_of_ble_eq_true rfl) ⟨Nat.zero_le _, Nat.zero_le _⟩ dX6_finish_52 hF (fun h7 hF => ?_)
        refine xg_sub (lv2 := [(0, va_rf (some this)), (1, va_rf z2)]) [1, 0] rfl ?_
        exact hF
def rm_X6_skipBlanks : Room := { frames := 0, cells := 0, slots := 0, locals := 0 }
theorem nd_X6_skipBlanks : yX6_skipBlanks.cls = RX6 ∧ yX6_skipBlanks.cls ≠ "java/lang/invoke/MethodHandle" ∧ yX6_skipBlanks.cls ≠ "java/lang/invoke/VarHandle" ∧ (parseMethodDescriptor yX6_skipBlanks.desc).map (fun d => d.parameters.length) = some 0 := by decide +kernel
theorem inm_X6_skipBlanks_6 : ∀ w ∈ u_ws RX6 TX6 (xg_N 6), w ∈ wsX6_skipBlanks := fun _ h9 => List.mem_cons_of_mem _ (List.mem_append_right _ h9)
set_option maxHeartbeats 4000000 in
set_option maxRecDepth 100000 in
theorem met_X6_skipBlanks (Y : xg_Y) (this : Nat) : xg_MV yX6_skipBlanks wsX6_skipBlanks rm_X6_skipBlanks Y [va_rf (some this)] (fun Q h => wp_X6_skipBlanks Y Q this h) := by
  refine xg_startV (cc := cX6_skipBlanks) (maxL := 1) (own := RX6) (by decide) rfl rfl (Nat.le_of_ble_eq_true rfl) (fun X Q h C hnL E hw => ?_)
  unfold wp_X6_skipBlanks at hw
  obtain ⟨hthis, hw⟩ := hw
  refine xg_sub (lv2 := [(0, va_rf (some this))]) [0] rfl ?_
  refine mg_use (hw (fun (h : xg_H) => xg_W X 0 0 Y 0 [(0, va_rf (some this))] [] h) (fun (h : xg_H) => xg_W X 0 0 Y 39 [(0, va_rf (some this))] [] h) ?_ ?_) (fun hF => ?_)
  · intro h hF
    refine xg_aload_n (pc := 0) C dX6_skipBlanks_0 0 rfl ?_
    refine xg_geti (pc := 1) (C1 := RX6) (T1 := TX6) (ci := 6) (ref := "SandGlasses$Reader") C inm_X6_skipBlanks_6 rfl (by decide) 7 (by decide) rfl dX6_skipBlanks_1 (List.mem_of_getElem? (i := 1) rfl) rfl rfl hthis ?_
    refine xg_aload_n (pc := 4) C dX6_skipBlanks_4 0 rfl ?_
    refine xg_geti (pc := 5) (C1 := RX6) (T1 := TX6) (ci := 6) (ref := "SandGlasses$Reader") C inm_X6_skipBlanks_6 rfl (by decide) 6 (by decide) rfl dX6_skipBlanks_5 (List.mem_of_getElem? (i := 2) rfl) rfl rfl hthis ?_
    refine xg_icmp_ge (pc := 8) 52 C dX6_skipBlanks_8 (by decide) (fun hc => ?_) (fun hc => ?_)
    · have hF := hF.1 hc
      exact xg_retV (pc := 52) C E dX6_skipBlanks_52 hF
    · have hF := hF.2 hc
      refine xg_aload_n (pc := 11) C dX6_skipBlanks_11 0 rfl ?_
      refine xg_getr (pc := 12) (C1 := RX6) (T1 := TX6) (ci := 6) (ref := "SandGlasses$Reader") C inm_X6_skipBlanks_6 rfl (by decide) 5 (by decide) rfl dX6_skipBlanks_12 (List.mem_of_getElem? (i := 3) rfl) rfl rfl hthis ?_
      refine xg_aload_n (pc := 15) C dX6_skipBlanks_15 0 rfl ?_
      refine xg_geti (pc := 16) (C1 := RX6) (T1 := TX6) (ci := 6) (ref := "SandGlasses$Reader") C inm_X6_skipBlanks_6 rfl (by decide) 7 (by decide) rfl dX6_skipBlanks_16 (List.mem_of_getElem? (i := 1) rfl) rfl rfl hthis ?_
      obtain ⟨a1, ha1, hka1, hF⟩ := hF
      obtain ⟨hi, hF⟩ := hF
      refine xg_iald (pc := 19) C ha1 hka1 hi dX6_skipBlanks_19 ?_
      refine xg_bipush (pc := 20) (v := 10) C dX6_skipBlanks_20 (by decide) ?_
      refine xg_icmp_eq (pc := 22) 39 C dX6_skipBlanks_22 (by decide) (fun hc => ?_) (fun hc => ?_)
      · have hF := hF.1 hc
        exact hF
      · have hF := hF.2 hc
        refine xg_aload_n (pc := 25) C dX6_skipBlanks_25 0 rfl ?_
        refine xg_getr (pc := 26) (C1 := RX6) (T1 := TX6) (ci := 6) (ref := "SandGlasses$Reader") C inm_X6_skipBlanks_6 rfl (by decide) 5 (by decide) rfl dX6_skipBlanks_26 (List.mem_of_getElem? (i := 3) rfl) rfl rfl hthis ?_
        refine xg_aload_n (pc := 29) C dX6_skipBlanks_29 0 rfl ?_
        refine xg_geti (pc := 30) (C1 := RX6) (T1 := TX6) (ci := 6) (ref := "SandGlasses$Reader") C inm_X6_skipBlanks_6 rfl (by decide) 7 (by decide) rfl dX6_skipBlanks_30 (List.mem_of_getElem? (i := 1) rfl) rfl rfl hthis ?_
        obtain ⟨hi, hF⟩ := hF
        refine xg_iald (pc := 33) C ha1 hka1 hi dX6_skipBlanks_33 ?_
        refine xg_bipush (pc := 34) (v := 32) C dX6_skipBlanks_34 (by decide) ?_
        refine xg_icmp_ne (pc := 36) 52 C dX6_skipBlanks_36 (by decide) (fun hc => ?_) (fun hc => ?_)
        · have hF := hF.1 hc
          exact xg_retV (pc := 52) C E dX6_skipBlanks_52 hF
        · have hF := hF.2 hc
          exact hF
  · intro h hF
    refine xg_aload_n (pc := 39) C dX6_skipBlanks_39 0 rfl ?_
    refine xg_dup (pc := 40) C dX6_skipBlanks_40 (xg_rf_cat _) ?_
    refine xg_geti (pc := 41) (C1 := RX6) (T1 := TX6) (ci := 6) (ref := "SandGlasses$Reader") C inm_X6_skipBlanks_6 rfl (by decide) 7 (by decide) rfl dX6_skipBlanks_41 (List.mem_of_getElem? (i := 1) rfl) rfl rfl hthis ?_
    refine xg_iconst (pc := 44) (v := 1) C dX6_skipBlanks_44 (by decide) ?_
    refine xg_iadd (pc := 45) C dX6_skipBlanks_45 ?_
    refine xg_puti (pc := 46) (C1 := RX6) (T1 := TX6) (ci := 6) (ref := "SandGlasses$Reader") C inm_X6_skipBlanks_6 rfl (by decide) tyX6 tyX6_ok nmX6 7 (by decide) rfl dX6_skipBlanks_46 (List.mem_of_getElem? (i := 1) rfl) rfl rfl (tyX6_ok 7 (by decide)) rfl hthis (fun h2 eh2 => ?_)
    have hF := hF h2 eh2
    refine xg_goto (pc := 49) 0 C dX6_skipBlanks_49 (by decide) ?_
    exact hF
  · skip
    exact hF
def rm_X6_rowEnd : Room := { frames := 0, cells := 0, slots := 0, locals := 0 }
theorem nd_X6_rowEnd : yX6_rowEnd.cls = RX6 ∧ yX6_rowEnd.cls ≠ "java/lang/invoke/MethodHandle" ∧ yX6_rowEnd.cls ≠ "java/lang/invoke/VarHandle" ∧ (parseMethodDescriptor yX6_rowEnd.desc).map (fun d => d.parameters.length) = some 2 := by decide +kernel
theorem inm_X6_rowEnd_6 : ∀ w ∈ u_ws RX6 TX6 (xg_N 6), w ∈ wsX6_rowEnd := fun _ h9 => List.mem_cons_of_mem _ (List.mem_append_right _ h9)
set_option maxHeartbeats 4000000 in
set_option maxRecDepth 100000 in
theorem met_X6_rowEnd (Y : xg_Y) (this : Nat) (x1 : Int32) (x2 : Int32) : xg_MI yX6_rowEnd wsX6_rowEnd rm_X6_rowEnd Y [va_rf (some this), .int x1, .int x2] (fun Q h => wp_X6_rowEnd Y Q this x1 x2 h) := by
  refine xg_startI (cc := cX6_rowEnd) (maxL := 4) (own := RX6) (by decide) rfl rfl (Nat.le_of_ble_eq_true rfl) (fun X Q h C hnL E hw => ?_)
  unfold wp_X6_rowEnd at hw
  obtain ⟨hthis, hw⟩ := hw
  refine xg_sub (lv2 := [(0, va_rf (some this)), (1, .int x1), (2, .int x2)]) [0, 1, 2] rfl ?_
  refine mg_use (hw (fun (y3 : Int32) (h : xg_H) => xg_W X 0 0 Y 5 [(0, va_rf (some this)), (1, .int x1), (2, .int x2), (3, .int y3)] [] h) ?_) (fun hF => ?_)
  · intro y3 h hF
    refine xg_iload_n (pc := 5) C dX6_rowEnd_5 3 rfl ?_
    refine xg_aload_n (pc := 6) C dX6_rowEnd_6 0 rfl ?_
    refine xg_geti (pc := 7) (C1 := RX6) (T1 := TX6) (ci := 6) (ref := "SandGlasses$Reader") C inm_X6_rowEnd_6 rfl (by decide) 6 (by decide) rfl dX6_rowEnd_7 (List.mem_of_getElem? (i := 2) rfl) rfl rfl hthis ?_
    refine xg_icmp_ge (pc := 10) 39 C dX6_rowEnd_10 (by decide) (fun hc => ?_) (fun hc => ?_)
    · have hF := hF.1 hc
      refine xg_iload_n (pc := 39) C dX6_rowEnd_39 3 rfl ?_
      exact xg_retI (pc := 40) C E dX6_rowEnd_40 hF
    · have hF := hF.2 hc
      refine xg_aload_n (pc := 13) C dX6_rowEnd_13 0 rfl ?_
      refine xg_getr (pc := 14) (C1 := RX6) (T1 := TX6) (ci := 6) (ref := "SandGlasses$Reader") C inm_X6_rowEnd_6 rfl (by decide) 5 (by decide) rfl dX6_rowEnd_14 (List.mem_of_getElem? (i := 3) rfl) rfl rfl hthis ?_
      refine xg_iload_n (pc := 17) C dX6_rowEnd_17 3 rfl ?_
      obtain ⟨a2, ha2, hka2, hF⟩ := hF
      obtain ⟨hi, hF⟩ := hF
      refine xg_iald (pc := 18) C ha2 hka2 hi dX6_rowEnd_18 ?_
      refine xg_iload_n (pc := 19) C dX6_rowEnd_19 1 rfl ?_
      refine xg_icmp_lt (pc := 20) 39 C dX6_rowEnd_20 (by decide) (fun hc => ?_) (fun hc => ?_)
      · have hF := hF.1 hc
        refine xg_iload_n (pc := 39) C dX6_rowEnd_39 3 rfl ?_
        exact xg_retI (pc := 40) C E dX6_rowEnd_40 hF
      · have hF := hF.2 hc
        refine xg_aload_n (pc := 23) C dX6_rowEnd_23 0 rfl ?_
        refine xg_getr (pc := 24) (C1 := RX6) (T1 := TX6) (ci := 6) (ref := "SandGlasses$Reader") C inm_X6_rowEnd_6 rfl (by decide) 5 (by decide) rfl dX6_rowEnd_24 (List.mem_of_getElem? (i := 3) rfl) rfl rfl hthis ?_
        refine xg_iload_n (pc := 27) C dX6_rowEnd_27 3 rfl ?_
        obtain ⟨hi, hF⟩ := hF
        refine xg_iald (pc := 28) C ha2 hka2 hi dX6_rowEnd_28 ?_
        refine xg_iload_n (pc := 29) C dX6_rowEnd_29 2 rfl ?_
        refine xg_icmp_gt (pc := 30) 39 C dX6_rowEnd_30 (by decide) (fun hc => ?_) (fun hc => ?_)
        · have hF := hF.1 hc
          refine xg_iload_n (pc := 39) C dX6_rowEnd_39 3 rfl ?_
          exact xg_retI (pc := 40) C E dX6_rowEnd_40 hF
        · have hF := hF.2 hc
          obtain ⟨z3, ez3⟩ : ∃ y : Int32, y = y3 + 1 := ⟨_, rfl⟩
          have hF := hF z3 ez3
          refine xg_iinc (pc := 33) (v := z3) (lv2 := [(3, .int z3), (0, va_rf (some this)), (1, .int x1), (2, .int x2)]) C dX6_rowEnd_33 3 rfl (by rw [ez3]; rfl) 4 hnL (by decide) rfl ?_
          refine xg_goto (pc := 36) 5 C dX6_rowEnd_36 (by decide) ?_
          refine xg_sub (lv2 := [(0, va_rf (some this)), (1, .int x1), (2, .int x2), (3, .int z3)]) [1, 2, 3, 0] rfl ?_
          exact hF
  · skip
    refine xg_aload_n (pc := 0) C dX6_rowEnd_0 0 rfl ?_
    refine xg_geti (pc := 1) (C1 := RX6) (T1 := TX6) (ci := 6) (ref := "SandGlasses$Reader") C inm_X6_rowEnd_6 rfl (by decide) 7 (by decide) rfl dX6_rowEnd_1 (List.mem_of_getElem? (i := 1) rfl) rfl rfl hthis ?_
    refine xg_topi (pc := 4) (fun z1 ez1 => ?_)
    have hF := hF z1 ez1
    refine xg_istore_n (pc := 4) (lv2 := [(3, .int z1), (0, va_rf (some this)), (1, .int x1), (2, .int x2)]) C dX6_rowEnd_4 4 hnL (by decide) rfl ?_
    refine xg_sub (lv2 := [(0, va_rf (some this)), (1, .int x1), (2, .int x2), (3, .int z1)]) [1, 2, 3, 0] rfl ?_
    exact hF
def rm_X6_readNumber : Room := { frames := 1, cells := 0, slots := 0, locals := 23 }
theorem nd_X6_readNumber : yX6_readNumber.cls = RX6 ∧ yX6_readNumber.cls ≠ "java/lang/invoke/MethodHandle" ∧ yX6_readNumber.cls ≠ "java/lang/invoke/VarHandle" ∧ (parseMethodDescriptor yX6_readNumber.desc).map (fun d => d.parameters.length) = some 2 := by decide +kernel
theorem inm_X6_readNumber_6 : ∀ w ∈ u_ws RX6 TX6 (xg_N 6), w ∈ wsX6_readNumber := fun _ h9 => List.mem_cons_of_mem _ (List.mem_append_right _ h9)
set_option maxHeartbeats 4000000 in
set_option maxRecDepth 100000 in
theorem met_X6_readNumber (Y : xg_Y) (this : Nat) (x1 : Int32) (x2 : Int32) : xg_MI yX6_readNumber wsX6_readNumber rm_X6_readNumber Y [va_rf (some this), .int x1, .int x2] (fun Q h => wp_X6_readNumber Y Q this x1 x2 h) := by
  refine xg_startI (cc := cX6_readNumber) (maxL := 6) (own := RX6) (by decide) rfl rfl (Nat.le_of_ble_eq_true rfl) (fun X Q h C hnL E hw => ?_)
  unfold wp_X6_readNumber at hw
  obtain ⟨hthis, hw⟩ := hw
  refine xg_sub (lv2 := [(0, va_rf (some this)), (1, .int x1), (2, .int x2)]) [0, 1, 2] rfl ?_
  refine mg_use (hw (fun (y3 : Int32) (y4 : Int32) (y5 : Int32) (h : xg_H) => xg_W X 0 0 Y 42 [(0, va_rf (some this)), (1, .int x1), (2, .int x2), (3, .int y3), (4, .int y4), (5, .int y5)] [] h) (fun (y3 : Int32) (y4 : Int32) (h : xg_H) => xg_W X 0 0 Y 96 [(0, va_rf (some this)), (1, .int x1), (2, .int x2), (3, .int y3), (4, .int y4)] [] h) (fun (y3 : Int32) (y4 : Int32) (s0 : Int32) (h : xg_H) => xg_W X 0 0 Y 97 [(0, va_rf (some this)), (1, .int x1), (2, .int x2), (3, .int y3), (4, .int y4)] [.int s0] h) (fun (y3 : Int32) (y4 : Int32) (h : xg_H) => xg_W X 0 0 Y 132 [(0, va_rf (some this)), (2, .int x2), (3, .int y3), (4, .int y4)] [] h) (fun (y3 : Int32) (y4 : Int32) (h : xg_H) => xg_W X 0 0 Y 141 [(0, va_rf (some this)), (2, .int x2), (3, .int y3), (4, .int y4)] [] h) ?_ ?_ ?_ ?_ ?_) (fun hF => ?_)
  · intro y3 y4 y5 h hF
    refine xg_iload (pc := 42) C dX6_readNumber_42 5 rfl ?_
    refine xg_iload_n (pc := 44) C dX6_readNumber_44 3 rfl ?_
    refine xg_icmp_ge (pc := 45) 72 C dX6_readNumber_45 (by decide) (fun hc => ?_) (fun hc => ?_)
    · have hF := hF.1 hc
      refine xg_iload_n (pc := 72) C dX6_readNumber_72 1 rfl ?_
      refine xg_if_ne (pc := 73) 96 C dX6_readNumber_73 (by decide) (fun hc => ?_) (fun hc => ?_)
      · have hF := hF.1 hc
        refine xg_sub (lv2 := [(0, va_rf (some this)), (1, .int x1), (2, .int x2), (3, .int y3), (4, .int y4)]) [0, 1, 2, 3, 4] rfl ?_
        exact hF
      · have hF := hF.2 hc
        refine xg_iload_n (pc := 76) C dX6_readNumber_76 2 rfl ?_
        refine xg_iconst (pc := 77) (v := 1) C dX6_readNumber_77 (by decide) ?_
        refine xg_icmp_ne (pc := 78) 96 C dX6_readNumber_78 (by decide) (fun hc => ?_) (fun hc => ?_)
        · have hF := hF.1 hc
          refine xg_sub (lv2 := [(0, va_rf (some this)), (1, .int x1), (2, .int x2), (3, .int y3), (4, .int y4)]) [0, 1, 2, 3, 4] rfl ?_
          exact hF
        · have hF := hF.2 hc
          refine xg_iload (pc := 81) C dX6_readNumber_81 4 rfl ?_
          refine xg_aload_n (pc := 83) C dX6_readNumber_83 0 rfl ?_
          refine xg_getr (pc := 84) (C1 := RX6) (T1 := TX6) (ci := 6) (ref := "SandGlasses$Reader") C inm_X6_readNumber_6 rfl (by decide) 4 (by decide) rfl dX6_readNumber_84 (List.mem_of_getElem? (i := 3) rfl) rfl rfl hthis ?_
          refine xg_iconst (pc := 87) (v := 0) C dX6_readNumber_87 (by decide) ?_
          obtain ⟨a5, ha5, hka5, hF⟩ := hF
          obtain ⟨hi, hF⟩ := hF
          refine xg_iald (pc := 88) C ha5 hka5 hi dX6_readNumber_88 ?_
          refine xg_icmp_le (pc := 89) 96 C dX6_readNumber_89 (by decide) (fun hc => ?_) (fun hc => ?_)
          · have hF := hF.1 hc
            refine xg_sub (lv2 := [(0, va_rf (some this)), (1, .int x1), (2, .int x2), (3, .int y3), (4, .int y4)]) [0, 1, 2, 3, 4] rfl ?_
            exact hF
          · have hF := hF.2 hc
            refine xg_iconst (pc := 92) (v := 1) C dX6_readNumber_92 (by decide) ?_
            refine xg_goto (pc := 93) 97 C dX6_readNumber_93 (by decide) ?_
            refine xg_sub (lv2 := [(0, va_rf (some this)), (1, .int x1), (2, .int x2), (3, .int y3), (4, .int y4)]) [0, 1, 2, 3, 4] rfl ?_
            exact hF
    · have hF := hF.2 hc
      refine xg_iload (pc := 48) C dX6_readNumber_48 4 rfl ?_
      refine xg_bipush (pc := 50) (v := 10) C dX6_readNumber_50 (by decide) ?_
      refine xg_imul (pc := 52) C dX6_readNumber_52 ?_
      refine xg_aload_n (pc := 53) C dX6_readNumber_53 0 rfl ?_
      refine xg_getr (pc := 54) (C1 := RX6) (T1 := TX6) (ci := 6) (ref := "SandGlasses$Reader") C inm_X6_readNumber_6 rfl (by decide) 5 (by decide) rfl dX6_readNumber_54 (List.mem_of_getElem? (i := 2) rfl) rfl rfl hthis ?_
      refine xg_iload (pc := 57) C dX6_readNumber_57 5 rfl ?_
      obtain ⟨a6, ha6, hka6, hF⟩ := hF
      obtain ⟨hi, hF⟩ := hF
      refine xg_iald (pc := 59) C ha6 hka6 hi dX6_readNumber_59 ?_
      refine xg_iadd (pc := 60) C dX6_readNumber_60 ?_
      refine xg_bipush (pc := 61) (v := 48) C dX6_readNumber_61 (by decide) ?_
      refine xg_isub (pc := 63) C dX6_readNumber_63 ?_
      refine xg_topi (pc := 64) (fun z7 ez7 => ?_)
      have hF := hF z7 ez7
      refine xg_istore (pc := 64) (lv2 := [(4, .int z7), (0, va_rf (some this)), (1, .int x1), (2, .int x2), (3, .int y3), (5, .int y5)]) C dX6_readNumber_64 6 hnL (by decide) rfl ?_
      obtain ⟨z8, ez8⟩ : ∃ y : Int32, y = y5 + 1 := ⟨_, rfl⟩
      have hF := hF z8 ez8
      refine xg_iinc (pc := 66) (v := z8) (lv2 := [(5, .int z8), (4, .int z7), (0, va_rf (some this)), (1, .int x1), (2, .int x2), (3, .int y3)]) C dX6_readNumber_66 5 rfl (by rw [ez8]; rfl) 6 hnL (by decide) rfl ?_
      refine xg_goto (pc := 69) 42 C dX6_readNumber_69 (by decide) ?_
      refine xg_sub (lv2 := [(0, va_rf (some this)), (1, .int x1), (2, .int x2), (3, .int y3), (4, .int z7), (5, .int z8)]) [2, 3, 4, 5, 1, 0] rfl ?_
      exact hF
  · intro y3 y4 h hF
    refine xg_iconst (pc := 96) (v := 0) C dX6_readNumber_96 (by decide) ?_
    exact hF
  · intro y3 y4 s0 h hF
    refine xg_istore (pc := 97) (lv2 := [(5, .int s0), (0, va_rf (some this)), (1, .int x1), (2, .int x2), (3, .int y3), (4, .int y4)]) C dX6_readNumber_97 6 hnL (by decide) rfl ?_
    refine xg_iload (pc := 99) C dX6_readNumber_99 5 rfl ?_
    refine xg_gets (pc := 101) (ref := "SandGlasses$Reader") C 5 (by decide) dX6_readNumber_101 (List.mem_of_getElem? (i := 4) rfl) rfl ?_
    refine xg_iload_n (pc := 104) C dX6_readNumber_104 2 rfl ?_
    refine xg_iconst (pc := 105) (v := 2) C dX6_readNumber_105 (by decide) ?_
    refine xg_imul (pc := 106) C dX6_readNumber_106 ?_
    refine xg_iload_n (pc := 107) C dX6_readNumber_107 3 rfl ?_
    refine xg_iadd (pc := 108) C dX6_readNumber_108 ?_
    obtain ⟨hi, hF⟩ := hF
    refine xg_sld (pc := 109) C 5 (by decide) hi dX6_readNumber_109 ?_
    refine xg_icmp_lt (pc := 110) 132 C dX6_readNumber_110 (by decide) (fun hc => ?_) (fun hc => ?_)
    · have hF := hF.1 hc
      refine xg_sub (lv2 := [(0, va_rf (some this)), (2, .int x2), (3, .int y3), (4, .int y4)]) [1, 3, 4, 5] rfl ?_
      exact hF
    · have hF := hF.2 hc
      refine xg_iload (pc := 113) C dX6_readNumber_113 5 rfl ?_
      refine xg_gets (pc := 115) (ref := "SandGlasses$Reader") C 6 (by decide) dX6_readNumber_115 (List.mem_of_getElem? (i := 5) rfl) rfl ?_
      refine xg_iload_n (pc := 118) C dX6_readNumber_118 2 rfl ?_
      refine xg_iconst (pc := 119) (v := 2) C dX6_readNumber_119 (by decide) ?_
      refine xg_imul (pc := 120) C dX6_readNumber_120 ?_
      refine xg_iload_n (pc := 121) C dX6_readNumber_121 3 rfl ?_
      refine xg_iadd (pc := 122) C dX6_readNumber_122 ?_
      obtain ⟨hi, hF⟩ := hF
      refine xg_sld (pc := 123) C 6 (by decide) hi dX6_readNumber_123 ?_
      refine xg_icmp_gt (pc := 124) 132 C dX6_readNumber_124 (by decide) (fun hc => ?_) (fun hc => ?_)
      · have hF := hF.1 hc
        refine xg_sub (lv2 := [(0, va_rf (some this)), (2, .int x2), (3, .int y3), (4, .int y4)]) [1, 3, 4, 5] rfl ?_
        exact hF
      · have hF := hF.2 hc
        refine xg_iload (pc := 127) C dX6_readNumber_127 0 rfl ?_
        refine xg_if_eq (pc := 129) 141 C dX6_readNumber_129 (by decide) (fun hc => ?_) (fun hc => ?_)
        · have hF := hF.1 hc
          refine xg_sub (lv2 := [(0, va_rf (some this)), (2, .int x2), (3, .int y3), (4, .int y4)]) [1, 3, 4, 5] rfl ?_
          exact hF
        · have hF := hF.2 hc
          refine xg_sub (lv2 := [(0, va_rf (some this)), (2, .int x2), (3, .int y3), (4, .int y4)]) [1, 3, 4, 5] rfl ?_
          exact hF
  · intro y3 y4 h hF
    refine xg_aload_n (pc := 132) C dX6_readNumber_132 0 rfl ?_
    refine xg_iconst (pc := 133) (v := 2) C dX6_readNumber_133 (by decide) ?_
    refine xg_aload_n (pc := 134) C dX6_readNumber_134 0 rfl ?_
    refine xg_geti (pc := 135) (C1 := RX6) (T1 := TX6) (ci := 6) (ref := "SandGlasses$Reader") C inm_X6_readNumber_6 rfl (by decide) 7 (by decide) rfl dX6_readNumber_135 (List.mem_of_getElem? (i := 1) rfl) rfl rfl hthis ?_
    refine xg_cvV (pc := 138) (C1 := RX6) (T1 := TX6) (ci := 6) C [.int 2, .int (xg_i h this 7)] rfl hthis (by decide) rfl (met_X6_note Y this 2 (xg_i h this 7)) gX6_readNumber_X6_note rfl ⟨rfl, rfl⟩ nd_X6_note ⟨Nat.le_of_ble_eq_true rfl, Nat.le_of_ble_eq_true rfl⟩ rfl rfl (Nat.le_of_ble_eq_true rfl) ⟨Nat.zero_le _, Nat.zero_le _⟩ dX6_readNumber_138 hF (fun h9 hF => ?_)
    exact hF
  · intro y3 y4 h hF
    refine xg_aload_n (pc := 141) C dX6_readNumber_141 0 rfl ?_
    refine xg_getr (pc := 142) (C1 := RX6) (T1 := TX6) (ci := 6) (ref := "SandGlasses$Reader") C inm_X6_readNumber_6 rfl (by decide) 4 (by decide) rfl dX6_readNumber_142 (List.mem_of_getElem? (i := 3) rfl) rfl rfl hthis ?_
    refine xg_iload_n (pc := 145) C dX6_readNumber_145 1 rfl ?_
    refine xg_iload (pc := 146) C dX6_readNumber_146 3 rfl ?_
    obtain ⟨a10, ha10, hka10, hF⟩ := hF
    obtain ⟨hi, hF⟩ := hF
    refine xg_iast (pc := 148) C ha10 hka10 hi dX6_readNumber_148 (fun h11 eh11 => ?_)
    have hF := hF h11 eh11
    refine xg_aload_n (pc := 149) C dX6_readNumber_149 0 rfl ?_
    refine xg_iload_n (pc := 150) C dX6_readNumber_150 2 rfl ?_
    refine xg_puti (pc := 151) (C1 := RX6) (T1 := TX6) (ci := 6) (ref := "SandGlasses$Reader") C inm_X6_readNumber_6 rfl (by decide) tyX6 tyX6_ok nmX6 7 (by decide) rfl dX6_readNumber_151 (List.mem_of_getElem? (i := 1) rfl) rfl rfl (tyX6_ok 7 (by decide)) rfl hthis (fun h12 eh12 => ?_)
    have hF := hF h12 eh12
    refine xg_iconst (pc := 154) (v := 1) C dX6_readNumber_154 (by decide) ?_
    exact xg_retZ (pc := 155) C E (Or.inr rfl) dX6_readNumber_155 hF
  · skip
    refine xg_aload_n (pc := 0) C dX6_readNumber_0 0 rfl ?_
    refine xg_cvV (pc := 1) (C1 := RX6) (T1 := TX6) (ci := 6) C [] rfl hthis (by decide) rfl (met_X6_skipBlanks Y this) gX6_readNumber_X6_skipBlanks rfl ⟨rfl, rfl⟩ nd_X6_skipBlanks ⟨Nat.le_of_ble_eq_true rfl, Nat.le_of_ble_eq_true rfl⟩ rfl rfl (Nat.le_of_ble_eq_true rfl) ⟨Nat.zero_le _, Nat.zero_le _⟩ dX6_readNumber_1 hF (fun h1 hF => ?_)
    refine xg_aload_n (pc := 4) C dX6_readNumber_4 0 rfl ?_
    refine xg_bipush (pc := 5) (v := 48) C dX6_readNumber_5 (by decide) ?_
    refine xg_bipush (pc := 7) (v := 57) C dX6_readNumber_7 (by decide) ?_
    refine xg_cvI (pc := 9) (C1 := RX6) (T1 := TX6) (ci := 6) C [.int 48, .int 57] rfl hthis (by decide) rfl (met_X6_rowEnd Y this 48 57) gX6_readNumber_X6_rowEnd rfl ⟨rfl, rfl⟩ nd_X6_rowEnd ⟨Nat.le_of_ble_eq_true rfl, Nat.le_of_ble_eq_true rfl⟩ rfl rfl (Nat.le_of_ble_eq_true rfl) ⟨Nat.zero_le _, Nat.zero_le _⟩ dX6_readNumber_9 hF (fun r3 h2 hF => ?_)
    refine xg_istore_n (pc := 12) (lv2 := [(3, .int r3), (0, va_rf (some this)), (1, .int x1), (2, .int x2)]) C dX6_readNumber_12 6 hnL (by decide) rfl ?_
    refine xg_iload_n (pc := 13) C dX6_readNumber_13 0 rfl ?_
    refine xg_aload_n (pc := 14) C dX6_readNumber_14 1 rfl ?_
    refine xg_geti (pc := 15) (C1 := RX6) (T1 := TX6) (ci := 6) (ref := "SandGlasses$Reader") C inm_X6_readNumber_6 rfl (by decide) 7 (by decide) rfl dX6_readNumber_15 (List.mem_of_getElem? (i := 1) rfl) rfl rfl hthis ?_
    refine xg_icmp_eq (pc := 18) 31 C dX6_readNumber_18 (by decide) (fun hc => ?_) (fun hc => ?_)
    · have hF := hF.1 hc
      refine xg_iconst (pc := 31) (v := 0) C dX6_readNumber_31 (by decide) ?_
      exact xg_retZ (pc := 32) C E (Or.inl rfl) dX6_readNumber_32 hF
    · have hF := hF.2 hc
      refine xg_iload_n (pc := 21) C dX6_readNumber_21 0 rfl ?_
      refine xg_aload_n (pc := 22) C dX6_readNumber_22 1 rfl ?_
      refine xg_geti (pc := 23) (C1 := RX6) (T1 := TX6) (ci := 6) (ref := "SandGlasses$Reader") C inm_X6_readNumber_6 rfl (by decide) 7 (by decide) rfl dX6_readNumber_23 (List.mem_of_getElem? (i := 1) rfl) rfl rfl hthis ?_
      refine xg_iconst (pc := 26) (v := 2) C dX6_readNumber_26 (by decide) ?_
      refine xg_iadd (pc := 27) C dX6_readNumber_27 ?_
      refine xg_icmp_le (pc := 28) 33 C dX6_readNumber_28 (by decide) (fun hc => ?_) (fun hc => ?_)
      · have hF := hF.1 hc
        refine xg_iconst (pc := 33) (v := 0) C dX6_readNumber_33 (by decide) ?_
        refine xg_istore (pc := 34) (lv2 := [(4, .int 0), (3, .int r3), (0, va_rf (some this)), (1, .int x1), (2, .int x2)]) C dX6_readNumber_34 6 hnL (by decide) rfl ?_
        refine xg_aload_n (pc := 36) C dX6_readNumber_36 2 rfl ?_
        refine xg_geti (pc := 37) (C1 := RX6) (T1 := TX6) (ci := 6) (ref := "SandGlasses$Reader") C inm_X6_readNumber_6 rfl (by decide) 7 (by decide) rfl dX6_readNumber_37 (List.mem_of_getElem? (i := 1) rfl) rfl rfl hthis ?_
        refine xg_topi (pc := 40) (fun z4 ez4 => ?_)
        have hF := hF z4 ez4
        refine xg_istore (pc := 40) (lv2 := [(5, .int z4), (4, .int 0), (3, .int r3), (0, va_rf (some this)), (1, .int x1), (2, .int x2)]) C dX6_readNumber_40 6 hnL (by decide) rfl ?_
        refine xg_sub (lv2 := [(0, va_rf (some this)), (1, .int x1), (2, .int x2), (3, .int r3), (4, .int 0), (5, .int z4)]) [3, 4, 5, 2, 1, 0] rfl ?_
        exact hF
      · have hF := hF.2 hc
        refine xg_iconst (pc := 31) (v := 0) C dX6_readNumber_31 (by decide) ?_
        exact xg_retZ (pc := 32) C E (Or.inl rfl) dX6_readNumber_32 hF
def rm_X6_take : Room := { frames := 0, cells := 0, slots := 0, locals := 0 }
theorem nd_X6_take : yX6_take.cls = RX6 ∧ yX6_take.cls ≠ "java/lang/invoke/MethodHandle" ∧ yX6_take.cls ≠ "java/lang/invoke/VarHandle" ∧ (parseMethodDescriptor yX6_take.desc).map (fun d => d.parameters.length) = some 1 := by decide +kernel
theorem inm_X6_take_6 : ∀ w ∈ u_ws RX6 TX6 (xg_N 6), w ∈ wsX6_take := fun _ h9 => List.mem_cons_of_mem _ (List.mem_append_left _ (List.mem_append_right _ h9))
theorem inm_X6_take_8 : ∀ w ∈ u_ws RX8 TX8 (xg_N 8), w ∈ wsX6_take := fun _ h9 => List.mem_cons_of_mem _ (List.mem_append_right _ h9)
set_option maxHeartbeats 4000000 in
set_option maxRecDepth 100000 in
theorem met_X6_take (Y : xg_Y) (this : Nat) (x1 : Int32) : xg_MV yX6_take wsX6_take rm_X6_take Y [va_rf (some this), .int x1] (fun Q h => wp_X6_take Y Q this x1 h) := by
  refine xg_startV (cc := cX6_take) (maxL := 4) (own := RX6) (by decide) rfl rfl (Nat.le_of_ble_eq_true rfl) (fun X Q h C hnL E hw => ?_)
  unfold wp_X6_take at hw
  obtain ⟨hthis, hw⟩ := hw
  refine xg_sub (lv2 := [(0, va_rf (some this)), (1, .int x1)]) [0, 1] rfl ?_
  refine mg_use (hw (fun (y2 : Int32) (y3 : Option Nat) (s0 : Int32) (s1 : Int32) (s2 : Option Nat) (h : xg_H) => xg_W X 0 0 Y 154 [(0, va_rf (some this)), (1, .int x1), (2, .int y2), (3, va_rf y3)] [.int s0, .int s1, va_rf s2] h) (fun (s0 : Int32) (s1 : Int32) (s2 : Option Nat) (h : xg_H) => xg_W X 0 0 Y 211 [] [.int s0, .int s1, va_rf s2] h) (fun (s0 : Int32) (s1 : Int32) (s2 : Option Nat) (h : xg_H) => xg_W X 0 0 Y 176 [] [.int s0, .int s1, va_rf s2] h) ?_ ?_ ?_) (fun hF => ?_)
  · intro y2 y3 s0 s1 s2 h hF
    obtain ⟨a21, ha21, hka21, hF⟩ := hF
    obtain ⟨hi, hF⟩ := hF
    refine xg_iast (pc := 154) C ha21 hka21 hi dX6_take_154 (fun h22 eh22 => ?_)
    have hF := hF h22 eh22
    refine xg_aload_n (pc := 155) C dX6_take_155 3 rfl ?_
    obtain ⟨a23, ha23, hka23, hF⟩ := hF
    refine xg_getr (pc := 156) (C1 := RX8) (T1 := TX8) (ci := 8) (ref := "SandGlasses$Text") C inm_X6_take_8 rfl (by decide) 2 (by decide) rfl dX6_take_156 (List.mem_of_getElem? (i := 8) rfl) rfl ha23 hka23 ?_
    refine xg_iload_n (pc := 159) C dX6_take_159 2 rfl ?_
    refine xg_iload_n (pc := 160) C dX6_take_160 1 rfl ?_
    refine xg_bipush (pc := 161) (v := 7) C dX6_take_161 (by decide) ?_
    refine xg_icmp_ne (pc := 163) 175 C dX6_take_163 (by decide) (fun hc => ?_) (fun hc => ?_)
    · have hF := hF.1 hc
      refine xg_iconst (pc := 175) (v := (-1)) C dX6_take_175 (by decide) ?_
      refine xg_sub (lv2 := []) [] rfl ?_
      exact hF
    · have hF := hF.2 hc
      refine xg_aload_n (pc := 166) C dX6_take_166 0 rfl ?_
      refine xg_getr (pc := 167) (C1 := RX6) (T1 := TX6) (ci := 6) (ref := "SandGlasses$Reader") C inm_X6_take_6 rfl (by decide) 4 (by decide) rfl dX6_take_167 (List.mem_of_getElem? (i := 2) rfl) rfl rfl hthis ?_
      refine xg_iconst (pc := 170) (v := 0) C dX6_take_170 (by decide) ?_
      obtain ⟨a24, ha24, hka24, hF⟩ := hF
      obtain ⟨hi, hF⟩ := hF
      refine xg_iald (pc := 171) C ha24 hka24 hi dX6_take_171 ?_
      refine xg_goto (pc := 172) 176 C dX6_take_172 (by decide) ?_
      refine xg_sub (lv2 := []) [] rfl ?_
      exact hF
  · intro s0 s1 s2 h hF
    obtain ⟨a25, ha25, hka25, hF⟩ := hF
    obtain ⟨hi, hF⟩ := hF
    refine xg_iast (pc := 211) C ha25 hka25 hi dX6_take_211 (fun h26 eh26 => ?_)
    have hF := hF h26 eh26
    exact xg_retV (pc := 212) C E dX6_take_212 hF
  · intro s0 s1 s2 h hF
    obtain ⟨a27, ha27, hka27, hF⟩ := hF
    obtain ⟨hi, hF⟩ := hF
    refine xg_iast (pc := 176) C ha27 hka27 hi dX6_take_176 (fun h28 eh28 => ?_)
    have hF := hF h28 eh28
    refine xg_goto (pc := 177) 212 C dX6_take_177 (by decide) ?_
    exact xg_retV (pc := 212) C E dX6_take_212 hF
  · skip
    refine xg_iload_n (pc := 0) C dX6_take_0 1 rfl ?_
    refine xg_iconst (pc := 1) (v := 1) C dX6_take_1 (by decide) ?_
    refine xg_icmp_ne (pc := 2) 44 C dX6_take_2 (by decide) (fun hc => ?_) (fun hc => ?_)
    · have hF := hF.1 hc
      refine xg_aload_n (pc := 44) C dX6_take_44 0 rfl ?_
      refine xg_geti (pc := 45) (C1 := RX6) (T1 := TX6) (ci := 6) (ref := "SandGlasses$Reader") C inm_X6_take_6 rfl (by decide) 9 (by decide) rfl dX6_take_45 (List.mem_of_getElem? (i := 4) rfl) rfl rfl hthis ?_
      refine xg_iconst (pc := 48) (v := 1) C dX6_take_48 (by decide) ?_
      refine xg_isub (pc := 49) C dX6_take_49 ?_
      refine xg_topi (pc := 50) (fun z1 ez1 => ?_)
      have hF := hF z1 ez1
      refine xg_istore_n (pc := 50) (lv2 := [(2, .int z1), (0, va_rf (some this)), (1, .int x1)]) C dX6_take_50 4 hnL (by decide) rfl ?_
      refine xg_aload_n (pc := 51) C dX6_take_51 1 rfl ?_
      refine xg_getr (pc := 52) (C1 := RX6) (T1 := TX6) (ci := 6) (ref := "SandGlasses$Reader") C inm_X6_take_6 rfl (by decide) 2 (by decide) rfl dX6_take_52 (List.mem_of_getElem? (i := 5) rfl) rfl rfl hthis ?_
      refine xg_aload_n (pc := 55) C dX6_take_55 1 rfl ?_
      refine xg_geti (pc := 56) (C1 := RX6) (T1 := TX6) (ci := 6) (ref := "SandGlasses$Reader") C inm_X6_take_6 rfl (by decide) 8 (by decide) rfl dX6_take_56 (List.mem_of_getElem? (i := 6) rfl) rfl rfl hthis ?_
      obtain ⟨a2, ha2, hka2, hF⟩ := hF
      obtain ⟨hi, hF⟩ := hF
      refine xg_aald (pc := 59) (c9 := 27) (C9 := "SandGlasses$Text") C ha2 hka2 (by decide) rfl hi dX6_take_59 ?_
      refine xg_topr (pc := 60) (fun z3 ez3 => ?_)
      have hF := hF z3 ez3
      refine xg_astore_n (pc := 60) (lv2 := [(3, va_rf z3), (2, .int z1), (0, va_rf (some this)), (1, .int x1)]) C dX6_take_60 4 hnL (by decide) rfl ?_
      refine xg_iload_n (pc := 61) C dX6_take_61 1 rfl ?_
      refine xg_if_lt (pc := 62) 74 C dX6_take_62 (by decide) (fun hc => ?_) (fun hc => ?_)
      · have hF := hF.1 hc
        exact xg_retV (pc := 74) C E dX6_take_74 hF
      · have hF := hF.2 hc
        refine xg_iload_n (pc := 65) C dX6_take_65 1 rfl ?_
        refine xg_aload_n (pc := 66) C dX6_take_66 0 rfl ?_
        obtain ⟨a4, ha4, hka4, hF⟩ := hF
        refine xg_getr (pc := 67) (C1 := RX8) (T1 := TX8) (ci := 8) (ref := "SandGlasses$Text") C inm_X6_take_8 rfl (by decide) 1 (by decide) rfl dX6_take_67 (List.mem_of_getElem? (i := 7) rfl) rfl ha4 hka4 ?_
        obtain ⟨a5, ha5, hka5, hF⟩ := hF
        refine xg_alen (pc := 70) (c9 := 22) C ha5 hka5 (by decide) dX6_take_70 ?_
        refine xg_icmp_lt (pc := 71) 75 C dX6_take_71 (by decide) (fun hc => ?_) (fun hc => ?_)
        · have hF := hF.1 hc
          refine xg_aload_n (pc := 75) C dX6_take_75 2 rfl ?_
          refine xg_geti (pc := 76) (C1 := RX6) (T1 := TX6) (ci := 6) (ref := "SandGlasses$Reader") C inm_X6_take_6 rfl (by decide) 8 (by decide) rfl dX6_take_76 (List.mem_of_getElem? (i := 6) rfl) rfl rfl hthis ?_
          refine xg_topi (pc := 79) (fun z6 ez6 => ?_)
          have hF := hF z6 ez6
          by_cases hs0 : z6 = 1
          · have hF := hF.1 hs0
            refine xg_look (pc := 79) 104 C dX6_take_79 (by decide) (off := 25) (by rw [hs0]; rfl) (by decide) ?_
            refine xg_aload_n (pc := 104) C dX6_take_104 0 rfl ?_
            refine xg_getr (pc := 105) (C1 := RX8) (T1 := TX8) (ci := 8) (ref := "SandGlasses$Text") C inm_X6_take_8 rfl (by decide) 1 (by decide) rfl dX6_take_105 (List.mem_of_getElem? (i := 7) rfl) rfl ha4 hka4 ?_
            refine xg_iload_n (pc := 108) C dX6_take_108 1 rfl ?_
            refine xg_iload_n (pc := 109) C dX6_take_109 3 rfl ?_
            refine xg_iconst (pc := 110) (v := 2) C dX6_take_110 (by decide) ?_
            refine xg_isub (pc := 111) C dX6_take_111 ?_
            obtain ⟨hi, hF⟩ := hF
            refine xg_iast (pc := 112) C ha5 hka5 hi dX6_take_112 (fun h7 eh7 => ?_)
            have hF := hF h7 eh7
            refine xg_aload_n (pc := 113) C dX6_take_113 0 rfl ?_
            refine xg_getr (pc := 114) (C1 := RX8) (T1 := TX8) (ci := 8) (ref := "SandGlasses$Text") C inm_X6_take_8 rfl (by decide) 2 (by decide) rfl dX6_take_114 (List.mem_of_getElem? (i := 8) rfl) rfl ha4 hka4 ?_
            refine xg_iload_n (pc := 117) C dX6_take_117 1 rfl ?_
            refine xg_aload_n (pc := 118) C dX6_take_118 2 rfl ?_
            refine xg_getr (pc := 119) (C1 := RX6) (T1 := TX6) (ci := 6) (ref := "SandGlasses$Reader") C inm_X6_take_6 rfl (by decide) 4 (by decide) rfl dX6_take_119 (List.mem_of_getElem? (i := 2) rfl) rfl rfl hthis ?_
            refine xg_iconst (pc := 122) (v := 0) C dX6_take_122 (by decide) ?_
            obtain ⟨a8, ha8, hka8, hF⟩ := hF
            obtain ⟨hi, hF⟩ := hF
            refine xg_iald (pc := 123) C ha8 hka8 hi dX6_take_123 ?_
            obtain ⟨a9, ha9, hka9, hF⟩ := hF
            obtain ⟨hi, hF⟩ := hF
            refine xg_iast (pc := 124) C ha9 hka9 hi dX6_take_124 (fun h10 eh10 => ?_)
            have hF := hF h10 eh10
            refine xg_goto (pc := 125) 212 C dX6_take_125 (by decide) ?_
            exact xg_retV (pc := 212) C E dX6_take_212 hF
          have hF := hF.2
          by_cases hs1 : z6 = 2
          · have hF := hF.1 hs1
            refine xg_look (pc := 79) 128 C dX6_take_79 (by decide) (off := 49) (by rw [hs1]; rfl) (by decide) ?_
            refine xg_aload_n (pc := 128) C dX6_take_128 0 rfl ?_
            refine xg_getr (pc := 129) (C1 := RX8) (T1 := TX8) (ci := 8) (ref := "SandGlasses$Text") C inm_X6_take_8 rfl (by decide) 1 (by decide) rfl dX6_take_129 (List.mem_of_getElem? (i := 7) rfl) rfl ha4 hka4 ?_
            refine xg_iload_n (pc := 132) C dX6_take_132 1 rfl ?_
            refine xg_iload_n (pc := 133) C dX6_take_133 3 rfl ?_
            refine xg_bipush (pc := 134) (v := 7) C dX6_take_134 (by decide) ?_
            refine xg_icmp_ne (pc := 136) 148 C dX6_take_136 (by decide) (fun hc => ?_) (fun hc => ?_)
            · have hF := hF.1 hc
              refine xg_aload_n (pc := 148) C dX6_take_148 2 rfl ?_
              refine xg_getr (pc := 149) (C1 := RX6) (T1 := TX6) (ci := 6) (ref := "SandGlasses$Reader") C inm_X6_take_6 rfl (by decide) 4 (by decide) rfl dX6_take_149 (List.mem_of_getElem? (i := 2) rfl) rfl rfl hthis ?_
              refine xg_iconst (pc := 152) (v := 0) C dX6_take_152 (by decide) ?_
              obtain ⟨a11, ha11, hka11, hF⟩ := hF
              obtain ⟨hi, hF⟩ := hF
              refine xg_iald (pc := 153) C ha11 hka11 hi dX6_take_153 ?_
              refine xg_sub (lv2 := [(0, va_rf (some this)), (1, .int x1), (2, .int z1), (3, va_rf z3)]) [2, 3, 1, 0] rfl ?_
              exact hF
            · have hF := hF.2 hc
              refine xg_aload_n (pc := 139) C dX6_take_139 2 rfl ?_
              refine xg_getr (pc := 140) (C1 := RX6) (T1 := TX6) (ci := 6) (ref := "SandGlasses$Reader") C inm_X6_take_6 rfl (by decide) 4 (by decide) rfl dX6_take_140 (List.mem_of_getElem? (i := 2) rfl) rfl rfl hthis ?_
              refine xg_iconst (pc := 143) (v := 1) C dX6_take_143 (by decide) ?_
              obtain ⟨a12, ha12, hka12, hF⟩ := hF
              obtain ⟨hi, hF⟩ := hF
              refine xg_iald (pc := 144) C ha12 hka12 hi dX6_take_144 ?_
              refine xg_goto (pc := 145) 154 C dX6_take_145 (by decide) ?_
              refine xg_sub (lv2 := [(0, va_rf (some this)), (1, .int x1), (2, .int z1), (3, va_rf z3)]) [2, 3, 1, 0] rfl ?_
              exact hF
          have hF := hF.2
          have hF := hF hs0 hs1
          refine xg_look (pc := 79) 180 C dX6_take_79 (by decide) (off := 101) (xg_lkd hs0 hs1) (by decide) ?_
          refine xg_aload_n (pc := 180) C dX6_take_180 0 rfl ?_
          refine xg_getr (pc := 181) (C1 := RX8) (T1 := TX8) (ci := 8) (ref := "SandGlasses$Text") C inm_X6_take_8 rfl (by decide) 1 (by decide) rfl dX6_take_181 (List.mem_of_getElem? (i := 7) rfl) rfl ha4 hka4 ?_
          refine xg_iload_n (pc := 184) C dX6_take_184 1 rfl ?_
          refine xg_aload_n (pc := 185) C dX6_take_185 2 rfl ?_
          refine xg_getr (pc := 186) (C1 := RX6) (T1 := TX6) (ci := 6) (ref := "SandGlasses$Reader") C inm_X6_take_6 rfl (by decide) 4 (by decide) rfl dX6_take_186 (List.mem_of_getElem? (i := 2) rfl) rfl rfl hthis ?_
          refine xg_iconst (pc := 189) (v := 0) C dX6_take_189 (by decide) ?_
          obtain ⟨a13, ha13, hka13, hF⟩ := hF
          obtain ⟨hi, hF⟩ := hF
          refine xg_iald (pc := 190) C ha13 hka13 hi dX6_take_190 ?_
          obtain ⟨hi, hF⟩ := hF
          refine xg_iast (pc := 191) C ha5 hka5 hi dX6_take_191 (fun h14 eh14 => ?_)
          have hF := hF h14 eh14
          refine xg_aload_n (pc := 192) C dX6_take_192 0 rfl ?_
          refine xg_getr (pc := 193) (C1 := RX8) (T1 := TX8) (ci := 8) (ref := "SandGlasses$Text") C inm_X6_take_8 rfl (by decide) 2 (by decide) rfl dX6_take_193 (List.mem_of_getElem? (i := 8) rfl) rfl ha4 hka4 ?_
          refine xg_iload_n (pc := 196) C dX6_take_196 1 rfl ?_
          refine xg_iload_n (pc := 197) C dX6_take_197 3 rfl ?_
          refine xg_if_ne (pc := 198) 210 C dX6_take_198 (by decide) (fun hc => ?_) (fun hc => ?_)
          · have hF := hF.1 hc
            refine xg_iconst (pc := 210) (v := 0) C dX6_take_210 (by decide) ?_
            refine xg_sub (lv2 := []) [] rfl ?_
            exact hF
          · have hF := hF.2 hc
            refine xg_aload_n (pc := 201) C dX6_take_201 2 rfl ?_
            refine xg_getr (pc := 202) (C1 := RX6) (T1 := TX6) (ci := 6) (ref := "SandGlasses$Reader") C inm_X6_take_6 rfl (by decide) 4 (by decide) rfl dX6_take_202 (List.mem_of_getElem? (i := 2) rfl) rfl rfl hthis ?_
            refine xg_iconst (pc := 205) (v := 1) C dX6_take_205 (by decide) ?_
            obtain ⟨a15, ha15, hka15, hF⟩ := hF
            obtain ⟨hi, hF⟩ := hF
            refine xg_iald (pc := 206) C ha15 hka15 hi dX6_take_206 ?_
            refine xg_goto (pc := 207) 211 C dX6_take_207 (by decide) ?_
            refine xg_sub (lv2 := []) [] rfl ?_
            exact hF
        · have hF := hF.2 hc
          exact xg_retV (pc := 74) C E dX6_take_74 hF
    · have hF := hF.2 hc
      refine xg_aload_n (pc := 5) C dX6_take_5 0 rfl ?_
      refine xg_getr (pc := 6) (C1 := RX6) (T1 := TX6) (ci := 6) (ref := "SandGlasses$Reader") C inm_X6_take_6 rfl (by decide) 3 (by decide) rfl dX6_take_6 (List.mem_of_getElem? (i := 1) rfl) rfl rfl hthis ?_
      refine xg_aload_n (pc := 9) C dX6_take_9 0 rfl ?_
      refine xg_getr (pc := 10) (C1 := RX6) (T1 := TX6) (ci := 6) (ref := "SandGlasses$Reader") C inm_X6_take_6 rfl (by decide) 4 (by decide) rfl dX6_take_10 (List.mem_of_getElem? (i := 2) rfl) rfl rfl hthis ?_
      refine xg_iconst (pc := 13) (v := 0) C dX6_take_13 (by decide) ?_
      obtain ⟨a16, ha16, hka16, hF⟩ := hF
      obtain ⟨hi, hF⟩ := hF
      refine xg_iald (pc := 14) C ha16 hka16 hi dX6_take_14 ?_
      refine xg_iconst (pc := 15) (v := 3) C dX6_take_15 (by decide) ?_
      refine xg_iand (pc := 16) C dX6_take_16 ?_
      refine xg_aload_n (pc := 17) C dX6_take_17 0 rfl ?_
      refine xg_getr (pc := 18) (C1 := RX6) (T1 := TX6) (ci := 6) (ref := "SandGlasses$Reader") C inm_X6_take_6 rfl (by decide) 4 (by decide) rfl dX6_take_18 (List.mem_of_getElem? (i := 2) rfl) rfl rfl hthis ?_
      refine xg_iconst (pc := 21) (v := 1) C dX6_take_21 (by decide) ?_
      obtain ⟨hi, hF⟩ := hF
      refine xg_iald (pc := 22) C ha16 hka16 hi dX6_take_22 ?_
      obtain ⟨a17, ha17, hka17, hF⟩ := hF
      obtain ⟨hi, hF⟩ := hF
      refine xg_iast (pc := 23) C ha17 hka17 hi dX6_take_23 (fun h18 eh18 => ?_)
      have hF := hF h18 eh18
      refine xg_aload_n (pc := 24) C dX6_take_24 0 rfl ?_
      refine xg_dup (pc := 25) C dX6_take_25 (xg_rf_cat _) ?_
      refine xg_geti (pc := 26) (C1 := RX6) (T1 := TX6) (ci := 6) (ref := "SandGlasses$Reader") C inm_X6_take_6 rfl (by decide) 10 (by decide) rfl dX6_take_26 (List.mem_of_getElem? (i := 3) rfl) rfl rfl hthis ?_
      refine xg_iconst (pc := 29) (v := 1) C dX6_take_29 (by decide) ?_
      refine xg_aload_n (pc := 30) C dX6_take_30 0 rfl ?_
      refine xg_getr (pc := 31) (C1 := RX6) (T1 := TX6) (ci := 6) (ref := "SandGlasses$Reader") C inm_X6_take_6 rfl (by decide) 4 (by decide) rfl dX6_take_31 (List.mem_of_getElem? (i := 2) rfl) rfl rfl hthis ?_
      refine xg_iconst (pc := 34) (v := 0) C dX6_take_34 (by decide) ?_
      obtain ⟨a19, ha19, hka19, hF⟩ := hF
      obtain ⟨hi, hF⟩ := hF
      refine xg_iald (pc := 35) C ha19 hka19 hi dX6_take_35 ?_
      refine xg_iconst (pc := 36) (v := 3) C dX6_take_36 (by decide) ?_
      refine xg_iand (pc := 37) C dX6_take_37 ?_
      refine xg_ishl (pc := 38) C dX6_take_38 ?_
      refine xg_ior (pc := 39) C dX6_take_39 ?_
      refine xg_puti (pc := 40) (C1 := RX6) (T1 := TX6) (ci := 6) (ref := "SandGlasses$Reader") C inm_X6_take_6 rfl (by decide) tyX6 tyX6_ok nmX6 10 (by decide) rfl dX6_take_40 (List.mem_of_getElem? (i := 3) rfl) rfl rfl (tyX6_ok 10 (by decide)) rfl hthis (fun h20 eh20 => ?_)
      have hF := hF h20 eh20
      exact xg_retV (pc := 43) C E dX6_take_43 hF
def rm_X9_keep : Room := { frames := 2, cells := 0, slots := 0, locals := 81 }
theorem nd_X9_keep : yX9_keep.cls = RX9 ∧ yX9_keep.cls ≠ "java/lang/invoke/MethodHandle" ∧ yX9_keep.cls ≠ "java/lang/invoke/VarHandle" ∧ (parseMethodDescriptor yX9_keep.desc).map (fun d => d.parameters.length) = some 3 := by decide +kernel
theorem inm_X9_keep_9 : ∀ w ∈ u_ws RX9 TX9 (xg_N 9), w ∈ wsX9_keep := fun _ h9 => List.mem_cons_of_mem _ (List.mem_append_left _ (List.mem_append_right _ h9))
set_option maxHeartbeats 4000000 in
set_option maxRecDepth 100000 in
theorem met_X9_keep (Y : xg_Y) (this : Nat) (x1 : Int32) (x2 : Int32) (x3 : Option Nat) : xg_MV yX9_keep wsX9_keep rm_X9_keep Y [va_rf (some this), .int x1, .int x2, va_rf x3] (fun Q h => wp_X9_keep Y Q this x1 x2 x3 h) := by
  refine xg_startV (cc := cX9_keep) (maxL := 4) (own := RX9) (by decide) rfl rfl (by cases x3 <;> exact Nat.le_of_ble_eq_true rfl) (fun X Q h C hnL E hw => ?_)
  unfold wp_X9_keep at hw
  obtain ⟨hthis, hw⟩ := hw
  refine xg_sub (lv2 := [(0, va_rf (some this)), (1, .int x1), (2, .int x2), (3, va_rf x3)]) [0, 1, 2, 3] (by cases x3 <;> rfl) ?_
  have hF := hw
  refine xg_iload_n (pc := 0) C dX9_keep_0 1 rfl ?_
  refine xg_if_lt (pc := 1) 18 C dX9_keep_1 (by decide) (fun hc => ?_) (fun hc => ?_)
  · have hF := hF.1 hc
    exact xg_retV (pc := 18) C E dX9_keep_18 hF
  · have hF := hF.2 hc
    refine xg_iload_n (pc := 4) C dX9_keep_4 1 rfl ?_
    refine xg_iconst (pc := 5) (v := 4) C dX9_keep_5 (by decide) ?_
    refine xg_icmp_ge (pc := 6) 18 C dX9_keep_6 (by decide) (fun hc => ?_) (fun hc => ?_)
    · have hF := hF.1 hc
      exact xg_retV (pc := 18) C E dX9_keep_18 hF
    · have hF := hF.2 hc
      refine xg_iload_n (pc := 9) C dX9_keep_9 2 rfl ?_
      refine xg_if_lt (pc := 10) 18 C dX9_keep_10 (by decide) (fun hc => ?_) (fun hc => ?_)
      · have hF := hF.1 hc
        exact xg_retV (pc := 18) C E dX9_keep_18 hF
      · have hF := hF.2 hc
        refine xg_iload_n (pc := 13) C dX9_keep_13 2 rfl ?_
        refine xg_iconst (pc := 14) (v := 2) C dX9_keep_14 (by decide) ?_
        refine xg_icmp_lt (pc := 15) 19 C dX9_keep_15 (by decide) (fun hc => ?_) (fun hc => ?_)
        · have hF := hF.1 hc
          refine xg_aload_n (pc := 19) C dX9_keep_19 0 rfl ?_
          refine xg_getr (pc := 20) (C1 := RX9) (T1 := TX9) (ci := 9) (ref := "SandGlasses$Told") C inm_X9_keep_9 rfl (by decide) 5 (by decide) rfl dX9_keep_20 (List.mem_of_getElem? (i := 1) rfl) rfl rfl hthis ?_
          refine xg_iload_n (pc := 23) C dX9_keep_23 1 rfl ?_
          refine xg_iconst (pc := 24) (v := 2) C dX9_keep_24 (by decide) ?_
          refine xg_imul (pc := 25) C dX9_keep_25 ?_
          refine xg_iload_n (pc := 26) C dX9_keep_26 2 rfl ?_
          refine xg_iadd (pc := 27) C dX9_keep_27 ?_
          obtain ⟨a1, ha1, hka1, hF⟩ := hF
          obtain ⟨hi, hF⟩ := hF
          refine xg_aald (pc := 28) (c9 := 27) (C9 := "SandGlasses$Text") C ha1 hka1 (by decide) rfl hi dX9_keep_28 ?_
          refine xg_aload_n (pc := 29) C dX9_keep_29 3 rfl ?_
          obtain ⟨a2, ha2, hka2, hF⟩ := hF
          refine xg_cvV (pc := 30) (C1 := RX8) (T1 := TX8) (ci := 8) C [va_rf x3] ha2 hka2 (by decide) rfl (met_X8_become Y a2 x3) gX9_keep_X8_become rfl ⟨rfl, rfl⟩ nd_X8_become ⟨Nat.le_of_ble_eq_true rfl, Nat.le_of_ble_eq_true rfl⟩ rfl rfl (Nat.le_of_ble_eq_true rfl) ⟨Nat.zero_le _, Nat.zero_le _⟩ dX9_keep_30 hF (fun h3 hF => ?_)
          refine xg_aload_n (pc := 33) C dX9_keep_33 0 rfl ?_
          refine xg_getr (pc := 34) (C1 := RX9) (T1 := TX9) (ci := 9) (ref := "SandGlasses$Told") C inm_X9_keep_9 rfl (by decide) 4 (by decide) rfl dX9_keep_34 (List.mem_of_getElem? (i := 2) rfl) rfl rfl hthis ?_
          refine xg_iload_n (pc := 37) C dX9_keep_37 1 rfl ?_
          refine xg_aload_n (pc := 38) C dX9_keep_38 0 rfl ?_
          refine xg_getr (pc := 39) (C1 := RX9) (T1 := TX9) (ci := 9) (ref := "SandGlasses$Told") C inm_X9_keep_9 rfl (by decide) 4 (by decide) rfl dX9_keep_39 (List.mem_of_getElem? (i := 2) rfl) rfl rfl hthis ?_
          refine xg_iload_n (pc := 42) C dX9_keep_42 1 rfl ?_
          obtain ⟨a4, ha4, hka4, hF⟩ := hF
          obtain ⟨hi, hF⟩ := hF
          refine xg_iald (pc := 43) C ha4 hka4 hi dX9_keep_43 ?_
          refine xg_iload_n (pc := 44) C dX9_keep_44 2 rfl ?_
          refine xg_iconst (pc := 45) (v := 1) C dX9_keep_45 (by decide) ?_
          refine xg_iadd (pc := 46) C dX9_keep_46 ?_
          refine xg_mmax (pc := 47) C (List.mem_of_getElem? (i := 3) rfl) (List.mem_of_getElem? (i := 4) rfl) (List.mem_of_getElem? (i := 5) rfl) (List.mem_of_getElem? (i := 6) rfl) (Nat.le_of_ble_eq_true rfl) (by simp [xg_rf_cat, xg_cat_i, xg_cat_l, xg_cat_a, rm_X9_keep]) (Nat.zero_le _) (Nat.zero_le _) dX9_keep_47 ?_
          refine xg_topi (pc := 50) (fun z5 ez5 => ?_)
          have hF := hF z5 ez5
          obtain ⟨hi, hF⟩ := hF
          refine xg_iast (pc := 50) C ha4 hka4 hi dX9_keep_50 (fun h6 eh6 => ?_)
          have hF := hF h6 eh6
          exact xg_retV (pc := 51) C E dX9_keep_51 hF
        · have hF := hF.2 hc
          exact xg_retV (pc := 18) C E dX9_keep_18 hF
def rm_X9_numberFor : Room := { frames := 0, cells := 0, slots := 0, locals := 0 }
theorem nd_X9_numberFor : yX9_numberFor.cls = RX9 ∧ yX9_numberFor.cls ≠ "java/lang/invoke/MethodHandle" ∧ yX9_numberFor.cls ≠ "java/lang/invoke/VarHandle" ∧ (parseMethodDescriptor yX9_numberFor.desc).map (fun d => d.parameters.length) = some 2 := by decide +kernel
theorem inm_X9_numberFor_9 : ∀ w ∈ u_ws RX9 TX9 (xg_N 9), w ∈ wsX9_numberFor := fun _ h9 => List.mem_cons_of_mem _ (List.mem_append_right _ h9)
set_option maxHeartbeats 4000000 in
set_option maxRecDepth 100000 in
theorem met_X9_numberFor (Y : xg_Y) (this : Nat) (x1 : Int32) (x2 : Int32) : xg_MI yX9_numberFor wsX9_numberFor rm_X9_numberFor Y [va_rf (some this), .int x1, .int x2] (fun Q h => wp_X9_numberFor Y Q this x1 x2 h) := by
  refine xg_startI (cc := cX9_numberFor) (maxL := 3) (own := RX9) (by decide) rfl rfl (Nat.le_of_ble_eq_true rfl) (fun X Q h C hnL E hw => ?_)
  unfold wp_X9_numberFor at hw
  obtain ⟨hthis, hw⟩ := hw
  refine xg_sub (lv2 := [(0, va_rf (some this)), (1, .int x1), (2, .int x2)]) [0, 1, 2] rfl ?_
  have hF := hw
  refine xg_iload_n (pc := 0) C dX9_numberFor_0 1 rfl ?_
  refine xg_if_lt (pc := 1) 9 C dX9_numberFor_1 (by decide) (fun hc => ?_) (fun hc => ?_)
  · have hF := hF.1 hc
    refine xg_iconst (pc := 9) (v := (-1)) C dX9_numberFor_9 (by decide) ?_
    exact xg_retI (pc := 10) C E dX9_numberFor_10 hF
  · have hF := hF.2 hc
    refine xg_iload_n (pc := 4) C dX9_numberFor_4 1 rfl ?_
    refine xg_iconst (pc := 5) (v := 4) C dX9_numberFor_5 (by decide) ?_
    refine xg_icmp_lt (pc := 6) 11 C dX9_numberFor_6 (by decide) (fun hc => ?_) (fun hc => ?_)
    · have hF := hF.1 hc
      refine xg_iload_n (pc := 11) C dX9_numberFor_11 2 rfl ?_
      refine xg_iconst (pc := 12) (v := (-1)) C dX9_numberFor_12 (by decide) ?_
      refine xg_icmp_ne (pc := 13) 37 C dX9_numberFor_13 (by decide) (fun hc => ?_) (fun hc => ?_)
      · have hF := hF.1 hc
        refine xg_iload_n (pc := 37) C dX9_numberFor_37 2 rfl ?_
        refine xg_if_lt (pc := 38) 55 C dX9_numberFor_38 (by decide) (fun hc => ?_) (fun hc => ?_)
        · have hF := hF.1 hc
          refine xg_iconst (pc := 55) (v := (-1)) C dX9_numberFor_55 (by decide) ?_
          exact xg_retI (pc := 56) C E dX9_numberFor_56 hF
        · have hF := hF.2 hc
          refine xg_iload_n (pc := 41) C dX9_numberFor_41 2 rfl ?_
          refine xg_aload_n (pc := 42) C dX9_numberFor_42 0 rfl ?_
          refine xg_getr (pc := 43) (C1 := RX9) (T1 := TX9) (ci := 9) (ref := "SandGlasses$Told") C inm_X9_numberFor_9 rfl (by decide) 4 (by decide) rfl dX9_numberFor_43 (List.mem_of_getElem? (i := 1) rfl) rfl rfl hthis ?_
          refine xg_iload_n (pc := 46) C dX9_numberFor_46 1 rfl ?_
          obtain ⟨a1, ha1, hka1, hF⟩ := hF
          obtain ⟨hi, hF⟩ := hF
          refine xg_iald (pc := 47) C ha1 hka1 hi dX9_numberFor_47 ?_
          refine xg_icmp_ge (pc := 48) 55 C dX9_numberFor_48 (by decide) (fun hc => ?_) (fun hc => ?_)
          · have hF := hF.1 hc
            refine xg_iconst (pc := 55) (v := (-1)) C dX9_numberFor_55 (by decide) ?_
            exact xg_retI (pc := 56) C E dX9_numberFor_56 hF
          · have hF := hF.2 hc
            refine xg_iload_n (pc := 51) C dX9_numberFor_51 2 rfl ?_
            refine xg_goto (pc := 52) 56 C dX9_numberFor_52 (by decide) ?_
            exact xg_retI (pc := 56) C E dX9_numberFor_56 hF
      · have hF := hF.2 hc
        refine xg_aload_n (pc := 16) C dX9_numberFor_16 0 rfl ?_
        refine xg_getr (pc := 17) (C1 := RX9) (T1 := TX9) (ci := 9) (ref := "SandGlasses$Told") C inm_X9_numberFor_9 rfl (by decide) 4 (by decide) rfl dX9_numberFor_17 (List.mem_of_getElem? (i := 1) rfl) rfl rfl hthis ?_
        refine xg_iload_n (pc := 20) C dX9_numberFor_20 1 rfl ?_
        obtain ⟨a2, ha2, hka2, hF⟩ := hF
        obtain ⟨hi, hF⟩ := hF
        refine xg_iald (pc := 21) C ha2 hka2 hi dX9_numberFor_21 ?_
        refine xg_iconst (pc := 22) (v := 2) C dX9_numberFor_22 (by decide) ?_
        refine xg_icmp_ge (pc := 23) 35 C dX9_numberFor_23 (by decide) (fun hc => ?_) (fun hc => ?_)
        · have hF := hF.1 hc
          refine xg_iconst (pc := 35) (v := (-1)) C dX9_numberFor_35 (by decide) ?_
          exact xg_retI (pc := 36) C E dX9_numberFor_36 hF
        · have hF := hF.2 hc
          refine xg_aload_n (pc := 26) C dX9_numberFor_26 0 rfl ?_
          refine xg_getr (pc := 27) (C1 := RX9) (T1 := TX9) (ci := 9) (ref := "SandGlasses$Told") C inm_X9_numberFor_9 rfl (by decide) 4 (by decide) rfl dX9_numberFor_27 (List.mem_of_getElem? (i := 1) rfl) rfl rfl hthis ?_
          refine xg_iload_n (pc := 30) C dX9_numberFor_30 1 rfl ?_
          obtain ⟨hi, hF⟩ := hF
          refine xg_iald (pc := 31) C ha2 hka2 hi dX9_numberFor_31 ?_
          refine xg_goto (pc := 32) 36 C dX9_numberFor_32 (by decide) ?_
          exact xg_retI (pc := 36) C E dX9_numberFor_36 hF
    · have hF := hF.2 hc
      refine xg_iconst (pc := 9) (v := (-1)) C dX9_numberFor_9 (by decide) ?_
      exact xg_retI (pc := 10) C E dX9_numberFor_10 hF
