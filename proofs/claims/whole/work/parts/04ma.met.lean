theorem mg_use {A B : Prop} (a : A) (f : A → B) : B := f a
theorem mg_swd (x : Int32) (lo hi : Int) (h : ∀ v : Int, lo ≤ v → v ≤ hi → ¬ x = Int32.ofInt v) : x.toInt < lo ∨ hi < x.toInt := by
  by_cases h1 : x.toInt < lo
  · exact Or.inl h1
  · by_cases h2 : hi < x.toInt
    · exact Or.inr h2
    · exact absurd (Int32.ofInt_toInt x).symm (h x.toInt (by omega) (by omega))
def rm_in : Room := { frames := 0, cells := 0, slots := 0, locals := 0 }
theorem nd_in : yX12_in.cls = RX12 ∧ yX12_in.cls ≠ "java/lang/invoke/MethodHandle" ∧ yX12_in.cls ≠ "java/lang/invoke/VarHandle" ∧ (parseMethodDescriptor yX12_in.desc).map (fun d => d.parameters.length) = some 3 := by decide +kernel
set_option maxHeartbeats 4000000 in
set_option maxRecDepth 100000 in
theorem met_in (x0 : Int32) (x1 : Int32) (x2 : Int32) : mg_MI yX12_in wsX12_in rm_in (fun ad => [.int x0, .int x1, .int x2]) (fun Q h => wp_in Q x0 x1 x2 h) := by
  refine mg_startI (cc := cX12_in) (maxL := 3) (by decide) rfl rfl (fun ad => Nat.le_of_ble_eq_true rfl) (fun X Q h C hnL E hw => ?_)
  unfold wp_in at hw
  refine mg_sub (lv2 := [(0, .int x0), (1, .int x1), (2, .int x2)]) [0, 1, 2] rfl ?_
  have hF := hw
  refine mg_iload_n (pc := 0) C dX12_in_0 0 rfl ?_
  refine mg_iload_n (pc := 1) C dX12_in_1 1 rfl ?_
  refine mg_icmp_lt (pc := 2) 14 C dX12_in_2 (by decide) (fun hc => ?_) (fun hc => ?_)
  · have hF := hF.1 hc
    refine mg_iconst (pc := 14) (v := 0) C dX12_in_14 (by decide) ?_
    exact mg_retZ (pc := 15) C E (Or.inl rfl) dX12_in_15 hF
  · have hF := hF.2 hc
    refine mg_iload_n (pc := 5) C dX12_in_5 0 rfl ?_
    refine mg_iload_n (pc := 6) C dX12_in_6 2 rfl ?_
    refine mg_icmp_gt (pc := 7) 14 C dX12_in_7 (by decide) (fun hc => ?_) (fun hc => ?_)
    · have hF := hF.1 hc
      refine mg_iconst (pc := 14) (v := 0) C dX12_in_14 (by decide) ?_
      exact mg_retZ (pc := 15) C E (Or.inl rfl) dX12_in_15 hF
    · have hF := hF.2 hc
      refine mg_iconst (pc := 10) (v := 1) C dX12_in_10 (by decide) ?_
      refine mg_goto (pc := 11) 15 C dX12_in_11 (by decide) ?_
      exact mg_retZ (pc := 15) C E (Or.inr rfl) dX12_in_15 hF
def rm_has : Room := { frames := 0, cells := 0, slots := 0, locals := 0 }
theorem nd_has : yX12_has.cls = RX12 ∧ yX12_has.cls ≠ "java/lang/invoke/MethodHandle" ∧ yX12_has.cls ≠ "java/lang/invoke/VarHandle" ∧ (parseMethodDescriptor yX12_has.desc).map (fun d => d.parameters.length) = some 2 := by decide +kernel
set_option maxHeartbeats 4000000 in
set_option maxRecDepth 100000 in
theorem met_has (x0 : Int32) (x1 : Int32) : mg_MI yX12_has wsX12_has rm_has (fun ad => [.int x0, .int x1]) (fun Q h => wp_has Q x0 x1 h) := by
  refine mg_startI (cc := cX12_has) (maxL := 2) (by decide) rfl rfl (fun ad => Nat.le_of_ble_eq_true rfl) (fun X Q h C hnL E hw => ?_)
  unfold wp_has at hw
  refine mg_sub (lv2 := [(0, .int x0), (1, .int x1)]) [0, 1] rfl ?_
  have hF := hw
  refine mg_iload_n (pc := 0) C dX12_has_0 0 rfl ?_
  refine mg_iload_n (pc := 1) C dX12_has_1 1 rfl ?_
  refine mg_ishr (pc := 2) C dX12_has_2 ?_
  refine mg_iconst (pc := 3) (v := 1) C dX12_has_3 (by decide) ?_
  refine mg_iand (pc := 4) C dX12_has_4 ?_
  refine mg_iconst (pc := 5) (v := 1) C dX12_has_5 (by decide) ?_
  refine mg_icmp_ne (pc := 6) 13 C dX12_has_6 (by decide) (fun hc => ?_) (fun hc => ?_)
  · have hF := hF.1 hc
    refine mg_iconst (pc := 13) (v := 0) C dX12_has_13 (by decide) ?_
    exact mg_retZ (pc := 14) C E (Or.inl rfl) dX12_has_14 hF
  · have hF := hF.2 hc
    refine mg_iconst (pc := 9) (v := 1) C dX12_has_9 (by decide) ?_
    refine mg_goto (pc := 10) 14 C dX12_has_10 (by decide) ?_
    exact mg_retZ (pc := 14) C E (Or.inr rfl) dX12_has_14 hF
def rm_greater : Room := { frames := 0, cells := 0, slots := 0, locals := 0 }
theorem nd_greater : yX12_greater.cls = RX12 ∧ yX12_greater.cls ≠ "java/lang/invoke/MethodHandle" ∧ yX12_greater.cls ≠ "java/lang/invoke/VarHandle" ∧ (parseMethodDescriptor yX12_greater.desc).map (fun d => d.parameters.length) = some 2 := by decide +kernel
set_option maxHeartbeats 4000000 in
set_option maxRecDepth 100000 in
theorem met_greater (x0 : Int32) (x1 : Int32) : mg_MI yX12_greater wsX12_greater rm_greater (fun ad => [.int x0, .int x1]) (fun Q h => wp_greater Q x0 x1 h) := by
  refine mg_startI (cc := cX12_greater) (maxL := 2) (by decide) rfl rfl (fun ad => Nat.le_of_ble_eq_true rfl) (fun X Q h C hnL E hw => ?_)
  unfold wp_greater at hw
  refine mg_sub (lv2 := [(0, .int x0), (1, .int x1)]) [0, 1] rfl ?_
  have hF := hw
  refine mg_iload_n (pc := 0) C dX12_greater_0 0 rfl ?_
  refine mg_iload_n (pc := 1) C dX12_greater_1 1 rfl ?_
  refine mg_icmp_le (pc := 2) 9 C dX12_greater_2 (by decide) (fun hc => ?_) (fun hc => ?_)
  · have hF := hF.1 hc
    refine mg_iload_n (pc := 9) C dX12_greater_9 1 rfl ?_
    exact mg_retI (pc := 10) C E dX12_greater_10 hF
  · have hF := hF.2 hc
    refine mg_iload_n (pc := 5) C dX12_greater_5 0 rfl ?_
    refine mg_goto (pc := 6) 10 C dX12_greater_6 (by decide) ?_
    exact mg_retI (pc := 10) C E dX12_greater_10 hF
def rm_lesser : Room := { frames := 0, cells := 0, slots := 0, locals := 0 }
theorem nd_lesser : yX12_lesser.cls = RX12 ∧ yX12_lesser.cls ≠ "java/lang/invoke/MethodHandle" ∧ yX12_lesser.cls ≠ "java/lang/invoke/VarHandle" ∧ (parseMethodDescriptor yX12_lesser.desc).map (fun d => d.parameters.length) = some 2 := by decide +kernel
set_option maxHeartbeats 4000000 in
set_option maxRecDepth 100000 in
theorem met_lesser (x0 : Int32) (x1 : Int32) : mg_MI yX12_lesser wsX12_lesser rm_lesser (fun ad => [.int x0, .int x1]) (fun Q h => wp_lesser Q x0 x1 h) := by
  refine mg_startI (cc := cX12_lesser) (maxL := 2) (by decide) rfl rfl (fun ad => Nat.le_of_ble_eq_true rfl) (fun X Q h C hnL E hw => ?_)
  unfold wp_lesser at hw
  refine mg_sub (lv2 := [(0, .int x0), (1, .int x1)]) [0, 1] rfl ?_
  have hF := hw
  refine mg_iload_n (pc := 0) C dX12_lesser_0 0 rfl ?_
  refine mg_iload_n (pc := 1) C dX12_lesser_1 1 rfl ?_
  refine mg_icmp_ge (pc := 2) 9 C dX12_lesser_2 (by decide) (fun hc => ?_) (fun hc => ?_)
  · have hF := hF.1 hc
    refine mg_iload_n (pc := 9) C dX12_lesser_9 1 rfl ?_
    exact mg_retI (pc := 10) C E dX12_lesser_10 hF
  · have hF := hF.2 hc
    refine mg_iload_n (pc := 5) C dX12_lesser_5 0 rfl ?_
    refine mg_goto (pc := 6) 10 C dX12_lesser_6 (by decide) ?_
    exact mg_retI (pc := 10) C E dX12_lesser_10 hF
def rm_ones : Room := { frames := 1, cells := 0, slots := 0, locals := 21 }
theorem nd_ones : yX12_ones.cls = RX12 ∧ yX12_ones.cls ≠ "java/lang/invoke/MethodHandle" ∧ yX12_ones.cls ≠ "java/lang/invoke/VarHandle" ∧ (parseMethodDescriptor yX12_ones.desc).map (fun d => d.parameters.length) = some 1 := by decide +kernel
set_option maxHeartbeats 4000000 in
set_option maxRecDepth 100000 in
theorem met_ones (x0 : Int32) : mg_MI yX12_ones wsX12_ones rm_ones (fun ad => [.int x0]) (fun Q h => wp_ones Q x0 h) := by
  refine mg_startI (cc := cX12_ones) (maxL := 3) (by decide) rfl rfl (fun ad => Nat.le_of_ble_eq_true rfl) (fun X Q h C hnL E hw => ?_)
  unfold wp_ones at hw
  refine mg_sub (lv2 := [(0, .int x0)]) [0] rfl ?_
  refine mg_use (hw (fun (y1 : Int32) (y2 : Int32) (h : mg_H) => mg_W X 4 [(0, .int x0), (1, .int y1), (2, .int y2)] [] h) (fun (y2 : Int32) (s0 : Int32) (s1 : Int32) (h : mg_H) => mg_W X 23 [(0, .int x0), (2, .int y2)] [.int s0, .int s1] h) ?_ ?_) (fun hF => ?_)
  · intro y1 y2 h hF
    refine mg_iload_n (pc := 4) C dX12_ones_4 2 rfl ?_
    refine mg_iconst (pc := 5) (v := 4) C dX12_ones_5 (by decide) ?_
    refine mg_icmp_ge (pc := 6) 31 C dX12_ones_6 (by decide) (fun hc => ?_) (fun hc => ?_)
    · have hF := hF.1 hc
      refine mg_iload_n (pc := 31) C dX12_ones_31 1 rfl ?_
      exact mg_retI (pc := 32) C E dX12_ones_32 hF
    · have hF := hF.2 hc
      refine mg_iload_n (pc := 9) C dX12_ones_9 1 rfl ?_
      refine mg_iload_n (pc := 10) C dX12_ones_10 0 rfl ?_
      refine mg_iload_n (pc := 11) C dX12_ones_11 2 rfl ?_
      refine mg_csI (pc := 12) C (fun ad => [.int x0, .int y2]) (met_has x0 y2) gX12_ones_X12_has rfl ⟨rfl, rfl⟩ nd_has.2 ⟨Nat.le_of_ble_eq_true rfl, Nat.le_of_ble_eq_true rfl⟩ rfl rfl (Nat.le_of_ble_eq_true rfl) dX12_ones_12 hF (fun r2 h1 hF => ?_)
      refine mg_if_eq (pc := 15) 22 C dX12_ones_15 (by decide) (fun hc => ?_) (fun hc => ?_)
      · have hF := hF.1 hc
        refine mg_iconst (pc := 22) (v := 0) C dX12_ones_22 (by decide) ?_
        refine mg_sub (lv2 := [(0, .int x0), (2, .int y2)]) [0, 2] rfl ?_
        exact hF
      · have hF := hF.2 hc
        refine mg_iconst (pc := 18) (v := 1) C dX12_ones_18 (by decide) ?_
        refine mg_goto (pc := 19) 23 C dX12_ones_19 (by decide) ?_
        refine mg_sub (lv2 := [(0, .int x0), (2, .int y2)]) [0, 2] rfl ?_
        exact hF
  · intro y2 s0 s1 h hF
    refine mg_iadd (pc := 23) C dX12_ones_23 ?_
    refine mg_topi (pc := 24) (fun z3 ez3 => ?_)
    have hF := hF z3 ez3
    refine mg_istore_n (pc := 24) (lv2 := [(1, .int z3), (0, .int x0), (2, .int y2)]) C dX12_ones_24 3 hnL (by decide) rfl ?_
    obtain ⟨z4, ez4⟩ : ∃ y : Int32, y = y2 + 1 := ⟨_, rfl⟩
    have hF := hF z4 ez4
    refine mg_iinc (pc := 25) (v := z4) (lv2 := [(2, .int z4), (1, .int z3), (0, .int x0)]) C dX12_ones_25 2 rfl (by rw [ez4]; rfl) 3 hnL (by decide) rfl ?_
    refine mg_goto (pc := 28) 4 C dX12_ones_28 (by decide) ?_
    refine mg_sub (lv2 := [(0, .int x0), (1, .int z3), (2, .int z4)]) [2, 1, 0] rfl ?_
    exact hF
  · skip
    refine mg_iconst (pc := 0) (v := 0) C dX12_ones_0 (by decide) ?_
    refine mg_istore_n (pc := 1) (lv2 := [(1, .int 0), (0, .int x0)]) C dX12_ones_1 3 hnL (by decide) rfl ?_
    refine mg_iconst (pc := 2) (v := 0) C dX12_ones_2 (by decide) ?_
    refine mg_istore_n (pc := 3) (lv2 := [(2, .int 0), (1, .int 0), (0, .int x0)]) C dX12_ones_3 3 hnL (by decide) rfl ?_
    refine mg_sub (lv2 := [(0, .int x0), (1, .int 0), (2, .int 0)]) [2, 1, 0] rfl ?_
    exact hF
def rm_copyRow : Room := { frames := 0, cells := 0, slots := 0, locals := 0 }
theorem nd_copyRow : yX12_copyRow.cls = RX12 ∧ yX12_copyRow.cls ≠ "java/lang/invoke/MethodHandle" ∧ yX12_copyRow.cls ≠ "java/lang/invoke/VarHandle" ∧ (parseMethodDescriptor yX12_copyRow.desc).map (fun d => d.parameters.length) = some 4 := by decide +kernel
set_option maxHeartbeats 4000000 in
set_option maxRecDepth 100000 in
theorem met_copyRow (c0 : Nat) (x1 : Int32) (x2 : Int32) (x3 : Int32) : mg_MV yX12_copyRow wsX12_copyRow rm_copyRow (fun ad => [.ref (ad c0), .int x1, .int x2, .int x3]) (fun Q h => wp_copyRow Q c0 x1 x2 x3 h) := by
  refine mg_startV (cc := cX12_copyRow) (maxL := 5) (by decide) rfl rfl (fun ad => Nat.le_of_ble_eq_true rfl) (fun X Q h C hnL E hw => ?_)
  unfold wp_copyRow at hw
  obtain ⟨⟨hc0c, hc0k⟩, hw⟩ := hw
  refine mg_sub (lv2 := [(0, .ref (mg_ad X c0)), (1, .int x1), (2, .int x2), (3, .int x3)]) [0, 1, 2, 3] rfl ?_
  refine mg_use (hw (fun (y4 : Int32) (h : mg_H) => mg_W X 3 [(0, .ref (mg_ad X c0)), (1, .int x1), (2, .int x2), (3, .int x3), (4, .int y4)] [] h) ?_) (fun hF => ?_)
  · intro y4 h hF
    refine mg_iload (pc := 3) C dX12_copyRow_3 4 rfl ?_
    refine mg_iload_n (pc := 5) C dX12_copyRow_5 1 rfl ?_
    refine mg_icmp_ge (pc := 6) 31 C dX12_copyRow_6 (by decide) (fun hc => ?_) (fun hc => ?_)
    · have hF := hF.1 hc
      exact mg_retV (pc := 31) C E dX12_copyRow_31 hF
    · have hF := hF.2 hc
      refine mg_aload_n (pc := 9) C dX12_copyRow_9 0 rfl ?_
      refine mg_iload_n (pc := 10) C dX12_copyRow_10 1 rfl ?_
      refine mg_iload_n (pc := 11) C dX12_copyRow_11 3 rfl ?_
      refine mg_imul (pc := 12) C dX12_copyRow_12 ?_
      refine mg_iload (pc := 13) C dX12_copyRow_13 4 rfl ?_
      refine mg_iadd (pc := 15) C dX12_copyRow_15 ?_
      refine mg_aload_n (pc := 16) C dX12_copyRow_16 0 rfl ?_
      refine mg_iload_n (pc := 17) C dX12_copyRow_17 1 rfl ?_
      refine mg_iload_n (pc := 18) C dX12_copyRow_18 2 rfl ?_
      refine mg_imul (pc := 19) C dX12_copyRow_19 ?_
      refine mg_iload (pc := 20) C dX12_copyRow_20 4 rfl ?_
      refine mg_iadd (pc := 22) C dX12_copyRow_22 ?_
      obtain ⟨hi, hF⟩ := hF
      refine mg_iald (pc := 23) C hc0c hc0k hi dX12_copyRow_23 ?_
      obtain ⟨hi, hF⟩ := hF
      refine mg_iast (pc := 24) C hc0c hc0k hi dX12_copyRow_24 (fun h1 eh1 => ?_)
      have hF := hF h1 eh1
      obtain ⟨z2, ez2⟩ : ∃ y : Int32, y = y4 + 1 := ⟨_, rfl⟩
      have hF := hF z2 ez2
      refine mg_iinc (pc := 25) (v := z2) (lv2 := [(4, .int z2), (0, .ref (mg_ad X c0)), (1, .int x1), (2, .int x2), (3, .int x3)]) C dX12_copyRow_25 4 rfl (by rw [ez2]; rfl) 5 hnL (by decide) rfl ?_
      refine mg_goto (pc := 28) 3 C dX12_copyRow_28 (by decide) ?_
      refine mg_sub (lv2 := [(0, .ref (mg_ad X c0)), (1, .int x1), (2, .int x2), (3, .int x3), (4, .int z2)]) [1, 2, 3, 4, 0] rfl ?_
      exact hF
  · skip
    refine mg_iconst (pc := 0) (v := 0) C dX12_copyRow_0 (by decide) ?_
    refine mg_istore (pc := 1) (lv2 := [(4, .int 0), (0, .ref (mg_ad X c0)), (1, .int x1), (2, .int x2), (3, .int x3)]) C dX12_copyRow_1 5 hnL (by decide) rfl ?_
    refine mg_sub (lv2 := [(0, .ref (mg_ad X c0)), (1, .int x1), (2, .int x2), (3, .int x3), (4, .int 0)]) [1, 2, 3, 4, 0] rfl ?_
    exact hF
def rm_copyAll : Room := { frames := 1, cells := 0, slots := 0, locals := 24 }
theorem nd_copyAll : yX12_copyAll.cls = RX12 ∧ yX12_copyAll.cls ≠ "java/lang/invoke/MethodHandle" ∧ yX12_copyAll.cls ≠ "java/lang/invoke/VarHandle" ∧ (parseMethodDescriptor yX12_copyAll.desc).map (fun d => d.parameters.length) = some 2 := by decide +kernel
theorem inm_copyAll : ∀ w ∈ wsX120, w ∈ wsX12_copyAll := fun _ h9 => List.mem_cons_of_mem _ (List.mem_append_right _ h9)
set_option maxHeartbeats 4000000 in
set_option maxRecDepth 100000 in
theorem met_copyAll (x1 : Int32) (x2 : Int32) : mg_MV yX12_copyAll wsX12_copyAll rm_copyAll (fun ad => [.ref (ad 0), .int x1, .int x2]) (fun Q h => wp_copyAll Q x1 x2 h) := by
  refine mg_startV (cc := cX12_copyAll) (maxL := 4) (by decide) rfl rfl (fun ad => Nat.le_of_ble_eq_true rfl) (fun X Q h C hnL E hw => ?_)
  unfold wp_copyAll at hw
  refine mg_sub (lv2 := [(0, .ref (mg_ad X 0)), (1, .int x1), (2, .int x2)]) [0, 1, 2] rfl ?_
  refine mg_use (hw (fun (y3 : Int32) (h : mg_H) => mg_W X 2 [(0, .ref (mg_ad X 0)), (1, .int x1), (2, .int x2), (3, .int y3)] [] h) ?_) (fun hF => ?_)
  · intro y3 h hF
    refine mg_iload_n (pc := 2) C dX12_copyAll_2 3 rfl ?_
    refine mg_sipush (pc := 3) (v := 600) C dX12_copyAll_3 (by decide) ?_
    refine mg_icmp_ge (pc := 6) 39 C dX12_copyAll_6 (by decide) (fun hc => ?_) (fun hc => ?_)
    · have hF := hF.1 hc
      refine mg_aload_n (pc := 39) C dX12_copyAll_39 0 rfl ?_
      refine mg_getr (pc := 40) C inm_copyAll 2 (by decide) (by decide) dX12_copyAll_40 (List.mem_of_getElem? (i := 2) rfl) ?_
      refine mg_iconst (pc := 43) (v := 1) C dX12_copyAll_43 (by decide) ?_
      refine mg_iload_n (pc := 44) C dX12_copyAll_44 1 rfl ?_
      refine mg_iload_n (pc := 45) C dX12_copyAll_45 2 rfl ?_
      refine mg_csV (pc := 46) C (fun ad => [.ref (ad 2), .int 1, .int x1, .int x2]) (met_copyRow 2 1 x1 x2) gX12_copyAll_X12_copyRow rfl ⟨rfl, rfl⟩ nd_copyRow.2 ⟨Nat.le_of_ble_eq_true rfl, Nat.le_of_ble_eq_true rfl⟩ rfl rfl (Nat.le_of_ble_eq_true rfl) dX12_copyAll_46 hF (fun h1 hF => ?_)
      refine mg_aload_n (pc := 49) C dX12_copyAll_49 0 rfl ?_
      refine mg_getr (pc := 50) C inm_copyAll 3 (by decide) (by decide) dX12_copyAll_50 (List.mem_of_getElem? (i := 3) rfl) ?_
      refine mg_iconst (pc := 53) (v := 1) C dX12_copyAll_53 (by decide) ?_
      refine mg_iload_n (pc := 54) C dX12_copyAll_54 1 rfl ?_
      refine mg_iload_n (pc := 55) C dX12_copyAll_55 2 rfl ?_
      refine mg_csV (pc := 56) C (fun ad => [.ref (ad 3), .int 1, .int x1, .int x2]) (met_copyRow 3 1 x1 x2) gX12_copyAll_X12_copyRow rfl ⟨rfl, rfl⟩ nd_copyRow.2 ⟨Nat.le_of_ble_eq_true rfl, Nat.le_of_ble_eq_true rfl⟩ rfl rfl (Nat.le_of_ble_eq_true rfl) dX12_copyAll_56 hF (fun h2 hF => ?_)
      refine mg_aload_n (pc := 59) C dX12_copyAll_59 0 rfl ?_
      refine mg_getr (pc := 60) C inm_copyAll 4 (by decide) (by decide) dX12_copyAll_60 (List.mem_of_getElem? (i := 4) rfl) ?_
      refine mg_iconst (pc := 63) (v := 1) C dX12_copyAll_63 (by decide) ?_
      refine mg_iload_n (pc := 64) C dX12_copyAll_64 1 rfl ?_
      refine mg_iload_n (pc := 65) C dX12_copyAll_65 2 rfl ?_
      refine mg_csV (pc := 66) C (fun ad => [.ref (ad 4), .int 1, .int x1, .int x2]) (met_copyRow 4 1 x1 x2) gX12_copyAll_X12_copyRow rfl ⟨rfl, rfl⟩ nd_copyRow.2 ⟨Nat.le_of_ble_eq_true rfl, Nat.le_of_ble_eq_true rfl⟩ rfl rfl (Nat.le_of_ble_eq_true rfl) dX12_copyAll_66 hF (fun h3 hF => ?_)
      refine mg_aload_n (pc := 69) C dX12_copyAll_69 0 rfl ?_
      refine mg_getr (pc := 70) C inm_copyAll 5 (by decide) (by decide) dX12_copyAll_70 (List.mem_of_getElem? (i := 5) rfl) ?_
      refine mg_iconst (pc := 73) (v := 4) C dX12_copyAll_73 (by decide) ?_
      refine mg_iload_n (pc := 74) C dX12_copyAll_74 1 rfl ?_
      refine mg_iload_n (pc := 75) C dX12_copyAll_75 2 rfl ?_
      refine mg_csV (pc := 76) C (fun ad => [.ref (ad 5), .int 4, .int x1, .int x2]) (met_copyRow 5 4 x1 x2) gX12_copyAll_X12_copyRow rfl ⟨rfl, rfl⟩ nd_copyRow.2 ⟨Nat.le_of_ble_eq_true rfl, Nat.le_of_ble_eq_true rfl⟩ rfl rfl (Nat.le_of_ble_eq_true rfl) dX12_copyAll_76 hF (fun h4 hF => ?_)
      refine mg_aload_n (pc := 79) C dX12_copyAll_79 0 rfl ?_
      refine mg_getr (pc := 80) C inm_copyAll 6 (by decide) (by decide) dX12_copyAll_80 (List.mem_of_getElem? (i := 6) rfl) ?_
      refine mg_bipush (pc := 83) (v := 26) C dX12_copyAll_83 (by decide) ?_
      refine mg_iload_n (pc := 85) C dX12_copyAll_85 1 rfl ?_
      refine mg_iload_n (pc := 86) C dX12_copyAll_86 2 rfl ?_
      refine mg_csV (pc := 87) C (fun ad => [.ref (ad 6), .int 26, .int x1, .int x2]) (met_copyRow 6 26 x1 x2) gX12_copyAll_X12_copyRow rfl ⟨rfl, rfl⟩ nd_copyRow.2 ⟨Nat.le_of_ble_eq_true rfl, Nat.le_of_ble_eq_true rfl⟩ rfl rfl (Nat.le_of_ble_eq_true rfl) dX12_copyAll_87 hF (fun h5 hF => ?_)
      refine mg_aload_n (pc := 90) C dX12_copyAll_90 0 rfl ?_
      refine mg_getr (pc := 91) C inm_copyAll 7 (by decide) (by decide) dX12_copyAll_91 (List.mem_of_getElem? (i := 7) rfl) ?_
      refine mg_sipush (pc := 94) (v := 162) C dX12_copyAll_94 (by decide) ?_
      refine mg_iload_n (pc := 97) C dX12_copyAll_97 1 rfl ?_
      refine mg_iload_n (pc := 98) C dX12_copyAll_98 2 rfl ?_
      refine mg_csV (pc := 99) C (fun ad => [.ref (ad 7), .int 162, .int x1, .int x2]) (met_copyRow 7 162 x1 x2) gX12_copyAll_X12_copyRow rfl ⟨rfl, rfl⟩ nd_copyRow.2 ⟨Nat.le_of_ble_eq_true rfl, Nat.le_of_ble_eq_true rfl⟩ rfl rfl (Nat.le_of_ble_eq_true rfl) dX12_copyAll_99 hF (fun h6 hF => ?_)
      refine mg_aload_n (pc := 102) C dX12_copyAll_102 0 rfl ?_
      refine mg_getr (pc := 103) C inm_copyAll 8 (by decide) (by decide) dX12_copyAll_103 (List.mem_of_getElem? (i := 8) rfl) ?_
      refine mg_bipush (pc := 106) (v := 34) C dX12_copyAll_106 (by decide) ?_
      refine mg_iload_n (pc := 108) C dX12_copyAll_108 1 rfl ?_
      refine mg_iload_n (pc := 109) C dX12_copyAll_109 2 rfl ?_
      refine mg_csV (pc := 110) C (fun ad => [.ref (ad 8), .int 34, .int x1, .int x2]) (met_copyRow 8 34 x1 x2) gX12_copyAll_X12_copyRow rfl ⟨rfl, rfl⟩ nd_copyRow.2 ⟨Nat.le_of_ble_eq_true rfl, Nat.le_of_ble_eq_true rfl⟩ rfl rfl (Nat.le_of_ble_eq_true rfl) dX12_copyAll_110 hF (fun h7 hF => ?_)
      refine mg_aload_n (pc := 113) C dX12_copyAll_113 0 rfl ?_
      refine mg_getr (pc := 114) C inm_copyAll 9 (by decide) (by decide) dX12_copyAll_114 (List.mem_of_getElem? (i := 9) rfl) ?_
      refine mg_bipush (pc := 117) (v := 14) C dX12_copyAll_117 (by decide) ?_
      refine mg_iload_n (pc := 119) C dX12_copyAll_119 1 rfl ?_
      refine mg_iload_n (pc := 120) C dX12_copyAll_120 2 rfl ?_
      refine mg_csV (pc := 121) C (fun ad => [.ref (ad 9), .int 14, .int x1, .int x2]) (met_copyRow 9 14 x1 x2) gX12_copyAll_X12_copyRow rfl ⟨rfl, rfl⟩ nd_copyRow.2 ⟨Nat.le_of_ble_eq_true rfl, Nat.le_of_ble_eq_true rfl⟩ rfl rfl (Nat.le_of_ble_eq_true rfl) dX12_copyAll_121 hF (fun h8 hF => ?_)
      exact mg_retV (pc := 124) C E dX12_copyAll_124 hF
    · have hF := hF.2 hc
      refine mg_aload_n (pc := 9) C dX12_copyAll_9 0 rfl ?_
      refine mg_getr (pc := 10) C inm_copyAll 1 (by decide) (by decide) dX12_copyAll_10 (List.mem_of_getElem? (i := 1) rfl) ?_
      refine mg_sipush (pc := 13) (v := 600) C dX12_copyAll_13 (by decide) ?_
      refine mg_iload_n (pc := 16) C dX12_copyAll_16 2 rfl ?_
      refine mg_imul (pc := 17) C dX12_copyAll_17 ?_
      refine mg_iload_n (pc := 18) C dX12_copyAll_18 3 rfl ?_
      refine mg_iadd (pc := 19) C dX12_copyAll_19 ?_
      refine mg_aload_n (pc := 20) C dX12_copyAll_20 0 rfl ?_
      refine mg_getr (pc := 21) C inm_copyAll 1 (by decide) (by decide) dX12_copyAll_21 (List.mem_of_getElem? (i := 1) rfl) ?_
      refine mg_sipush (pc := 24) (v := 600) C dX12_copyAll_24 (by decide) ?_
      refine mg_iload_n (pc := 27) C dX12_copyAll_27 1 rfl ?_
      refine mg_imul (pc := 28) C dX12_copyAll_28 ?_
      refine mg_iload_n (pc := 29) C dX12_copyAll_29 3 rfl ?_
      refine mg_iadd (pc := 30) C dX12_copyAll_30 ?_
      obtain ⟨hi, hF⟩ := hF
      refine mg_bald (pc := 31) C (by decide) rfl hi dX12_copyAll_31 ?_
      obtain ⟨hi, hF⟩ := hF
      refine mg_bast (pc := 32) C (by decide) rfl hi dX12_copyAll_32 (fun h9 eh9 => ?_)
      have hF := hF h9 eh9
      obtain ⟨z10, ez10⟩ : ∃ y : Int32, y = y3 + 1 := ⟨_, rfl⟩
      have hF := hF z10 ez10
      refine mg_iinc (pc := 33) (v := z10) (lv2 := [(3, .int z10), (0, .ref (mg_ad X 0)), (1, .int x1), (2, .int x2)]) C dX12_copyAll_33 3 rfl (by rw [ez10]; rfl) 4 hnL (by decide) rfl ?_
      refine mg_goto (pc := 36) 2 C dX12_copyAll_36 (by decide) ?_
      refine mg_sub (lv2 := [(0, .ref (mg_ad X 0)), (1, .int x1), (2, .int x2), (3, .int z10)]) [1, 2, 3, 0] rfl ?_
      exact hF
  · skip
    refine mg_iconst (pc := 0) (v := 0) C dX12_copyAll_0 (by decide) ?_
    refine mg_istore_n (pc := 1) (lv2 := [(3, .int 0), (0, .ref (mg_ad X 0)), (1, .int x1), (2, .int x2)]) C dX12_copyAll_1 4 hnL (by decide) rfl ?_
    refine mg_sub (lv2 := [(0, .ref (mg_ad X 0)), (1, .int x1), (2, .int x2), (3, .int 0)]) [1, 2, 3, 0] rfl ?_
    exact hF
def rm_is : Room := { frames := 1, cells := 0, slots := 0, locals := 22 }
theorem nd_is : yX12_is.cls = RX12 ∧ yX12_is.cls ≠ "java/lang/invoke/MethodHandle" ∧ yX12_is.cls ≠ "java/lang/invoke/VarHandle" ∧ (parseMethodDescriptor yX12_is.desc).map (fun d => d.parameters.length) = some 2 := by decide +kernel
theorem inm_is : ∀ w ∈ wsX120, w ∈ wsX12_is := fun _ h9 => List.mem_cons_of_mem _ (List.mem_append_right _ h9)
set_option maxHeartbeats 4000000 in
set_option maxRecDepth 100000 in
theorem met_is (x1 : Int32) (x2 : Int32) : mg_MI yX12_is wsX12_is rm_is (fun ad => [.ref (ad 0), .int x1, .int x2]) (fun Q h => wp_is Q x1 x2 h) := by
  refine mg_startI (cc := cX12_is) (maxL := 3) (by decide) rfl rfl (fun ad => Nat.le_of_ble_eq_true rfl) (fun X Q h C hnL E hw => ?_)
  unfold wp_is at hw
  refine mg_sub (lv2 := [(0, .ref (mg_ad X 0)), (1, .int x1), (2, .int x2)]) [0, 1, 2] rfl ?_
  have hF := hw
  refine mg_iload_n (pc := 0) C dX12_is_0 2 rfl ?_
  refine mg_iconst (pc := 1) (v := 0) C dX12_is_1 (by decide) ?_
  refine mg_aload_n (pc := 2) C dX12_is_2 0 rfl ?_
  refine mg_getr (pc := 3) C inm_is 5 (by decide) (by decide) dX12_is_3 (List.mem_of_getElem? (i := 1) rfl) ?_
  refine mg_iload_n (pc := 6) C dX12_is_6 1 rfl ?_
  obtain ⟨hi, hF⟩ := hF
  refine mg_iald (pc := 7) C (by decide) rfl hi dX12_is_7 ?_
  refine mg_iconst (pc := 8) (v := 1) C dX12_is_8 (by decide) ?_
  refine mg_isub (pc := 9) C dX12_is_9 ?_
  refine mg_csI (pc := 10) C (fun ad => [.int x2, .int 0, .int ((mg_i h 5 x1.toNatClampNeg) - 1)]) (met_in x2 0 ((mg_i h 5 x1.toNatClampNeg) - 1)) gX12_is_X12_in rfl ⟨rfl, rfl⟩ nd_in.2 ⟨Nat.le_of_ble_eq_true rfl, Nat.le_of_ble_eq_true rfl⟩ rfl rfl (Nat.le_of_ble_eq_true rfl) dX12_is_10 hF (fun r2 h1 hF => ?_)
  exact mg_retZ (pc := 13) C E hF.1 dX12_is_13 hF.2
def rm_four : Room := { frames := 0, cells := 0, slots := 0, locals := 0 }
theorem nd_four : yX12_four.cls = RX12 ∧ yX12_four.cls ≠ "java/lang/invoke/MethodHandle" ∧ yX12_four.cls ≠ "java/lang/invoke/VarHandle" ∧ (parseMethodDescriptor yX12_four.desc).map (fun d => d.parameters.length) = some 1 := by decide +kernel
theorem inm_four : ∀ w ∈ wsX120, w ∈ wsX12_four := fun _ h9 => List.mem_cons_of_mem _ (List.mem_append_right _ h9)
set_option maxHeartbeats 4000000 in
set_option maxRecDepth 100000 in
theorem met_four (x1 : Int32) : mg_MV yX12_four wsX12_four rm_four (fun ad => [.ref (ad 0), .int x1]) (fun Q h => wp_four Q x1 h) := by
  refine mg_startV (cc := cX12_four) (maxL := 3) (by decide) rfl rfl (fun ad => Nat.le_of_ble_eq_true rfl) (fun X Q h C hnL E hw => ?_)
  unfold wp_four at hw
  refine mg_sub (lv2 := [(0, .ref (mg_ad X 0)), (1, .int x1)]) [0, 1] rfl ?_
  refine mg_use (hw (fun (y2 : Int32) (h : mg_H) => mg_W X 3 [(0, .ref (mg_ad X 0)), (1, .int x1), (2, .int y2)] [] h) ?_) (fun hF => ?_)
  · intro y2 h hF
    refine mg_iload_n (pc := 3) C dX12_four_3 2 rfl ?_
    refine mg_if_lt (pc := 4) 38 C dX12_four_4 (by decide) (fun hc => ?_) (fun hc => ?_)
    · have hF := hF.1 hc
      exact mg_retV (pc := 38) C E dX12_four_38 hF
    · have hF := hF.2 hc
      refine mg_aload_n (pc := 7) C dX12_four_7 0 rfl ?_
      refine mg_getr (pc := 8) C inm_four 1 (by decide) (by decide) dX12_four_8 (List.mem_of_getElem? (i := 1) rfl) ?_
      refine mg_aload_n (pc := 11) C dX12_four_11 0 rfl ?_
      refine mg_getr (pc := 12) C inm_four 2 (by decide) (by decide) dX12_four_12 (List.mem_of_getElem? (i := 2) rfl) ?_
      refine mg_iconst (pc := 15) (v := 0) C dX12_four_15 (by decide) ?_
      obtain ⟨hi, hF⟩ := hF
      refine mg_iald (pc := 16) C (by decide) rfl hi dX12_four_16 ?_
      refine mg_iload_n (pc := 17) C dX12_four_17 1 rfl ?_
      refine mg_iload_n (pc := 18) C dX12_four_18 2 rfl ?_
      refine mg_ishr (pc := 19) C dX12_four_19 ?_
      refine mg_i2b (pc := 20) C dX12_four_20 ?_
      obtain ⟨hi, hF⟩ := hF
      refine mg_bast (pc := 21) C (by decide) rfl hi dX12_four_21 (fun h1 eh1 => ?_)
      have hF := hF h1 eh1
      refine mg_aload_n (pc := 22) C dX12_four_22 0 rfl ?_
      refine mg_getr (pc := 23) C inm_four 2 (by decide) (by decide) dX12_four_23 (List.mem_of_getElem? (i := 2) rfl) ?_
      refine mg_iconst (pc := 26) (v := 0) C dX12_four_26 (by decide) ?_
      refine mg_dup2 (pc := 27) C dX12_four_27 rfl rfl ?_
      obtain ⟨hi, hF⟩ := hF
      refine mg_iald (pc := 28) C (by decide) rfl hi dX12_four_28 ?_
      refine mg_iconst (pc := 29) (v := 1) C dX12_four_29 (by decide) ?_
      refine mg_iadd (pc := 30) C dX12_four_30 ?_
      obtain ⟨hi, hF⟩ := hF
      refine mg_iast (pc := 31) C (by decide) rfl hi dX12_four_31 (fun h2 eh2 => ?_)
      have hF := hF h2 eh2
      obtain ⟨z3, ez3⟩ : ∃ y : Int32, y = y2 + (-8) := ⟨_, rfl⟩
      have hF := hF z3 ez3
      refine mg_iinc (pc := 32) (v := z3) (lv2 := [(2, .int z3), (0, .ref (mg_ad X 0)), (1, .int x1)]) C dX12_four_32 2 rfl (by rw [ez3]; rfl) 3 hnL (by decide) rfl ?_
      refine mg_goto (pc := 35) 3 C dX12_four_35 (by decide) ?_
      refine mg_sub (lv2 := [(0, .ref (mg_ad X 0)), (1, .int x1), (2, .int z3)]) [1, 2, 0] rfl ?_
      exact hF
  · skip
    refine mg_bipush (pc := 0) (v := 24) C dX12_four_0 (by decide) ?_
    refine mg_istore_n (pc := 2) (lv2 := [(2, .int 24), (0, .ref (mg_ad X 0)), (1, .int x1)]) C dX12_four_2 3 hnL (by decide) rfl ?_
    refine mg_sub (lv2 := [(0, .ref (mg_ad X 0)), (1, .int x1), (2, .int 24)]) [1, 2, 0] rfl ?_
    exact hF
def rm_feed : Room := { frames := 1, cells := 0, slots := 0, locals := 22 }
theorem nd_feed : yX12_feed.cls = RX12 ∧ yX12_feed.cls ≠ "java/lang/invoke/MethodHandle" ∧ yX12_feed.cls ≠ "java/lang/invoke/VarHandle" ∧ (parseMethodDescriptor yX12_feed.desc).map (fun d => d.parameters.length) = some 5 := by decide +kernel
theorem inm_feed : ∀ w ∈ wsX120, w ∈ wsX12_feed := fun _ h9 => List.mem_cons_of_mem _ (List.mem_append_right _ h9)
set_option maxHeartbeats 4000000 in
set_option maxRecDepth 100000 in
theorem met_feed (x1 : Int32) (x2 : Int32) (x3 : Int32) (x4 : Int32) (x5 : Int32) : mg_MI yX12_feed wsX12_feed rm_feed (fun ad => [.ref (ad 0), .int x1, .int x2, .int x3, .int x4, .int x5]) (fun Q h => wp_feed Q x1 x2 x3 x4 x5 h) := by
  refine mg_startI (cc := cX12_feed) (maxL := 6) (by decide) rfl rfl (fun ad => Nat.le_of_ble_eq_true rfl) (fun X Q h C hnL E hw => ?_)
  unfold wp_feed at hw
  refine mg_sub (lv2 := [(0, .ref (mg_ad X 0)), (1, .int x1), (2, .int x2), (3, .int x3), (4, .int x4), (5, .int x5)]) [0, 1, 2, 3, 4, 5] rfl ?_
  have hF := hw
  refine mg_aload_n (pc := 0) C dX12_feed_0 0 rfl ?_
  refine mg_iconst (pc := 1) (v := 0) C dX12_feed_1 (by decide) ?_
  refine mg_puti (pc := 2) C inm_feed 0 (by decide) rfl (by decide) dX12_feed_2 (List.mem_of_getElem? (i := 1) rfl) rfl (tyX12_ok 0 (by decide)) (fun h1 eh1 => ?_)
  have hF := hF h1 eh1
  refine mg_aload_n (pc := 5) C dX12_feed_5 0 rfl ?_
  refine mg_getr (pc := 6) C inm_feed 2 (by decide) (by decide) dX12_feed_6 (List.mem_of_getElem? (i := 2) rfl) ?_
  refine mg_iconst (pc := 9) (v := 0) C dX12_feed_9 (by decide) ?_
  obtain ⟨hi, hF⟩ := hF
  refine mg_iald (pc := 10) C (by decide) rfl hi dX12_feed_10 ?_
  refine mg_bipush (pc := 11) (v := 20) C dX12_feed_11 (by decide) ?_
  refine mg_iadd (pc := 13) C dX12_feed_13 ?_
  refine mg_sipush (pc := 14) (v := 600) C dX12_feed_14 (by decide) ?_
  refine mg_icmp_le (pc := 17) 22 C dX12_feed_17 (by decide) (fun hc => ?_) (fun hc => ?_)
  · have hF := hF.1 hc
    refine mg_aload_n (pc := 22) C dX12_feed_22 0 rfl ?_
    refine mg_iload_n (pc := 23) C dX12_feed_23 1 rfl ?_
    refine mg_cvV (pc := 24) C (fun ad => [.int x1]) (met_four x1) gX12_feed_X12_four rfl ⟨rfl, rfl⟩ nd_four ⟨Nat.le_of_ble_eq_true rfl, Nat.le_of_ble_eq_true rfl⟩ rfl rfl (Nat.le_of_ble_eq_true rfl) dX12_feed_24 hF (fun h2 hF => ?_)
    refine mg_aload_n (pc := 27) C dX12_feed_27 0 rfl ?_
    refine mg_iload_n (pc := 28) C dX12_feed_28 2 rfl ?_
    refine mg_cvV (pc := 29) C (fun ad => [.int x2]) (met_four x2) gX12_feed_X12_four rfl ⟨rfl, rfl⟩ nd_four ⟨Nat.le_of_ble_eq_true rfl, Nat.le_of_ble_eq_true rfl⟩ rfl rfl (Nat.le_of_ble_eq_true rfl) dX12_feed_29 hF (fun h3 hF => ?_)
    refine mg_aload_n (pc := 32) C dX12_feed_32 0 rfl ?_
    refine mg_iload_n (pc := 33) C dX12_feed_33 3 rfl ?_
    refine mg_cvV (pc := 34) C (fun ad => [.int x3]) (met_four x3) gX12_feed_X12_four rfl ⟨rfl, rfl⟩ nd_four ⟨Nat.le_of_ble_eq_true rfl, Nat.le_of_ble_eq_true rfl⟩ rfl rfl (Nat.le_of_ble_eq_true rfl) dX12_feed_34 hF (fun h4 hF => ?_)
    refine mg_aload_n (pc := 37) C dX12_feed_37 0 rfl ?_
    refine mg_iload (pc := 38) C dX12_feed_38 4 rfl ?_
    refine mg_cvV (pc := 40) C (fun ad => [.int x4]) (met_four x4) gX12_feed_X12_four rfl ⟨rfl, rfl⟩ nd_four ⟨Nat.le_of_ble_eq_true rfl, Nat.le_of_ble_eq_true rfl⟩ rfl rfl (Nat.le_of_ble_eq_true rfl) dX12_feed_40 hF (fun h5 hF => ?_)
    refine mg_aload_n (pc := 43) C dX12_feed_43 0 rfl ?_
    refine mg_iload (pc := 44) C dX12_feed_44 5 rfl ?_
    refine mg_cvV (pc := 46) C (fun ad => [.int x5]) (met_four x5) gX12_feed_X12_four rfl ⟨rfl, rfl⟩ nd_four ⟨Nat.le_of_ble_eq_true rfl, Nat.le_of_ble_eq_true rfl⟩ rfl rfl (Nat.le_of_ble_eq_true rfl) dX12_feed_46 hF (fun h6 hF => ?_)
    refine mg_aload_n (pc := 49) C dX12_feed_49 0 rfl ?_
    refine mg_getr (pc := 50) C inm_feed 2 (by decide) (by decide) dX12_feed_50 (List.mem_of_getElem? (i := 2) rfl) ?_
    refine mg_iconst (pc := 53) (v := 0) C dX12_feed_53 (by decide) ?_
    obtain ⟨hi, hF⟩ := hF
    refine mg_iald (pc := 54) C (by decide) rfl hi dX12_feed_54 ?_
    exact mg_retI (pc := 55) C E dX12_feed_55 hF
  · have hF := hF.2 hc
    refine mg_iconst (pc := 20) (v := (-1)) C dX12_feed_20 (by decide) ?_
    exact mg_retI (pc := 21) C E dX12_feed_21 hF
def rm_end : Room := { frames := 1, cells := 0, slots := 0, locals := 22 }
theorem nd_end : yX12_end.cls = RX12 ∧ yX12_end.cls ≠ "java/lang/invoke/MethodHandle" ∧ yX12_end.cls ≠ "java/lang/invoke/VarHandle" ∧ (parseMethodDescriptor yX12_end.desc).map (fun d => d.parameters.length) = some 1 := by decide +kernel
theorem inm_end : ∀ w ∈ wsX120, w ∈ wsX12_end := fun _ h9 => List.mem_cons_of_mem _ (List.mem_append_right _ h9)
set_option maxHeartbeats 4000000 in
set_option maxRecDepth 100000 in
theorem met_end (x1 : Int32) : mg_MI yX12_end wsX12_end rm_end (fun ad => [.ref (ad 0), .int x1]) (fun Q h => wp_end Q x1 h) := by
  refine mg_startI (cc := cX12_end) (maxL := 2) (by decide) rfl rfl (fun ad => Nat.le_of_ble_eq_true rfl) (fun X Q h C hnL E hw => ?_)
  unfold wp_end at hw
  refine mg_sub (lv2 := [(0, .ref (mg_ad X 0)), (1, .int x1)]) [0, 1] rfl ?_
  have hF := hw
  refine mg_aload_n (pc := 0) C dX12_end_0 0 rfl ?_
  refine mg_iconst (pc := 1) (v := 0) C dX12_end_1 (by decide) ?_
  refine mg_puti (pc := 2) C inm_end 0 (by decide) rfl (by decide) dX12_end_2 (List.mem_of_getElem? (i := 1) rfl) rfl (tyX12_ok 0 (by decide)) (fun h1 eh1 => ?_)
  have hF := hF h1 eh1
  refine mg_iload_n (pc := 5) C dX12_end_5 1 rfl ?_
  refine mg_iconst (pc := 6) (v := 0) C dX12_end_6 (by decide) ?_
  refine mg_aload_n (pc := 7) C dX12_end_7 0 rfl ?_
  refine mg_getr (pc := 8) C inm_end 2 (by decide) (by decide) dX12_end_8 (List.mem_of_getElem? (i := 2) rfl) ?_
  refine mg_iconst (pc := 11) (v := 0) C dX12_end_11 (by decide) ?_
  obtain ⟨hi, hF⟩ := hF
  refine mg_iald (pc := 12) C (by decide) rfl hi dX12_end_12 ?_
  refine mg_csI (pc := 13) C (fun ad => [.int x1, .int 0, .int (mg_i h1 2 (0 : Int32).toNatClampNeg)]) (met_in x1 0 (mg_i h1 2 (0 : Int32).toNatClampNeg)) gX12_end_X12_in rfl ⟨rfl, rfl⟩ nd_in.2 ⟨Nat.le_of_ble_eq_true rfl, Nat.le_of_ble_eq_true rfl⟩ rfl rfl (Nat.le_of_ble_eq_true rfl) dX12_end_13 hF (fun r3 h2 hF => ?_)
  refine mg_if_ne (pc := 16) 21 C dX12_end_16 (by decide) (fun hc => ?_) (fun hc => ?_)
  · have hF := hF.1 hc
    refine mg_aload_n (pc := 21) C dX12_end_21 0 rfl ?_
    refine mg_getr (pc := 22) C inm_end 2 (by decide) (by decide) dX12_end_22 (List.mem_of_getElem? (i := 2) rfl) ?_
    refine mg_iconst (pc := 25) (v := 0) C dX12_end_25 (by decide) ?_
    refine mg_iload_n (pc := 26) C dX12_end_26 1 rfl ?_
    obtain ⟨hi, hF⟩ := hF
    refine mg_iast (pc := 27) C (by decide) rfl hi dX12_end_27 (fun h4 eh4 => ?_)
    have hF := hF h4 eh4
    refine mg_iload_n (pc := 28) C dX12_end_28 1 rfl ?_
    exact mg_retI (pc := 29) C E dX12_end_29 hF
  · have hF := hF.2 hc
    refine mg_iconst (pc := 19) (v := (-1)) C dX12_end_19 (by decide) ?_
    exact mg_retI (pc := 20) C E dX12_end_20 hF
def rm_see : Room := { frames := 0, cells := 0, slots := 0, locals := 0 }
theorem nd_see : yX12_see.cls = RX12 ∧ yX12_see.cls ≠ "java/lang/invoke/MethodHandle" ∧ yX12_see.cls ≠ "java/lang/invoke/VarHandle" ∧ (parseMethodDescriptor yX12_see.desc).map (fun d => d.parameters.length) = some 0 := by decide +kernel
theorem inm_see : ∀ w ∈ wsX120, w ∈ wsX12_see := fun _ h9 => List.mem_cons_of_mem _ (List.mem_append_right _ h9)
set_option maxHeartbeats 4000000 in
set_option maxRecDepth 100000 in
theorem met_see : mg_MI yX12_see wsX12_see rm_see (fun ad => [.ref (ad 0)]) (fun Q h => wp_see Q h) := by
  refine mg_startI (cc := cX12_see) (maxL := 1) (by decide) rfl rfl (fun ad => Nat.le_of_ble_eq_true rfl) (fun X Q h C hnL E hw => ?_)
  unfold wp_see at hw
  refine mg_sub (lv2 := [(0, .ref (mg_ad X 0))]) [0] rfl ?_
  have hF := hw
  refine mg_aload_n (pc := 0) C dX12_see_0 0 rfl ?_
  refine mg_geti (pc := 1) C inm_see 10 (by decide) rfl (by decide) dX12_see_1 (List.mem_of_getElem? (i := 1) rfl) ?_
  refine mg_aload_n (pc := 4) C dX12_see_4 0 rfl ?_
  refine mg_geti (pc := 5) C inm_see 11 (by decide) rfl (by decide) dX12_see_5 (List.mem_of_getElem? (i := 2) rfl) ?_
  refine mg_icmp_ge (pc := 8) 27 C dX12_see_8 (by decide) (fun hc => ?_) (fun hc => ?_)
  · have hF := hF.1 hc
    refine mg_iconst (pc := 27) (v := (-1)) C dX12_see_27 (by decide) ?_
    exact mg_retI (pc := 28) C E dX12_see_28 hF
  · have hF := hF.2 hc
    refine mg_aload_n (pc := 11) C dX12_see_11 0 rfl ?_
    refine mg_getr (pc := 12) C inm_see 1 (by decide) (by decide) dX12_see_12 (List.mem_of_getElem? (i := 3) rfl) ?_
    refine mg_aload_n (pc := 15) C dX12_see_15 0 rfl ?_
    refine mg_geti (pc := 16) C inm_see 10 (by decide) rfl (by decide) dX12_see_16 (List.mem_of_getElem? (i := 1) rfl) ?_
    obtain ⟨hi, hF⟩ := hF
    refine mg_bald (pc := 19) C (by decide) rfl hi dX12_see_19 ?_
    refine mg_sipush (pc := 20) (v := 255) C dX12_see_20 (by decide) ?_
    refine mg_iand (pc := 23) C dX12_see_23 ?_
    refine mg_goto (pc := 24) 28 C dX12_see_24 (by decide) ?_
    exact mg_retI (pc := 28) C E dX12_see_28 hF
def rm_token : Room := { frames := 1, cells := 0, slots := 0, locals := 22 }
theorem nd_token : yX12_token.cls = RX12 ∧ yX12_token.cls ≠ "java/lang/invoke/MethodHandle" ∧ yX12_token.cls ≠ "java/lang/invoke/VarHandle" ∧ (parseMethodDescriptor yX12_token.desc).map (fun d => d.parameters.length) = some 0 := by decide +kernel
theorem inm_token : ∀ w ∈ wsX120, w ∈ wsX12_token := fun _ h9 => List.mem_cons_of_mem _ (List.mem_append_right _ h9)
set_option maxHeartbeats 4000000 in
set_option maxRecDepth 100000 in
theorem met_token : mg_MV yX12_token wsX12_token rm_token (fun ad => [.ref (ad 0)]) (fun Q h => wp_token Q h) := by
  refine mg_startV (cc := cX12_token) (maxL := 3) (by decide) rfl rfl (fun ad => Nat.le_of_ble_eq_true rfl) (fun X Q h C hnL E hw => ?_)
  unfold wp_token at hw
  refine mg_sub (lv2 := [(0, .ref (mg_ad X 0))]) [0] rfl ?_
  refine mg_use (hw (fun (h : mg_H) => mg_W X 0 [(0, .ref (mg_ad X 0))] [] h) (fun (h : mg_H) => mg_W X 18 [(0, .ref (mg_ad X 0))] [] h) (fun (s0 : Int32) (h : mg_H) => mg_W X 263 [] [.int s0, .ref (mg_ad X 0)] h) (fun (y2 : Int32) (h : mg_H) => mg_W X 163 [(0, .ref (mg_ad X 0)), (2, .int y2)] [] h) (fun (y2 : Int32) (h : mg_H) => mg_W X 74 [(0, .ref (mg_ad X 0)), (2, .int y2)] [] h) (fun (s0 : Int32) (h : mg_H) => mg_W X 235 [] [.int s0, .ref (mg_ad X 0)] h) (fun (y2 : Int32) (s0 : Int32) (h : mg_H) => mg_W X 205 [(0, .ref (mg_ad X 0)), (2, .int y2)] [.int s0, .ref (mg_ad X 0)] h) (fun (s0 : Int64) (h : mg_H) => mg_W X 136 [(0, .ref (mg_ad X 0))] [.long s0, .ref (mg_ad X 0)] h) ?_ ?_ ?_ ?_ ?_ ?_ ?_ ?_) (fun hF => ?_)
  · intro h hF
    refine mg_aload_n (pc := 0) C dX12_token_0 0 rfl ?_
    refine mg_cvI (pc := 1) C (fun ad => []) (met_see) gX12_token_X12_see rfl ⟨rfl, rfl⟩ nd_see ⟨Nat.le_of_ble_eq_true rfl, Nat.le_of_ble_eq_true rfl⟩ rfl rfl (Nat.le_of_ble_eq_true rfl) dX12_token_1 hF (fun r2 h1 hF => ?_)
    refine mg_bipush (pc := 4) (v := 10) C dX12_token_4 (by decide) ?_
    refine mg_icmp_eq (pc := 6) 18 C dX12_token_6 (by decide) (fun hc => ?_) (fun hc => ?_)
    · have hF := hF.1 hc
      exact hF
    · have hF := hF.2 hc
      refine mg_aload_n (pc := 9) C dX12_token_9 0 rfl ?_
      refine mg_cvI (pc := 10) C (fun ad => []) (met_see) gX12_token_X12_see rfl ⟨rfl, rfl⟩ nd_see ⟨Nat.le_of_ble_eq_true rfl, Nat.le_of_ble_eq_true rfl⟩ rfl rfl (Nat.le_of_ble_eq_true rfl) dX12_token_10 hF (fun r4 h3 hF => ?_)
      refine mg_bipush (pc := 13) (v := 32) C dX12_token_13 (by decide) ?_
      refine mg_icmp_ne (pc := 15) 31 C dX12_token_15 (by decide) (fun hc => ?_) (fun hc => ?_)
      · have hF := hF.1 hc
        refine mg_aload_n (pc := 31) C dX12_token_31 0 rfl ?_
        refine mg_aload_n (pc := 32) C dX12_token_32 0 rfl ?_
        refine mg_geti (pc := 33) C inm_token 10 (by decide) rfl (by decide) dX12_token_33 (List.mem_of_getElem? (i := 1) rfl) ?_
        refine mg_puti (pc := 36) C inm_token 12 (by decide) rfl (by decide) dX12_token_36 (List.mem_of_getElem? (i := 2) rfl) rfl (tyX12_ok 12 (by decide)) (fun h5 eh5 => ?_)
        have hF := hF h5 eh5
        refine mg_aload_n (pc := 39) C dX12_token_39 0 rfl ?_
        refine mg_cvI (pc := 40) C (fun ad => []) (met_see) gX12_token_X12_see rfl ⟨rfl, rfl⟩ nd_see ⟨Nat.le_of_ble_eq_true rfl, Nat.le_of_ble_eq_true rfl⟩ rfl rfl (Nat.le_of_ble_eq_true rfl) dX12_token_40 hF (fun r7 h6 hF => ?_)
        refine mg_istore_n (pc := 43) (lv2 := [(1, .int r7), (0, .ref (mg_ad X 0))]) C dX12_token_43 3 hnL (by decide) rfl ?_
        refine mg_aload_n (pc := 44) C dX12_token_44 1 rfl ?_
        refine mg_lconst (pc := 45) (v := 0) C dX12_token_45 (by decide) ?_
        refine mg_putl (pc := 46) C inm_token dX12_token_46 (List.mem_of_getElem? (i := 3) rfl) (fun h8 eh8 => ?_)
        have hF := hF h8 eh8
        refine mg_iconst (pc := 49) (v := 0) C dX12_token_49 (by decide) ?_
        refine mg_istore_n (pc := 50) (lv2 := [(2, .int 0), (1, .int r7), (0, .ref (mg_ad X 0))]) C dX12_token_50 3 hnL (by decide) rfl ?_
        refine mg_iload_n (pc := 51) C dX12_token_51 1 rfl ?_
        refine mg_if_ge (pc := 52) 63 C dX12_token_52 (by decide) (fun hc => ?_) (fun hc => ?_)
        · have hF := hF.1 hc
          refine mg_iload_n (pc := 63) C dX12_token_63 1 rfl ?_
          refine mg_bipush (pc := 64) (v := 97) C dX12_token_64 (by decide) ?_
          refine mg_bipush (pc := 66) (v := 122) C dX12_token_66 (by decide) ?_
          refine mg_csI (pc := 68) C (fun ad => [.int r7, .int 97, .int 122]) (met_in r7 97 122) gX12_token_X12_in rfl ⟨rfl, rfl⟩ nd_in.2 ⟨Nat.le_of_ble_eq_true rfl, Nat.le_of_ble_eq_true rfl⟩ rfl rfl (Nat.le_of_ble_eq_true rfl) dX12_token_68 hF (fun r10 h9 hF => ?_)
          refine mg_if_eq (pc := 71) 147 C dX12_token_71 (by decide) (fun hc => ?_) (fun hc => ?_)
          · have hF := hF.1 hc
            refine mg_iload_n (pc := 147) C dX12_token_147 1 rfl ?_
            refine mg_bipush (pc := 148) (v := 48) C dX12_token_148 (by decide) ?_
            refine mg_bipush (pc := 150) (v := 57) C dX12_token_150 (by decide) ?_
            refine mg_csI (pc := 152) C (fun ad => [.int r7, .int 48, .int 57]) (met_in r7 48 57) gX12_token_X12_in rfl ⟨rfl, rfl⟩ nd_in.2 ⟨Nat.le_of_ble_eq_true rfl, Nat.le_of_ble_eq_true rfl⟩ rfl rfl (Nat.le_of_ble_eq_true rfl) dX12_token_152 hF (fun r12 h11 hF => ?_)
            refine mg_if_eq (pc := 155) 241 C dX12_token_155 (by decide) (fun hc => ?_) (fun hc => ?_)
            · have hF := hF.1 hc
              refine mg_aload_n (pc := 241) C dX12_token_241 2 rfl ?_
              refine mg_dup (pc := 242) C dX12_token_242 rfl ?_
              refine mg_geti (pc := 243) C inm_token 10 (by decide) rfl (by decide) dX12_token_243 (List.mem_of_getElem? (i := 1) rfl) ?_
              refine mg_iconst (pc := 246) (v := 1) C dX12_token_246 (by decide) ?_
              refine mg_iadd (pc := 247) C dX12_token_247 ?_
              refine mg_puti (pc := 248) C inm_token 10 (by decide) rfl (by decide) dX12_token_248 (List.mem_of_getElem? (i := 1) rfl) rfl (tyX12_ok 10 (by decide)) (fun h13 eh13 => ?_)
              have hF := hF h13 eh13
              refine mg_aload_n (pc := 251) C dX12_token_251 2 rfl ?_
              refine mg_iload_n (pc := 252) C dX12_token_252 1 rfl ?_
              refine mg_bipush (pc := 253) (v := 59) C dX12_token_253 (by decide) ?_
              refine mg_icmp_ne (pc := 255) 262 C dX12_token_255 (by decide) (fun hc => ?_) (fun hc => ?_)
              · have hF := hF.1 hc
                refine mg_iconst (pc := 262) (v := 1) C dX12_token_262 (by decide) ?_
                refine mg_sub (lv2 := []) [] rfl ?_
                exact hF
              · have hF := hF.2 hc
                refine mg_iconst (pc := 258) (v := 4) C dX12_token_258 (by decide) ?_
                refine mg_goto (pc := 259) 263 C dX12_token_259 (by decide) ?_
                refine mg_sub (lv2 := []) [] rfl ?_
                exact hF
            · have hF := hF.2 hc
              refine mg_aload_n (pc := 158) C dX12_token_158 2 rfl ?_
              refine mg_iconst (pc := 159) (v := 0) C dX12_token_159 (by decide) ?_
              refine mg_puti (pc := 160) C inm_token 14 (by decide) rfl (by decide) dX12_token_160 (List.mem_of_getElem? (i := 5) rfl) rfl (tyX12_ok 14 (by decide)) (fun h14 eh14 => ?_)
              have hF := hF h14 eh14
              refine mg_sub (lv2 := [(0, .ref (mg_ad X 0)), (2, .int 0)]) [2, 0] rfl ?_
              exact hF
          · have hF := hF.2 hc
            refine mg_sub (lv2 := [(0, .ref (mg_ad X 0)), (2, .int 0)]) [2, 0] rfl ?_
            exact hF
        · have hF := hF.2 hc
          refine mg_aload_n (pc := 55) C dX12_token_55 2 rfl ?_
          refine mg_iconst (pc := 56) (v := 0) C dX12_token_56 (by decide) ?_
          refine mg_puti (pc := 57) C inm_token 13 (by decide) rfl (by decide) dX12_token_57 (List.mem_of_getElem? (i := 4) rfl) rfl (tyX12_ok 13 (by decide)) (fun h15 eh15 => ?_)
          have hF := hF h15 eh15
          refine mg_goto (pc := 60) 266 C dX12_token_60 (by decide) ?_
          exact mg_retV (pc := 266) C E dX12_token_266 hF
      · have hF := hF.2 hc
        exact hF
  · intro h hF
    refine mg_aload_n (pc := 18) C dX12_token_18 0 rfl ?_
    refine mg_dup (pc := 19) C dX12_token_19 rfl ?_
    refine mg_geti (pc := 20) C inm_token 10 (by decide) rfl (by decide) dX12_token_20 (List.mem_of_getElem? (i := 1) rfl) ?_
    refine mg_iconst (pc := 23) (v := 1) C dX12_token_23 (by decide) ?_
    refine mg_iadd (pc := 24) C dX12_token_24 ?_
    refine mg_puti (pc := 25) C inm_token 10 (by decide) rfl (by decide) dX12_token_25 (List.mem_of_getElem? (i := 1) rfl) rfl (tyX12_ok 10 (by decide)) (fun h16 eh16 => ?_)
    have hF := hF h16 eh16
    refine mg_goto (pc := 28) 0 C dX12_token_28 (by decide) ?_
    exact hF
  · intro s0 h hF
    refine mg_puti (pc := 263) C inm_token 13 (by decide) rfl (by decide) dX12_token_263 (List.mem_of_getElem? (i := 4) rfl) rfl (tyX12_ok 13 (by decide)) (fun h17 eh17 => ?_)
    have hF := hF h17 eh17
    exact mg_retV (pc := 266) C E dX12_token_266 hF
  · intro y2 h hF
    refine mg_aload_n (pc := 163) C dX12_token_163 0 rfl ?_
    refine mg_cvI (pc := 164) C (fun ad => []) (met_see) gX12_token_X12_see rfl ⟨rfl, rfl⟩ nd_see ⟨Nat.le_of_ble_eq_true rfl, Nat.le_of_ble_eq_true rfl⟩ rfl rfl (Nat.le_of_ble_eq_true rfl) dX12_token_164 hF (fun r19 h18 hF => ?_)
    refine mg_bipush (pc := 167) (v := 48) C dX12_token_167 (by decide) ?_
    refine mg_bipush (pc := 169) (v := 57) C dX12_token_169 (by decide) ?_
    refine mg_csI (pc := 171) C (fun ad => [.int r19, .int 48, .int 57]) (met_in r19 48 57) gX12_token_X12_in rfl ⟨rfl, rfl⟩ nd_in.2 ⟨Nat.le_of_ble_eq_true rfl, Nat.le_of_ble_eq_true rfl⟩ rfl rfl (Nat.le_of_ble_eq_true rfl) dX12_token_171 hF (fun r21 h20 hF => ?_)
    refine mg_if_eq (pc := 174) 224 C dX12_token_174 (by decide) (fun hc => ?_) (fun hc => ?_)
    · have hF := hF.1 hc
      refine mg_aload_n (pc := 224) C dX12_token_224 0 rfl ?_
      refine mg_iload_n (pc := 225) C dX12_token_225 1 rfl ?_
      refine mg_iconst (pc := 226) (v := 2) C dX12_token_226 (by decide) ?_
      refine mg_icmp_le (pc := 227) 234 C dX12_token_227 (by decide) (fun hc => ?_) (fun hc => ?_)
      · have hF := hF.1 hc
        refine mg_iconst (pc := 234) (v := 3) C dX12_token_234 (by decide) ?_
        refine mg_sub (lv2 := []) [] rfl ?_
        exact hF
      · have hF := hF.2 hc
        refine mg_iconst (pc := 230) (v := 1) C dX12_token_230 (by decide) ?_
        refine mg_goto (pc := 231) 235 C dX12_token_231 (by decide) ?_
        refine mg_sub (lv2 := []) [] rfl ?_
        exact hF
    · have hF := hF.2 hc
      refine mg_aload_n (pc := 177) C dX12_token_177 0 rfl ?_
      refine mg_iload_n (pc := 178) C dX12_token_178 1 rfl ?_
      refine mg_iconst (pc := 179) (v := 2) C dX12_token_179 (by decide) ?_
      refine mg_icmp_ge (pc := 180) 201 C dX12_token_180 (by decide) (fun hc => ?_) (fun hc => ?_)
      · have hF := hF.1 hc
        refine mg_aload_n (pc := 201) C dX12_token_201 0 rfl ?_
        refine mg_geti (pc := 202) C inm_token 14 (by decide) rfl (by decide) dX12_token_202 (List.mem_of_getElem? (i := 5) rfl) ?_
        exact hF
      · have hF := hF.2 hc
        refine mg_bipush (pc := 183) (v := 10) C dX12_token_183 (by decide) ?_
        refine mg_aload_n (pc := 185) C dX12_token_185 0 rfl ?_
        refine mg_geti (pc := 186) C inm_token 14 (by decide) rfl (by decide) dX12_token_186 (List.mem_of_getElem? (i := 5) rfl) ?_
        refine mg_imul (pc := 189) C dX12_token_189 ?_
        refine mg_aload_n (pc := 190) C dX12_token_190 0 rfl ?_
        refine mg_cvI (pc := 191) C (fun ad => []) (met_see) gX12_token_X12_see rfl ⟨rfl, rfl⟩ nd_see ⟨Nat.le_of_ble_eq_true rfl, Nat.le_of_ble_eq_true rfl⟩ rfl rfl (Nat.le_of_ble_eq_true rfl) dX12_token_191 hF (fun r23 h22 hF => ?_)
        refine mg_iadd (pc := 194) C dX12_token_194 ?_
        refine mg_bipush (pc := 195) (v := 48) C dX12_token_195 (by decide) ?_
        refine mg_isub (pc := 197) C dX12_token_197 ?_
        refine mg_goto (pc := 198) 205 C dX12_token_198 (by decide) ?_
        exact hF
  · intro y2 h hF
    refine mg_aload_n (pc := 74) C dX12_token_74 0 rfl ?_
    refine mg_cvI (pc := 75) C (fun ad => []) (met_see) gX12_token_X12_see rfl ⟨rfl, rfl⟩ nd_see ⟨Nat.le_of_ble_eq_true rfl, Nat.le_of_ble_eq_true rfl⟩ rfl rfl (Nat.le_of_ble_eq_true rfl) dX12_token_75 hF (fun r25 h24 hF => ?_)
    refine mg_bipush (pc := 78) (v := 97) C dX12_token_78 (by decide) ?_
    refine mg_bipush (pc := 80) (v := 122) C dX12_token_80 (by decide) ?_
    refine mg_csI (pc := 82) C (fun ad => [.int r25, .int 97, .int 122]) (met_in r25 97 122) gX12_token_X12_in rfl ⟨rfl, rfl⟩ nd_in.2 ⟨Nat.le_of_ble_eq_true rfl, Nat.le_of_ble_eq_true rfl⟩ rfl rfl (Nat.le_of_ble_eq_true rfl) dX12_token_82 hF (fun r27 h26 hF => ?_)
    refine mg_if_eq (pc := 85) 121 C dX12_token_85 (by decide) (fun hc => ?_) (fun hc => ?_)
    · have hF := hF.1 hc
      refine mg_aload_n (pc := 121) C dX12_token_121 0 rfl ?_
      refine mg_iload_n (pc := 122) C dX12_token_122 1 rfl ?_
      refine mg_bipush (pc := 123) (v := 8) C dX12_token_123 (by decide) ?_
      refine mg_icmp_le (pc := 125) 132 C dX12_token_125 (by decide) (fun hc => ?_) (fun hc => ?_)
      · have hF := hF.1 hc
        refine mg_aload_n (pc := 132) C dX12_token_132 0 rfl ?_
        refine mg_getl (pc := 133) C inm_token dX12_token_133 (List.mem_of_getElem? (i := 3) rfl) ?_
        refine mg_sub (lv2 := [(0, .ref (mg_ad X 0))]) [0] rfl ?_
        exact hF
      · have hF := hF.2 hc
        refine mg_lconst (pc := 128) (v := 0) C dX12_token_128 (by decide) ?_
        refine mg_goto (pc := 129) 136 C dX12_token_129 (by decide) ?_
        refine mg_sub (lv2 := [(0, .ref (mg_ad X 0))]) [0] rfl ?_
        exact hF
    · have hF := hF.2 hc
      refine mg_aload_n (pc := 88) C dX12_token_88 0 rfl ?_
      refine mg_aload_n (pc := 89) C dX12_token_89 0 rfl ?_
      refine mg_getl (pc := 90) C inm_token dX12_token_90 (List.mem_of_getElem? (i := 3) rfl) ?_
      refine mg_bipush (pc := 93) (v := 8) C dX12_token_93 (by decide) ?_
      refine mg_lshl (pc := 95) C dX12_token_95 ?_
      refine mg_aload_n (pc := 96) C dX12_token_96 0 rfl ?_
      refine mg_cvI (pc := 97) C (fun ad => []) (met_see) gX12_token_X12_see rfl ⟨rfl, rfl⟩ nd_see ⟨Nat.le_of_ble_eq_true rfl, Nat.le_of_ble_eq_true rfl⟩ rfl rfl (Nat.le_of_ble_eq_true rfl) dX12_token_97 hF (fun r29 h28 hF => ?_)
      refine mg_i2l (pc := 100) C dX12_token_100 ?_
      refine mg_lor (pc := 101) C dX12_token_101 ?_
      refine mg_putl (pc := 102) C inm_token dX12_token_102 (List.mem_of_getElem? (i := 3) rfl) (fun h30 eh30 => ?_)
      have hF := hF h30 eh30
      refine mg_aload_n (pc := 105) C dX12_token_105 0 rfl ?_
      refine mg_dup (pc := 106) C dX12_token_106 rfl ?_
      refine mg_geti (pc := 107) C inm_token 10 (by decide) rfl (by decide) dX12_token_107 (List.mem_of_getElem? (i := 1) rfl) ?_
      refine mg_iconst (pc := 110) (v := 1) C dX12_token_110 (by decide) ?_
      refine mg_iadd (pc := 111) C dX12_token_111 ?_
      refine mg_puti (pc := 112) C inm_token 10 (by decide) rfl (by decide) dX12_token_112 (List.mem_of_getElem? (i := 1) rfl) rfl (tyX12_ok 10 (by decide)) (fun h31 eh31 => ?_)
      have hF := hF h31 eh31
      obtain ⟨z32, ez32⟩ : ∃ y : Int32, y = y2 + 1 := ⟨_, rfl⟩
      have hF := hF z32 ez32
      refine mg_iinc (pc := 115) (v := z32) (lv2 := [(2, .int z32), (0, .ref (mg_ad X 0))]) C dX12_token_115 1 rfl (by rw [ez32]; rfl) 3 hnL (by decide) rfl ?_
      refine mg_goto (pc := 118) 74 C dX12_token_118 (by decide) ?_
      refine mg_sub (lv2 := [(0, .ref (mg_ad X 0)), (2, .int z32)]) [1, 0] rfl ?_
      exact hF
  · intro s0 h hF
    refine mg_puti (pc := 235) C inm_token 13 (by decide) rfl (by decide) dX12_token_235 (List.mem_of_getElem? (i := 4) rfl) rfl (tyX12_ok 13 (by decide)) (fun h33 eh33 => ?_)
    have hF := hF h33 eh33
    refine mg_goto (pc := 238) 266 C dX12_token_238 (by decide) ?_
    exact mg_retV (pc := 266) C E dX12_token_266 hF
  · intro y2 s0 h hF
    refine mg_puti (pc := 205) C inm_token 14 (by decide) rfl (by decide) dX12_token_205 (List.mem_of_getElem? (i := 5) rfl) rfl (tyX12_ok 14 (by decide)) (fun h34 eh34 => ?_)
    have hF := hF h34 eh34
    refine mg_aload_n (pc := 208) C dX12_token_208 0 rfl ?_
    refine mg_dup (pc := 209) C dX12_token_209 rfl ?_
    refine mg_geti (pc := 210) C inm_token 10 (by decide) rfl (by decide) dX12_token_210 (List.mem_of_getElem? (i := 1) rfl) ?_
    refine mg_iconst (pc := 213) (v := 1) C dX12_token_213 (by decide) ?_
    refine mg_iadd (pc := 214) C dX12_token_214 ?_
    refine mg_puti (pc := 215) C inm_token 10 (by decide) rfl (by decide) dX12_token_215 (List.mem_of_getElem? (i := 1) rfl) rfl (tyX12_ok 10 (by decide)) (fun h35 eh35 => ?_)
    have hF := hF h35 eh35
    obtain ⟨z36, ez36⟩ : ∃ y : Int32, y = y2 + 1 := ⟨_, rfl⟩
    have hF := hF z36 ez36
    refine mg_iinc (pc := 218) (v := z36) (lv2 := [(2, .int z36), (0, .ref (mg_ad X 0))]) C dX12_token_218 1 rfl (by rw [ez36]; rfl) 3 hnL (by decide) rfl ?_
    refine mg_goto (pc := 221) 163 C dX12_token_221 (by decide) ?_
    refine mg_sub (lv2 := [(0, .ref (mg_ad X 0)), (2, .int z36)]) [1, 0] rfl ?_
    exact hF
  · intro s0 h hF
    refine mg_putl (pc := 136) C inm_token dX12_token_136 (List.mem_of_getElem? (i := 3) rfl) (fun h37 eh37 => ?_)
    have hF := hF h37 eh37
    refine mg_aload_n (pc := 139) C dX12_token_139 0 rfl ?_
    refine mg_iconst (pc := 140) (v := 2) C dX12_token_140 (by decide) ?_
    refine mg_puti (pc := 141) C inm_token 13 (by decide) rfl (by decide) dX12_token_141 (List.mem_of_getElem? (i := 4) rfl) rfl (tyX12_ok 13 (by decide)) (fun h38 eh38 => ?_)
    have hF := hF h38 eh38
    refine mg_goto (pc := 144) 266 C dX12_token_144 (by decide) ?_
    exact mg_retV (pc := 266) C E dX12_token_266 hF
  · skip
    exact hF
def rm_fails : Room := { frames := 0, cells := 0, slots := 0, locals := 0 }
theorem nd_fails : yX12_fails.cls = RX12 ∧ yX12_fails.cls ≠ "java/lang/invoke/MethodHandle" ∧ yX12_fails.cls ≠ "java/lang/invoke/VarHandle" ∧ (parseMethodDescriptor yX12_fails.desc).map (fun d => d.parameters.length) = some 0 := by decide +kernel
theorem inm_fails : ∀ w ∈ wsX120, w ∈ wsX12_fails := fun _ h9 => List.mem_cons_of_mem _ (List.mem_append_right _ h9)
set_option maxHeartbeats 4000000 in
set_option maxRecDepth 100000 in
theorem met_fails : mg_MI yX12_fails wsX12_fails rm_fails (fun ad => [.ref (ad 0)]) (fun Q h => wp_fails Q h) := by
  refine mg_startI (cc := cX12_fails) (maxL := 1) (by decide) rfl rfl (fun ad => Nat.le_of_ble_eq_true rfl) (fun X Q h C hnL E hw => ?_)
  unfold wp_fails at hw
  refine mg_sub (lv2 := [(0, .ref (mg_ad X 0))]) [0] rfl ?_
  have hF := hw
  refine mg_aload_n (pc := 0) C dX12_fails_0 0 rfl ?_
  refine mg_aload_n (pc := 1) C dX12_fails_1 0 rfl ?_
  refine mg_geti (pc := 2) C inm_fails 12 (by decide) rfl (by decide) dX12_fails_2 (List.mem_of_getElem? (i := 1) rfl) ?_
  refine mg_puti (pc := 5) C inm_fails 16 (by decide) rfl (by decide) dX12_fails_5 (List.mem_of_getElem? (i := 2) rfl) rfl (tyX12_ok 16 (by decide)) (fun h1 eh1 => ?_)
  have hF := hF h1 eh1
  refine mg_iconst (pc := 8) (v := 0) C dX12_fails_8 (by decide) ?_
  exact mg_retZ (pc := 9) C E (Or.inl rfl) dX12_fails_9 hF
def rm_addsFault : Room := { frames := 0, cells := 0, slots := 0, locals := 0 }
theorem nd_addsFault : yX12_addsFault.cls = RX12 ∧ yX12_addsFault.cls ≠ "java/lang/invoke/MethodHandle" ∧ yX12_addsFault.cls ≠ "java/lang/invoke/VarHandle" ∧ (parseMethodDescriptor yX12_addsFault.desc).map (fun d => d.parameters.length) = some 2 := by decide +kernel
theorem inm_addsFault : ∀ w ∈ wsX120, w ∈ wsX12_addsFault := fun _ h9 => List.mem_cons_of_mem _ (List.mem_append_right _ h9)
set_option maxHeartbeats 4000000 in
set_option maxRecDepth 100000 in
theorem met_addsFault (x1 : Int32) (x2 : Int32) : mg_MV yX12_addsFault wsX12_addsFault rm_addsFault (fun ad => [.ref (ad 0), .int x1, .int x2]) (fun Q h => wp_addsFault Q x1 x2 h) := by
  refine mg_startV (cc := cX12_addsFault) (maxL := 3) (by decide) rfl rfl (fun ad => Nat.le_of_ble_eq_true rfl) (fun X Q h C hnL E hw => ?_)
  unfold wp_addsFault at hw
  refine mg_sub (lv2 := [(0, .ref (mg_ad X 0)), (1, .int x1), (2, .int x2)]) [0, 1, 2] rfl ?_
  refine mg_use (hw (fun (h : mg_H) => mg_W X 31 [(0, .ref (mg_ad X 0)), (1, .int x1), (2, .int x2)] [] h) ?_) (fun hF => ?_)
  · intro h hF
    refine mg_aload_n (pc := 31) C dX12_addsFault_31 0 rfl ?_
    refine mg_iload_n (pc := 32) C dX12_addsFault_32 1 rfl ?_
    refine mg_puti (pc := 33) C inm_addsFault 17 (by decide) rfl (by decide) dX12_addsFault_33 (List.mem_of_getElem? (i := 1) rfl) rfl (tyX12_ok 17 (by decide)) (fun h1 eh1 => ?_)
    have hF := hF h1 eh1
    refine mg_aload_n (pc := 36) C dX12_addsFault_36 0 rfl ?_
    refine mg_iload_n (pc := 37) C dX12_addsFault_37 2 rfl ?_
    refine mg_puti (pc := 38) C inm_addsFault 18 (by decide) rfl (by decide) dX12_addsFault_38 (List.mem_of_getElem? (i := 2) rfl) rfl (tyX12_ok 18 (by decide)) (fun h2 eh2 => ?_)
    have hF := hF h2 eh2
    exact mg_retV (pc := 41) C E dX12_addsFault_41 hF
  · skip
    refine mg_aload_n (pc := 0) C dX12_addsFault_0 0 rfl ?_
    refine mg_geti (pc := 1) C inm_addsFault 17 (by decide) rfl (by decide) dX12_addsFault_1 (List.mem_of_getElem? (i := 1) rfl) ?_
    refine mg_if_eq (pc := 4) 31 C dX12_addsFault_4 (by decide) (fun hc => ?_) (fun hc => ?_)
    · have hF := hF.1 hc
      exact hF
    · have hF := hF.2 hc
      refine mg_iload_n (pc := 7) C dX12_addsFault_7 2 rfl ?_
      refine mg_aload_n (pc := 8) C dX12_addsFault_8 0 rfl ?_
      refine mg_geti (pc := 9) C inm_addsFault 18 (by decide) rfl (by decide) dX12_addsFault_9 (List.mem_of_getElem? (i := 2) rfl) ?_
      refine mg_icmp_lt (pc := 12) 31 C dX12_addsFault_12 (by decide) (fun hc => ?_) (fun hc => ?_)
      · have hF := hF.1 hc
        exact hF
      · have hF := hF.2 hc
        refine mg_iload_n (pc := 15) C dX12_addsFault_15 2 rfl ?_
        refine mg_aload_n (pc := 16) C dX12_addsFault_16 0 rfl ?_
        refine mg_geti (pc := 17) C inm_addsFault 18 (by decide) rfl (by decide) dX12_addsFault_17 (List.mem_of_getElem? (i := 2) rfl) ?_
        refine mg_icmp_ne (pc := 20) 41 C dX12_addsFault_20 (by decide) (fun hc => ?_) (fun hc => ?_)
        · have hF := hF.1 hc
          exact mg_retV (pc := 41) C E dX12_addsFault_41 hF
        · have hF := hF.2 hc
          refine mg_iload_n (pc := 23) C dX12_addsFault_23 1 rfl ?_
          refine mg_aload_n (pc := 24) C dX12_addsFault_24 0 rfl ?_
          refine mg_geti (pc := 25) C inm_addsFault 17 (by decide) rfl (by decide) dX12_addsFault_25 (List.mem_of_getElem? (i := 1) rfl) ?_
          refine mg_icmp_ge (pc := 28) 41 C dX12_addsFault_28 (by decide) (fun hc => ?_) (fun hc => ?_)
          · have hF := hF.1 hc
            exact mg_retV (pc := 41) C E dX12_addsFault_41 hF
          · have hF := hF.2 hc
            exact hF
def rm_take : Room := { frames := 2, cells := 0, slots := 0, locals := 44 }
theorem nd_take : yX12_take.cls = RX12 ∧ yX12_take.cls ≠ "java/lang/invoke/MethodHandle" ∧ yX12_take.cls ≠ "java/lang/invoke/VarHandle" ∧ (parseMethodDescriptor yX12_take.desc).map (fun d => d.parameters.length) = some 3 := by decide +kernel
theorem inm_take : ∀ w ∈ wsX120, w ∈ wsX12_take := fun _ h9 => List.mem_cons_of_mem _ (List.mem_append_right _ h9)
set_option maxHeartbeats 4000000 in
set_option maxRecDepth 100000 in
theorem met_take (x1 : Int32) (x2 : Int32) (x3 : Int32) : mg_MI yX12_take wsX12_take rm_take (fun ad => [.ref (ad 0), .int x1, .int x2, .int x3]) (fun Q h => wp_take Q x1 x2 x3 h) := by
  refine mg_startI (cc := cX12_take) (maxL := 4) (by decide) rfl rfl (fun ad => Nat.le_of_ble_eq_true rfl) (fun X Q h C hnL E hw => ?_)
  unfold wp_take at hw
  refine mg_sub (lv2 := [(0, .ref (mg_ad X 0)), (1, .int x1), (2, .int x2), (3, .int x3)]) [0, 1, 2, 3] rfl ?_
  refine mg_use (hw (fun (h : mg_H) => mg_W X 49 [(0, .ref (mg_ad X 0))] [] h) ?_) (fun hF => ?_)
  · intro h hF
    refine mg_aload_n (pc := 49) C dX12_take_49 0 rfl ?_
    refine mg_cvV (pc := 50) C (fun ad => []) (met_token) gX12_take_X12_token rfl ⟨rfl, rfl⟩ nd_token ⟨Nat.le_of_ble_eq_true rfl, Nat.le_of_ble_eq_true rfl⟩ rfl rfl (Nat.le_of_ble_eq_true rfl) dX12_take_50 hF (fun h8 hF => ?_)
    refine mg_iconst (pc := 53) (v := 1) C dX12_take_53 (by decide) ?_
    exact mg_retZ (pc := 54) C E (Or.inr rfl) dX12_take_54 hF
  · skip
    refine mg_aload_n (pc := 0) C dX12_take_0 0 rfl ?_
    refine mg_geti (pc := 1) C inm_take 13 (by decide) rfl (by decide) dX12_take_1 (List.mem_of_getElem? (i := 1) rfl) ?_
    refine mg_iconst (pc := 4) (v := 3) C dX12_take_4 (by decide) ?_
    refine mg_icmp_eq (pc := 5) 13 C dX12_take_5 (by decide) (fun hc => ?_) (fun hc => ?_)
    · have hF := hF.1 hc
      refine mg_aload_n (pc := 13) C dX12_take_13 0 rfl ?_
      refine mg_getr (pc := 14) C inm_take 20 (by decide) (by decide) dX12_take_14 (List.mem_of_getElem? (i := 2) rfl) ?_
      refine mg_iload_n (pc := 17) C dX12_take_17 1 rfl ?_
      refine mg_aload_n (pc := 18) C dX12_take_18 0 rfl ?_
      refine mg_geti (pc := 19) C inm_take 14 (by decide) rfl (by decide) dX12_take_19 (List.mem_of_getElem? (i := 3) rfl) ?_
      obtain ⟨hi, hF⟩ := hF
      refine mg_iast (pc := 22) C (by decide) rfl hi dX12_take_22 (fun h1 eh1 => ?_)
      have hF := hF h1 eh1
      refine mg_aload_n (pc := 23) C dX12_take_23 0 rfl ?_
      refine mg_geti (pc := 24) C inm_take 14 (by decide) rfl (by decide) dX12_take_24 (List.mem_of_getElem? (i := 3) rfl) ?_
      refine mg_iload_n (pc := 27) C dX12_take_27 2 rfl ?_
      refine mg_iload_n (pc := 28) C dX12_take_28 3 rfl ?_
      refine mg_csI (pc := 29) C (fun ad => [.int (mg_i h1 0 14), .int x2, .int x3]) (met_in (mg_i h1 0 14) x2 x3) gX12_take_X12_in rfl ⟨rfl, rfl⟩ nd_in.2 ⟨Nat.le_of_ble_eq_true rfl, Nat.le_of_ble_eq_true rfl⟩ rfl rfl (Nat.le_of_ble_eq_true rfl) dX12_take_29 hF (fun r3 h2 hF => ?_)
      refine mg_if_ne (pc := 32) 49 C dX12_take_32 (by decide) (fun hc => ?_) (fun hc => ?_)
      · have hF := hF.1 hc
        refine mg_sub (lv2 := [(0, .ref (mg_ad X 0))]) [0] rfl ?_
        exact hF
      · have hF := hF.2 hc
        refine mg_aload_n (pc := 35) C dX12_take_35 0 rfl ?_
        refine mg_iconst (pc := 36) (v := 2) C dX12_take_36 (by decide) ?_
        refine mg_aload_n (pc := 37) C dX12_take_37 0 rfl ?_
        refine mg_geti (pc := 38) C inm_take 12 (by decide) rfl (by decide) dX12_take_38 (List.mem_of_getElem? (i := 4) rfl) ?_
        refine mg_cvV (pc := 41) C (fun ad => [.int 2, .int (mg_i h2 0 12)]) (met_addsFault 2 (mg_i h2 0 12)) gX12_take_X12_addsFault rfl ⟨rfl, rfl⟩ nd_addsFault ⟨Nat.le_of_ble_eq_true rfl, Nat.le_of_ble_eq_true rfl⟩ rfl rfl (Nat.le_of_ble_eq_true rfl) dX12_take_41 hF (fun h4 hF => ?_)
        refine mg_aload_n (pc := 44) C dX12_take_44 0 rfl ?_
        refine mg_iconst (pc := 45) (v := 0) C dX12_take_45 (by decide) ?_
        refine mg_putz (pc := 46) C inm_take 22 (by decide) rfl (by decide) (Or.inl rfl) dX12_take_46 (List.mem_of_getElem? (i := 5) rfl) rfl (tyX12_ok 22 (by decide)) (fun h5 eh5 => ?_)
        have hF := hF h5 eh5
        refine mg_sub (lv2 := [(0, .ref (mg_ad X 0))]) [0] rfl ?_
        exact hF
    · have hF := hF.2 hc
      refine mg_aload_n (pc := 8) C dX12_take_8 0 rfl ?_
      refine mg_cvI (pc := 9) C (fun ad => []) (met_fails) gX12_take_X12_fails rfl ⟨rfl, rfl⟩ nd_fails ⟨Nat.le_of_ble_eq_true rfl, Nat.le_of_ble_eq_true rfl⟩ rfl rfl (Nat.le_of_ble_eq_true rfl) dX12_take_9 hF (fun r7 h6 hF => ?_)
      exact mg_retZ (pc := 12) C E hF.1 dX12_take_12 hF.2
def rm_full : Room := { frames := 1, cells := 0, slots := 0, locals := 22 }
theorem nd_full : yX12_full.cls = RX12 ∧ yX12_full.cls ≠ "java/lang/invoke/MethodHandle" ∧ yX12_full.cls ≠ "java/lang/invoke/VarHandle" ∧ (parseMethodDescriptor yX12_full.desc).map (fun d => d.parameters.length) = some 2 := by decide +kernel
theorem inm_full : ∀ w ∈ wsX120, w ∈ wsX12_full := fun _ h9 => List.mem_cons_of_mem _ (List.mem_append_right _ h9)
set_option maxHeartbeats 4000000 in
set_option maxRecDepth 100000 in
theorem met_full (x1 : Int32) (x2 : Int32) : mg_MV yX12_full wsX12_full rm_full (fun ad => [.ref (ad 0), .int x1, .int x2]) (fun Q h => wp_full Q x1 x2 h) := by
  refine mg_startV (cc := cX12_full) (maxL := 3) (by decide) rfl rfl (fun ad => Nat.le_of_ble_eq_true rfl) (fun X Q h C hnL E hw => ?_)
  unfold wp_full at hw
  refine mg_sub (lv2 := [(0, .ref (mg_ad X 0)), (1, .int x1), (2, .int x2)]) [0, 1, 2] rfl ?_
  have hF := hw
  refine mg_aload_n (pc := 0) C dX12_full_0 0 rfl ?_
  refine mg_getr (pc := 1) C inm_full 19 (by decide) (by decide) dX12_full_1 (List.mem_of_getElem? (i := 1) rfl) ?_
  refine mg_iconst (pc := 4) (v := 0) C dX12_full_4 (by decide) ?_
  obtain ⟨hi, hF⟩ := hF
  refine mg_iald (pc := 5) C (by decide) rfl hi dX12_full_5 ?_
  refine mg_iload_n (pc := 6) C dX12_full_6 1 rfl ?_
  refine mg_icmp_ne (pc := 7) 16 C dX12_full_7 (by decide) (fun hc => ?_) (fun hc => ?_)
  · have hF := hF.1 hc
    exact mg_retV (pc := 16) C E dX12_full_16 hF
  · have hF := hF.2 hc
    refine mg_aload_n (pc := 10) C dX12_full_10 0 rfl ?_
    refine mg_iconst (pc := 11) (v := 3) C dX12_full_11 (by decide) ?_
    refine mg_iload_n (pc := 12) C dX12_full_12 2 rfl ?_
    refine mg_cvV (pc := 13) C (fun ad => [.int 3, .int x2]) (met_addsFault 3 x2) gX12_full_X12_addsFault rfl ⟨rfl, rfl⟩ nd_addsFault ⟨Nat.le_of_ble_eq_true rfl, Nat.le_of_ble_eq_true rfl⟩ rfl rfl (Nat.le_of_ble_eq_true rfl) dX12_full_13 hF (fun h1 hF => ?_)
    exact mg_retV (pc := 16) C E dX12_full_16 hF
def rm_glassLine : Room := { frames := 3, cells := 0, slots := 0, locals := 67 }
theorem nd_glassLine : yX12_glassLine.cls = RX12 ∧ yX12_glassLine.cls ≠ "java/lang/invoke/MethodHandle" ∧ yX12_glassLine.cls ≠ "java/lang/invoke/VarHandle" ∧ (parseMethodDescriptor yX12_glassLine.desc).map (fun d => d.parameters.length) = some 1 := by decide +kernel
theorem inm_glassLine : ∀ w ∈ wsX120, w ∈ wsX12_glassLine := fun _ h9 => List.mem_cons_of_mem _ (List.mem_append_right _ h9)
set_option maxHeartbeats 4000000 in
set_option maxRecDepth 100000 in
theorem met_glassLine (x1 : Int32) : mg_MI yX12_glassLine wsX12_glassLine rm_glassLine (fun ad => [.ref (ad 0), .int x1]) (fun Q h => wp_glassLine Q x1 h) := by
  refine mg_startI (cc := cX12_glassLine) (maxL := 3) (by decide) rfl rfl (fun ad => Nat.le_of_ble_eq_true rfl) (fun X Q h C hnL E hw => ?_)
  unfold wp_glassLine at hw
  refine mg_sub (lv2 := [(0, .ref (mg_ad X 0)), (1, .int x1)]) [0, 1] rfl ?_
  refine mg_use (hw (fun (y2 : Int32) (h : mg_H) => mg_W X 85 [(0, .ref (mg_ad X 0)), (2, .int y2)] [] h) ?_) (fun hF => ?_)
  · intro y2 h hF
    refine mg_aload_n (pc := 85) C dX12_glassLine_85 0 rfl ?_
    refine mg_getr (pc := 86) C inm_glassLine 19 (by decide) (by decide) dX12_glassLine_86 (List.mem_of_getElem? (i := 2) rfl) ?_
    refine mg_iconst (pc := 89) (v := 0) C dX12_glassLine_89 (by decide) ?_
    refine mg_iconst (pc := 90) (v := 4) C dX12_glassLine_90 (by decide) ?_
    refine mg_iload_n (pc := 91) C dX12_glassLine_91 1 rfl ?_
    refine mg_iconst (pc := 92) (v := 1) C dX12_glassLine_92 (by decide) ?_
    refine mg_iadd (pc := 93) C dX12_glassLine_93 ?_
    refine mg_csI (pc := 94) C (fun ad => [.int 4, .int (y2 + 1)]) (met_lesser 4 (y2 + 1)) gX12_glassLine_X12_lesser rfl ⟨rfl, rfl⟩ nd_lesser.2 ⟨Nat.le_of_ble_eq_true rfl, Nat.le_of_ble_eq_true rfl⟩ rfl rfl (Nat.le_of_ble_eq_true rfl) dX12_glassLine_94 hF (fun r13 h12 hF => ?_)
    obtain ⟨hi, hF⟩ := hF
    refine mg_iast (pc := 97) C (by decide) rfl hi dX12_glassLine_97 (fun h14 eh14 => ?_)
    have hF := hF h14 eh14
    refine mg_iconst (pc := 98) (v := 1) C dX12_glassLine_98 (by decide) ?_
    exact mg_retZ (pc := 99) C E (Or.inr rfl) dX12_glassLine_99 hF
  · skip
    refine mg_aload_n (pc := 0) C dX12_glassLine_0 0 rfl ?_
    refine mg_iconst (pc := 1) (v := 4) C dX12_glassLine_1 (by decide) ?_
    refine mg_iload_n (pc := 2) C dX12_glassLine_2 1 rfl ?_
    refine mg_cvV (pc := 3) C (fun ad => [.int 4, .int x1]) (met_full 4 x1) gX12_glassLine_X12_full rfl ⟨rfl, rfl⟩ nd_full ⟨Nat.le_of_ble_eq_true rfl, Nat.le_of_ble_eq_true rfl⟩ rfl rfl (Nat.le_of_ble_eq_true rfl) dX12_glassLine_3 hF (fun h1 hF => ?_)
    refine mg_aload_n (pc := 6) C dX12_glassLine_6 0 rfl ?_
    refine mg_cvV (pc := 7) C (fun ad => []) (met_token) gX12_glassLine_X12_token rfl ⟨rfl, rfl⟩ nd_token ⟨Nat.le_of_ble_eq_true rfl, Nat.le_of_ble_eq_true rfl⟩ rfl rfl (Nat.le_of_ble_eq_true rfl) dX12_glassLine_7 hF (fun h2 hF => ?_)
    refine mg_aload_n (pc := 10) C dX12_glassLine_10 0 rfl ?_
    refine mg_iconst (pc := 11) (v := 0) C dX12_glassLine_11 (by decide) ?_
    refine mg_iconst (pc := 12) (v := 1) C dX12_glassLine_12 (by decide) ?_
    refine mg_bipush (pc := 13) (v := 7) C dX12_glassLine_13 (by decide) ?_
    refine mg_cvI (pc := 15) C (fun ad => [.int 0, .int 1, .int 7]) (met_take 0 1 7) gX12_glassLine_X12_take rfl ⟨rfl, rfl⟩ nd_take ⟨Nat.le_of_ble_eq_true rfl, Nat.le_of_ble_eq_true rfl⟩ rfl rfl (Nat.le_of_ble_eq_true rfl) dX12_glassLine_15 hF (fun r4 h3 hF => ?_)
    refine mg_if_ne (pc := 18) 23 C dX12_glassLine_18 (by decide) (fun hc => ?_) (fun hc => ?_)
    · have hF := hF.1 hc
      refine mg_aload_n (pc := 23) C dX12_glassLine_23 0 rfl ?_
      refine mg_iconst (pc := 24) (v := 1) C dX12_glassLine_24 (by decide) ?_
      refine mg_iconst (pc := 25) (v := 0) C dX12_glassLine_25 (by decide) ?_
      refine mg_bipush (pc := 26) (v := 7) C dX12_glassLine_26 (by decide) ?_
      refine mg_aload_n (pc := 28) C dX12_glassLine_28 0 rfl ?_
      refine mg_getr (pc := 29) C inm_glassLine 20 (by decide) (by decide) dX12_glassLine_29 (List.mem_of_getElem? (i := 1) rfl) ?_
      refine mg_iconst (pc := 32) (v := 0) C dX12_glassLine_32 (by decide) ?_
      obtain ⟨hi, hF⟩ := hF
      refine mg_iald (pc := 33) C (by decide) rfl hi dX12_glassLine_33 ?_
      refine mg_csI (pc := 34) C (fun ad => [.int 7, .int (mg_i h3 20 (0 : Int32).toNatClampNeg)]) (met_lesser 7 (mg_i h3 20 (0 : Int32).toNatClampNeg)) gX12_glassLine_X12_lesser rfl ⟨rfl, rfl⟩ nd_lesser.2 ⟨Nat.le_of_ble_eq_true rfl, Nat.le_of_ble_eq_true rfl⟩ rfl rfl (Nat.le_of_ble_eq_true rfl) dX12_glassLine_34 hF (fun r6 h5 hF => ?_)
      refine mg_cvI (pc := 37) C (fun ad => [.int 1, .int 0, .int r6]) (met_take 1 0 r6) gX12_glassLine_X12_take rfl ⟨rfl, rfl⟩ nd_take ⟨Nat.le_of_ble_eq_true rfl, Nat.le_of_ble_eq_true rfl⟩ rfl rfl (Nat.le_of_ble_eq_true rfl) dX12_glassLine_37 hF (fun r8 h7 hF => ?_)
      refine mg_if_ne (pc := 40) 45 C dX12_glassLine_40 (by decide) (fun hc => ?_) (fun hc => ?_)
      · have hF := hF.1 hc
        refine mg_aload_n (pc := 45) C dX12_glassLine_45 0 rfl ?_
        refine mg_getr (pc := 46) C inm_glassLine 19 (by decide) (by decide) dX12_glassLine_46 (List.mem_of_getElem? (i := 2) rfl) ?_
        refine mg_iconst (pc := 49) (v := 0) C dX12_glassLine_49 (by decide) ?_
        obtain ⟨hi, hF⟩ := hF
        refine mg_iald (pc := 50) C (by decide) rfl hi dX12_glassLine_50 ?_
        refine mg_topi (pc := 51) (fun z9 ez9 => ?_)
        have hF := hF z9 ez9
        refine mg_istore_n (pc := 51) (lv2 := [(2, .int z9), (0, .ref (mg_ad X 0)), (1, .int x1)]) C dX12_glassLine_51 3 hnL (by decide) rfl ?_
        refine mg_iload_n (pc := 52) C dX12_glassLine_52 0 rfl ?_
        refine mg_iconst (pc := 53) (v := 4) C dX12_glassLine_53 (by decide) ?_
        refine mg_icmp_ge (pc := 54) 85 C dX12_glassLine_54 (by decide) (fun hc => ?_) (fun hc => ?_)
        · have hF := hF.1 hc
          refine mg_sub (lv2 := [(0, .ref (mg_ad X 0)), (2, .int z9)]) [1, 0] rfl ?_
          exact hF
        · have hF := hF.2 hc
          refine mg_aload_n (pc := 57) C dX12_glassLine_57 1 rfl ?_
          refine mg_getr (pc := 58) C inm_glassLine 19 (by decide) (by decide) dX12_glassLine_58 (List.mem_of_getElem? (i := 2) rfl) ?_
          refine mg_iconst (pc := 61) (v := 1) C dX12_glassLine_61 (by decide) ?_
          refine mg_iload_n (pc := 62) C dX12_glassLine_62 0 rfl ?_
          refine mg_iadd (pc := 63) C dX12_glassLine_63 ?_
          refine mg_aload_n (pc := 64) C dX12_glassLine_64 1 rfl ?_
          refine mg_getr (pc := 65) C inm_glassLine 20 (by decide) (by decide) dX12_glassLine_65 (List.mem_of_getElem? (i := 1) rfl) ?_
          refine mg_iconst (pc := 68) (v := 0) C dX12_glassLine_68 (by decide) ?_
          obtain ⟨hi, hF⟩ := hF
          refine mg_iald (pc := 69) C (by decide) rfl hi dX12_glassLine_69 ?_
          obtain ⟨hi, hF⟩ := hF
          refine mg_iast (pc := 70) C (by decide) rfl hi dX12_glassLine_70 (fun h10 eh10 => ?_)
          have hF := hF h10 eh10
          refine mg_aload_n (pc := 71) C dX12_glassLine_71 1 rfl ?_
          refine mg_getr (pc := 72) C inm_glassLine 19 (by decide) (by decide) dX12_glassLine_72 (List.mem_of_getElem? (i := 2) rfl) ?_
          refine mg_iconst (pc := 75) (v := 5) C dX12_glassLine_75 (by decide) ?_
          refine mg_iload_n (pc := 76) C dX12_glassLine_76 0 rfl ?_
          refine mg_iadd (pc := 77) C dX12_glassLine_77 ?_
          refine mg_aload_n (pc := 78) C dX12_glassLine_78 1 rfl ?_
          refine mg_getr (pc := 79) C inm_glassLine 20 (by decide) (by decide) dX12_glassLine_79 (List.mem_of_getElem? (i := 1) rfl) ?_
          refine mg_iconst (pc := 82) (v := 1) C dX12_glassLine_82 (by decide) ?_
          obtain ⟨hi, hF⟩ := hF
          refine mg_iald (pc := 83) C (by decide) rfl hi dX12_glassLine_83 ?_
          obtain ⟨hi, hF⟩ := hF
          refine mg_iast (pc := 84) C (by decide) rfl hi dX12_glassLine_84 (fun h11 eh11 => ?_)
          have hF := hF h11 eh11
          refine mg_sub (lv2 := [(0, .ref (mg_ad X 0)), (2, .int z9)]) [1, 0] rfl ?_
          exact hF
      · have hF := hF.2 hc
        refine mg_iconst (pc := 43) (v := 0) C dX12_glassLine_43 (by decide) ?_
        exact mg_retZ (pc := 44) C E (Or.inl rfl) dX12_glassLine_44 hF
    · have hF := hF.2 hc
      refine mg_iconst (pc := 21) (v := 0) C dX12_glassLine_21 (by decide) ?_
      exact mg_retZ (pc := 22) C E (Or.inl rfl) dX12_glassLine_22 hF
def rm_shelfLine : Room := { frames := 4, cells := 0, slots := 0, locals := 89 }
theorem nd_shelfLine : yX12_shelfLine.cls = RX12 ∧ yX12_shelfLine.cls ≠ "java/lang/invoke/MethodHandle" ∧ yX12_shelfLine.cls ≠ "java/lang/invoke/VarHandle" ∧ (parseMethodDescriptor yX12_shelfLine.desc).map (fun d => d.parameters.length) = some 2 := by decide +kernel
theorem inm_shelfLine : ∀ w ∈ wsX120, w ∈ wsX12_shelfLine := fun _ h9 => List.mem_cons_of_mem _ (List.mem_append_right _ h9)
set_option maxHeartbeats 4000000 in
set_option maxRecDepth 100000 in
theorem met_shelfLine (x1 : Int64) (x3 : Int32) : mg_MI yX12_shelfLine wsX12_shelfLine rm_shelfLine (fun ad => [.ref (ad 0), .long x1, .int x3]) (fun Q h => wp_shelfLine Q x1 x3 h) := by
  refine mg_startI (cc := cX12_shelfLine) (maxL := 4) (by decide) rfl rfl (fun ad => Nat.le_of_ble_eq_true rfl) (fun X Q h C hnL E hw => ?_)
  unfold wp_shelfLine at hw
  refine mg_sub (lv2 := [(0, .ref (mg_ad X 0)), (1, .long x1), (3, .int x3)]) [0, 1, 2] rfl ?_
  have hF := hw
  refine mg_lload_n (pc := 0) C dX12_shelfLine_0 1 rfl ?_
  refine mg_ldc2 (pc := 1) (v := 444199957363) C dX12_shelfLine_1 (List.mem_of_getElem? (i := 1) rfl) ?_
  refine mg_lcmp (pc := 4) C dX12_shelfLine_4 ?_
  refine mg_if_ne (pc := 5) 14 C dX12_shelfLine_5 (by decide) (fun hc => ?_) (fun hc => ?_)
  · have hF := hF.1 hc
    refine mg_lload_n (pc := 14) C dX12_shelfLine_14 1 rfl ?_
    refine mg_ldc2 (pc := 15) (v := 482955846501) C dX12_shelfLine_15 (List.mem_of_getElem? (i := 2) rfl) ?_
    refine mg_lcmp (pc := 18) C dX12_shelfLine_18 ?_
    refine mg_if_eq (pc := 19) 27 C dX12_shelfLine_19 (by decide) (fun hc => ?_) (fun hc => ?_)
    · have hF := hF.1 hc
      refine mg_aload_n (pc := 27) C dX12_shelfLine_27 0 rfl ?_
      refine mg_cvV (pc := 28) C (fun ad => []) (met_token) gX12_shelfLine_X12_token rfl ⟨rfl, rfl⟩ nd_token ⟨Nat.le_of_ble_eq_true rfl, Nat.le_of_ble_eq_true rfl⟩ rfl rfl (Nat.le_of_ble_eq_true rfl) dX12_shelfLine_28 hF (fun h1 hF => ?_)
      refine mg_aload_n (pc := 31) C dX12_shelfLine_31 0 rfl ?_
      refine mg_iconst (pc := 32) (v := 0) C dX12_shelfLine_32 (by decide) ?_
      refine mg_iconst (pc := 33) (v := 0) C dX12_shelfLine_33 (by decide) ?_
      refine mg_iconst (pc := 34) (v := 3) C dX12_shelfLine_34 (by decide) ?_
      refine mg_cvI (pc := 35) C (fun ad => [.int 0, .int 0, .int 3]) (met_take 0 0 3) gX12_shelfLine_X12_take rfl ⟨rfl, rfl⟩ nd_take ⟨Nat.le_of_ble_eq_true rfl, Nat.le_of_ble_eq_true rfl⟩ rfl rfl (Nat.le_of_ble_eq_true rfl) dX12_shelfLine_35 hF (fun r3 h2 hF => ?_)
      refine mg_if_eq (pc := 38) 52 C dX12_shelfLine_38 (by decide) (fun hc => ?_) (fun hc => ?_)
      · have hF := hF.1 hc
        refine mg_iconst (pc := 52) (v := 0) C dX12_shelfLine_52 (by decide) ?_
        exact mg_retZ (pc := 53) C E (Or.inl rfl) dX12_shelfLine_53 hF
      · have hF := hF.2 hc
        refine mg_aload_n (pc := 41) C dX12_shelfLine_41 0 rfl ?_
        refine mg_iconst (pc := 42) (v := 1) C dX12_shelfLine_42 (by decide) ?_
        refine mg_iconst (pc := 43) (v := 0) C dX12_shelfLine_43 (by decide) ?_
        refine mg_bipush (pc := 44) (v := 9) C dX12_shelfLine_44 (by decide) ?_
        refine mg_cvI (pc := 46) C (fun ad => [.int 1, .int 0, .int 9]) (met_take 1 0 9) gX12_shelfLine_X12_take rfl ⟨rfl, rfl⟩ nd_take ⟨Nat.le_of_ble_eq_true rfl, Nat.le_of_ble_eq_true rfl⟩ rfl rfl (Nat.le_of_ble_eq_true rfl) dX12_shelfLine_46 hF (fun r5 h4 hF => ?_)
        refine mg_if_ne (pc := 49) 54 C dX12_shelfLine_49 (by decide) (fun hc => ?_) (fun hc => ?_)
        · have hF := hF.1 hc
          refine mg_aload_n (pc := 54) C dX12_shelfLine_54 0 rfl ?_
          refine mg_aload_n (pc := 55) C dX12_shelfLine_55 0 rfl ?_
          refine mg_geti (pc := 56) C inm_shelfLine 21 (by decide) rfl (by decide) dX12_shelfLine_56 (List.mem_of_getElem? (i := 3) rfl) ?_
          refine mg_aload_n (pc := 59) C dX12_shelfLine_59 0 rfl ?_
          refine mg_getr (pc := 60) C inm_shelfLine 20 (by decide) (by decide) dX12_shelfLine_60 (List.mem_of_getElem? (i := 4) rfl) ?_
          refine mg_iconst (pc := 63) (v := 0) C dX12_shelfLine_63 (by decide) ?_
          obtain ⟨hi, hF⟩ := hF
          refine mg_iald (pc := 64) C (by decide) rfl hi dX12_shelfLine_64 ?_
          refine mg_csI (pc := 65) C (fun ad => [.int (mg_i h4 0 21), .int (mg_i h4 20 (0 : Int32).toNatClampNeg)]) (met_greater (mg_i h4 0 21) (mg_i h4 20 (0 : Int32).toNatClampNeg)) gX12_shelfLine_X12_greater rfl ⟨rfl, rfl⟩ nd_greater.2 ⟨Nat.le_of_ble_eq_true rfl, Nat.le_of_ble_eq_true rfl⟩ rfl rfl (Nat.le_of_ble_eq_true rfl) dX12_shelfLine_65 hF (fun r7 h6 hF => ?_)
          refine mg_puti (pc := 68) C inm_shelfLine 21 (by decide) rfl (by decide) dX12_shelfLine_68 (List.mem_of_getElem? (i := 3) rfl) rfl (tyX12_ok 21 (by decide)) (fun h8 eh8 => ?_)
          have hF := hF h8 eh8
          refine mg_aload_n (pc := 71) C dX12_shelfLine_71 0 rfl ?_
          refine mg_geti (pc := 72) C inm_shelfLine 22 (by decide) rfl (by decide) dX12_shelfLine_72 (List.mem_of_getElem? (i := 5) rfl) ?_
          refine mg_if_eq (pc := 75) 98 C dX12_shelfLine_75 (by decide) (fun hc => ?_) (fun hc => ?_)
          · have hF := hF.1 hc
            refine mg_iconst (pc := 98) (v := 1) C dX12_shelfLine_98 (by decide) ?_
            exact mg_retZ (pc := 99) C E (Or.inr rfl) dX12_shelfLine_99 hF
          · have hF := hF.2 hc
            refine mg_aload_n (pc := 78) C dX12_shelfLine_78 0 rfl ?_
            refine mg_getr (pc := 79) C inm_shelfLine 19 (by decide) (by decide) dX12_shelfLine_79 (List.mem_of_getElem? (i := 6) rfl) ?_
            refine mg_bipush (pc := 82) (v := 9) C dX12_shelfLine_82 (by decide) ?_
            refine mg_aload_n (pc := 84) C dX12_shelfLine_84 0 rfl ?_
            refine mg_getr (pc := 85) C inm_shelfLine 20 (by decide) (by decide) dX12_shelfLine_85 (List.mem_of_getElem? (i := 4) rfl) ?_
            refine mg_iconst (pc := 88) (v := 0) C dX12_shelfLine_88 (by decide) ?_
            obtain ⟨hi, hF⟩ := hF
            refine mg_iald (pc := 89) C (by decide) rfl hi dX12_shelfLine_89 ?_
            refine mg_iadd (pc := 90) C dX12_shelfLine_90 ?_
            refine mg_aload_n (pc := 91) C dX12_shelfLine_91 0 rfl ?_
            refine mg_getr (pc := 92) C inm_shelfLine 20 (by decide) (by decide) dX12_shelfLine_92 (List.mem_of_getElem? (i := 4) rfl) ?_
            refine mg_iconst (pc := 95) (v := 1) C dX12_shelfLine_95 (by decide) ?_
            obtain ⟨hi, hF⟩ := hF
            refine mg_iald (pc := 96) C (by decide) rfl hi dX12_shelfLine_96 ?_
            obtain ⟨hi, hF⟩ := hF
            refine mg_iast (pc := 97) C (by decide) rfl hi dX12_shelfLine_97 (fun h9 eh9 => ?_)
            have hF := hF h9 eh9
            refine mg_iconst (pc := 98) (v := 1) C dX12_shelfLine_98 (by decide) ?_
            exact mg_retZ (pc := 99) C E (Or.inr rfl) dX12_shelfLine_99 hF
        · have hF := hF.2 hc
          refine mg_iconst (pc := 52) (v := 0) C dX12_shelfLine_52 (by decide) ?_
          exact mg_retZ (pc := 53) C E (Or.inl rfl) dX12_shelfLine_53 hF
    · have hF := hF.2 hc
      refine mg_aload_n (pc := 22) C dX12_shelfLine_22 0 rfl ?_
      refine mg_cvI (pc := 23) C (fun ad => []) (met_fails) gX12_shelfLine_X12_fails rfl ⟨rfl, rfl⟩ nd_fails ⟨Nat.le_of_ble_eq_true rfl, Nat.le_of_ble_eq_true rfl⟩ rfl rfl (Nat.le_of_ble_eq_true rfl) dX12_shelfLine_23 hF (fun r11 h10 hF => ?_)
      exact mg_retZ (pc := 26) C E hF.1 dX12_shelfLine_26 hF.2
  · have hF := hF.2 hc
    refine mg_aload_n (pc := 8) C dX12_shelfLine_8 0 rfl ?_
    refine mg_iload_n (pc := 9) C dX12_shelfLine_9 2 rfl ?_
    refine mg_cvI (pc := 10) C (fun ad => [.int x3]) (met_glassLine x3) gX12_shelfLine_X12_glassLine rfl ⟨rfl, rfl⟩ nd_glassLine ⟨Nat.le_of_ble_eq_true rfl, Nat.le_of_ble_eq_true rfl⟩ rfl rfl (Nat.le_of_ble_eq_true rfl) dX12_shelfLine_10 hF (fun r13 h12 hF => ?_)
    exact mg_retZ (pc := 13) C E hF.1 dX12_shelfLine_13 hF.2
def rm_deedBy : Room := { frames := 0, cells := 0, slots := 0, locals := 0 }
theorem nd_deedBy : yX12_deedBy.cls = RX12 ∧ yX12_deedBy.cls ≠ "java/lang/invoke/MethodHandle" ∧ yX12_deedBy.cls ≠ "java/lang/invoke/VarHandle" ∧ (parseMethodDescriptor yX12_deedBy.desc).map (fun d => d.parameters.length) = some 1 := by decide +kernel
set_option maxHeartbeats 4000000 in
set_option maxRecDepth 100000 in
theorem met_deedBy (x1 : Int64) : mg_MI yX12_deedBy wsX12_deedBy rm_deedBy (fun ad => [.ref (ad 0), .long x1]) (fun Q h => wp_deedBy Q x1 h) := by
  refine mg_startI (cc := cX12_deedBy) (maxL := 3) (by decide) rfl rfl (fun ad => Nat.le_of_ble_eq_true rfl) (fun X Q h C hnL E hw => ?_)
  unfold wp_deedBy at hw
  refine mg_sub (lv2 := [(0, .ref (mg_ad X 0)), (1, .long x1)]) [0, 1] rfl ?_
  have hF := hw
  refine mg_lload_n (pc := 0) C dX12_deedBy_0 1 rfl ?_
  refine mg_ldc2 (pc := 1) (v := 2002872692) C dX12_deedBy_1 (List.mem_of_getElem? (i := 1) rfl) ?_
  refine mg_lcmp (pc := 4) C dX12_deedBy_4 ?_
  refine mg_if_ne (pc := 5) 12 C dX12_deedBy_5 (by decide) (fun hc => ?_) (fun hc => ?_)
  · have hF := hF.1 hc
    refine mg_lload_n (pc := 12) C dX12_deedBy_12 1 rfl ?_
    refine mg_ldc2 (pc := 13) (v := 1953854062) C dX12_deedBy_13 (List.mem_of_getElem? (i := 2) rfl) ?_
    refine mg_lcmp (pc := 16) C dX12_deedBy_16 ?_
    refine mg_if_ne (pc := 17) 24 C dX12_deedBy_17 (by decide) (fun hc => ?_) (fun hc => ?_)
    · have hF := hF.1 hc
      refine mg_lload_n (pc := 24) C dX12_deedBy_24 1 rfl ?_
      refine mg_ldc2 (pc := 25) (v := 7102841) C dX12_deedBy_25 (List.mem_of_getElem? (i := 3) rfl) ?_
      refine mg_lcmp (pc := 28) C dX12_deedBy_28 ?_
      refine mg_if_ne (pc := 29) 36 C dX12_deedBy_29 (by decide) (fun hc => ?_) (fun hc => ?_)
      · have hF := hF.1 hc
        refine mg_lload_n (pc := 36) C dX12_deedBy_36 1 rfl ?_
        refine mg_ldc2 (pc := 37) (v := 495873781348) C dX12_deedBy_37 (List.mem_of_getElem? (i := 4) rfl) ?_
        refine mg_lcmp (pc := 40) C dX12_deedBy_40 ?_
        refine mg_if_ne (pc := 41) 48 C dX12_deedBy_41 (by decide) (fun hc => ?_) (fun hc => ?_)
        · have hF := hF.1 hc
          refine mg_lload_n (pc := 48) C dX12_deedBy_48 1 rfl ?_
          refine mg_ldc2 (pc := 49) (v := 1818583403) C dX12_deedBy_49 (List.mem_of_getElem? (i := 5) rfl) ?_
          refine mg_lcmp (pc := 52) C dX12_deedBy_52 ?_
          refine mg_if_ne (pc := 53) 60 C dX12_deedBy_53 (by decide) (fun hc => ?_) (fun hc => ?_)
          · have hF := hF.1 hc
            refine mg_iconst (pc := 60) (v := (-1)) C dX12_deedBy_60 (by decide) ?_
            exact mg_retI (pc := 61) C E dX12_deedBy_61 hF
          · have hF := hF.2 hc
            refine mg_iconst (pc := 56) (v := 4) C dX12_deedBy_56 (by decide) ?_
            refine mg_goto (pc := 57) 61 C dX12_deedBy_57 (by decide) ?_
            exact mg_retI (pc := 61) C E dX12_deedBy_61 hF
        · have hF := hF.2 hc
          refine mg_iconst (pc := 44) (v := 3) C dX12_deedBy_44 (by decide) ?_
          refine mg_goto (pc := 45) 61 C dX12_deedBy_45 (by decide) ?_
          exact mg_retI (pc := 61) C E dX12_deedBy_61 hF
      · have hF := hF.2 hc
        refine mg_iconst (pc := 32) (v := 2) C dX12_deedBy_32 (by decide) ?_
        refine mg_goto (pc := 33) 61 C dX12_deedBy_33 (by decide) ?_
        exact mg_retI (pc := 61) C E dX12_deedBy_61 hF
    · have hF := hF.2 hc
      refine mg_iconst (pc := 20) (v := 1) C dX12_deedBy_20 (by decide) ?_
      refine mg_goto (pc := 21) 61 C dX12_deedBy_21 (by decide) ?_
      exact mg_retI (pc := 61) C E dX12_deedBy_61 hF
  · have hF := hF.2 hc
    refine mg_iconst (pc := 8) (v := 0) C dX12_deedBy_8 (by decide) ?_
    refine mg_goto (pc := 9) 61 C dX12_deedBy_9 (by decide) ?_
    exact mg_retI (pc := 61) C E dX12_deedBy_61 hF
def rm_keepTwo : Room := { frames := 1, cells := 0, slots := 0, locals := 21 }
theorem nd_keepTwo : yX12_keepTwo.cls = RX12 ∧ yX12_keepTwo.cls ≠ "java/lang/invoke/MethodHandle" ∧ yX12_keepTwo.cls ≠ "java/lang/invoke/VarHandle" ∧ (parseMethodDescriptor yX12_keepTwo.desc).map (fun d => d.parameters.length) = some 3 := by decide +kernel
theorem inm_keepTwo : ∀ w ∈ wsX120, w ∈ wsX12_keepTwo := fun _ h9 => List.mem_cons_of_mem _ (List.mem_append_right _ h9)
set_option maxHeartbeats 4000000 in
set_option maxRecDepth 100000 in
theorem met_keepTwo (x1 : Int32) (x2 : Int32) (x3 : Int32) : mg_MV yX12_keepTwo wsX12_keepTwo rm_keepTwo (fun ad => [.ref (ad 0), .int x1, .int x2, .int x3]) (fun Q h => wp_keepTwo Q x1 x2 x3 h) := by
  refine mg_startV (cc := cX12_keepTwo) (maxL := 5) (by decide) rfl rfl (fun ad => Nat.le_of_ble_eq_true rfl) (fun X Q h C hnL E hw => ?_)
  unfold wp_keepTwo at hw
  refine mg_sub (lv2 := [(0, .ref (mg_ad X 0)), (1, .int x1), (2, .int x2), (3, .int x3)]) [0, 1, 2, 3] rfl ?_
  refine mg_use (hw (fun (y4 : Int32) (h : mg_H) => mg_W X 38 [(0, .ref (mg_ad X 0)), (1, .int x1), (4, .int y4)] [] h) ?_) (fun hF => ?_)
  · intro y4 h hF
    refine mg_aload_n (pc := 38) C dX12_keepTwo_38 0 rfl ?_
    refine mg_getr (pc := 39) C inm_keepTwo 19 (by decide) (by decide) dX12_keepTwo_39 (List.mem_of_getElem? (i := 1) rfl) ?_
    refine mg_iconst (pc := 42) (v := 0) C dX12_keepTwo_42 (by decide) ?_
    refine mg_iload_n (pc := 43) C dX12_keepTwo_43 1 rfl ?_
    refine mg_iload (pc := 44) C dX12_keepTwo_44 2 rfl ?_
    refine mg_iconst (pc := 46) (v := 1) C dX12_keepTwo_46 (by decide) ?_
    refine mg_iadd (pc := 47) C dX12_keepTwo_47 ?_
    refine mg_csI (pc := 48) C (fun ad => [.int x1, .int (y4 + 1)]) (met_lesser x1 (y4 + 1)) gX12_keepTwo_X12_lesser rfl ⟨rfl, rfl⟩ nd_lesser.2 ⟨Nat.le_of_ble_eq_true rfl, Nat.le_of_ble_eq_true rfl⟩ rfl rfl (Nat.le_of_ble_eq_true rfl) dX12_keepTwo_48 hF (fun r5 h4 hF => ?_)
    obtain ⟨hi, hF⟩ := hF
    refine mg_iast (pc := 51) C (by decide) rfl hi dX12_keepTwo_51 (fun h6 eh6 => ?_)
    have hF := hF h6 eh6
    exact mg_retV (pc := 52) C E dX12_keepTwo_52 hF
  · skip
    refine mg_aload_n (pc := 0) C dX12_keepTwo_0 0 rfl ?_
    refine mg_getr (pc := 1) C inm_keepTwo 19 (by decide) (by decide) dX12_keepTwo_1 (List.mem_of_getElem? (i := 1) rfl) ?_
    refine mg_iconst (pc := 4) (v := 0) C dX12_keepTwo_4 (by decide) ?_
    obtain ⟨hi, hF⟩ := hF
    refine mg_iald (pc := 5) C (by decide) rfl hi dX12_keepTwo_5 ?_
    refine mg_topi (pc := 6) (fun z1 ez1 => ?_)
    have hF := hF z1 ez1
    refine mg_istore (pc := 6) (lv2 := [(4, .int z1), (0, .ref (mg_ad X 0)), (1, .int x1), (2, .int x2), (3, .int x3)]) C dX12_keepTwo_6 5 hnL (by decide) rfl ?_
    refine mg_iload (pc := 8) C dX12_keepTwo_8 0 rfl ?_
    refine mg_iload_n (pc := 10) C dX12_keepTwo_10 2 rfl ?_
    refine mg_icmp_ge (pc := 11) 38 C dX12_keepTwo_11 (by decide) (fun hc => ?_) (fun hc => ?_)
    · have hF := hF.1 hc
      refine mg_sub (lv2 := [(0, .ref (mg_ad X 0)), (1, .int x1), (4, .int z1)]) [1, 2, 0] rfl ?_
      exact hF
    · have hF := hF.2 hc
      refine mg_aload_n (pc := 14) C dX12_keepTwo_14 1 rfl ?_
      refine mg_getr (pc := 15) C inm_keepTwo 19 (by decide) (by decide) dX12_keepTwo_15 (List.mem_of_getElem? (i := 1) rfl) ?_
      refine mg_iconst (pc := 18) (v := 1) C dX12_keepTwo_18 (by decide) ?_
      refine mg_iconst (pc := 19) (v := 2) C dX12_keepTwo_19 (by decide) ?_
      refine mg_iload (pc := 20) C dX12_keepTwo_20 0 rfl ?_
      refine mg_imul (pc := 22) C dX12_keepTwo_22 ?_
      refine mg_iadd (pc := 23) C dX12_keepTwo_23 ?_
      refine mg_iload_n (pc := 24) C dX12_keepTwo_24 3 rfl ?_
      obtain ⟨hi, hF⟩ := hF
      refine mg_iast (pc := 25) C (by decide) rfl hi dX12_keepTwo_25 (fun h2 eh2 => ?_)
      have hF := hF h2 eh2
      refine mg_aload_n (pc := 26) C dX12_keepTwo_26 1 rfl ?_
      refine mg_getr (pc := 27) C inm_keepTwo 19 (by decide) (by decide) dX12_keepTwo_27 (List.mem_of_getElem? (i := 1) rfl) ?_
      refine mg_iconst (pc := 30) (v := 2) C dX12_keepTwo_30 (by decide) ?_
      refine mg_iconst (pc := 31) (v := 2) C dX12_keepTwo_31 (by decide) ?_
      refine mg_iload (pc := 32) C dX12_keepTwo_32 0 rfl ?_
      refine mg_imul (pc := 34) C dX12_keepTwo_34 ?_
      refine mg_iadd (pc := 35) C dX12_keepTwo_35 ?_
      refine mg_iload_n (pc := 36) C dX12_keepTwo_36 4 rfl ?_
      obtain ⟨hi, hF⟩ := hF
      refine mg_iast (pc := 37) C (by decide) rfl hi dX12_keepTwo_37 (fun h3 eh3 => ?_)
      have hF := hF h3 eh3
      refine mg_sub (lv2 := [(0, .ref (mg_ad X 0)), (1, .int x1), (4, .int z1)]) [1, 2, 0] rfl ?_
      exact hF
def rm_dayLine : Room := { frames := 3, cells := 0, slots := 0, locals := 67 }
theorem nd_dayLine : yX12_dayLine.cls = RX12 ∧ yX12_dayLine.cls ≠ "java/lang/invoke/MethodHandle" ∧ yX12_dayLine.cls ≠ "java/lang/invoke/VarHandle" ∧ (parseMethodDescriptor yX12_dayLine.desc).map (fun d => d.parameters.length) = some 2 := by decide +kernel
theorem inm_dayLine : ∀ w ∈ wsX120, w ∈ wsX12_dayLine := fun _ h9 => List.mem_cons_of_mem _ (List.mem_append_right _ h9)
set_option maxHeartbeats 4000000 in
set_option maxRecDepth 100000 in
theorem met_dayLine (x1 : Int64) (x3 : Int32) : mg_MI yX12_dayLine wsX12_dayLine rm_dayLine (fun ad => [.ref (ad 0), .long x1, .int x3]) (fun Q h => wp_dayLine Q x1 x3 h) := by
  refine mg_startI (cc := cX12_dayLine) (maxL := 5) (by decide) rfl rfl (fun ad => Nat.le_of_ble_eq_true rfl) (fun X Q h C hnL E hw => ?_)
  unfold wp_dayLine at hw
  refine mg_sub (lv2 := [(0, .ref (mg_ad X 0)), (1, .long x1), (3, .int x3)]) [0, 1, 2] rfl ?_
  refine mg_use (hw (fun (y4 : Int32) (s0 : Int32) (s1 : Int32) (h : mg_H) => mg_W X 41 [(0, .ref (mg_ad X 0)), (4, .int y4)] [.int s0, .int s1, .ref (mg_ad X 0)] h) (fun (y4 : Int32) (s0 : Int32) (s1 : Int32) (s2 : Int32) (h : mg_H) => mg_W X 52 [(0, .ref (mg_ad X 0)), (4, .int y4)] [.int s0, .int s1, .int s2, .ref (mg_ad X 0)] h) ?_ ?_) (fun hF => ?_)
  · intro y4 s0 s1 h hF
    refine mg_iload (pc := 41) C dX12_dayLine_41 1 rfl ?_
    refine mg_if_ne (pc := 43) 51 C dX12_dayLine_43 (by decide) (fun hc => ?_) (fun hc => ?_)
    · have hF := hF.1 hc
      refine mg_iconst (pc := 51) (v := 3) C dX12_dayLine_51 (by decide) ?_
      exact hF
    · have hF := hF.2 hc
      refine mg_bipush (pc := 46) (v := 9) C dX12_dayLine_46 (by decide) ?_
      refine mg_goto (pc := 48) 52 C dX12_dayLine_48 (by decide) ?_
      exact hF
  · intro y4 s0 s1 s2 h hF
    refine mg_cvI (pc := 52) C (fun ad => [.int s2, .int s1, .int s0]) (met_take s2 s1 s0) gX12_dayLine_X12_take rfl ⟨rfl, rfl⟩ nd_take ⟨Nat.le_of_ble_eq_true rfl, Nat.le_of_ble_eq_true rfl⟩ rfl rfl (Nat.le_of_ble_eq_true rfl) dX12_dayLine_52 hF (fun r8 h7 hF => ?_)
    refine mg_if_ne (pc := 55) 60 C dX12_dayLine_55 (by decide) (fun hc => ?_) (fun hc => ?_)
    · have hF := hF.1 hc
      refine mg_aload_n (pc := 60) C dX12_dayLine_60 0 rfl ?_
      refine mg_bipush (pc := 61) (v := 40) C dX12_dayLine_61 (by decide) ?_
      refine mg_iload (pc := 63) C dX12_dayLine_63 1 rfl ?_
      refine mg_aload_n (pc := 65) C dX12_dayLine_65 0 rfl ?_
      refine mg_getr (pc := 66) C inm_dayLine 20 (by decide) (by decide) dX12_dayLine_66 (List.mem_of_getElem? (i := 1) rfl) ?_
      refine mg_iconst (pc := 69) (v := 0) C dX12_dayLine_69 (by decide) ?_
      obtain ⟨hi, hF⟩ := hF
      refine mg_iald (pc := 70) C (by decide) rfl hi dX12_dayLine_70 ?_
      refine mg_cvV (pc := 71) C (fun ad => [.int 40, .int y4, .int (mg_i h7 20 (0 : Int32).toNatClampNeg)]) (met_keepTwo 40 y4 (mg_i h7 20 (0 : Int32).toNatClampNeg)) gX12_dayLine_X12_keepTwo rfl ⟨rfl, rfl⟩ nd_keepTwo ⟨Nat.le_of_ble_eq_true rfl, Nat.le_of_ble_eq_true rfl⟩ rfl rfl (Nat.le_of_ble_eq_true rfl) dX12_dayLine_71 hF (fun h9 hF => ?_)
      refine mg_iconst (pc := 74) (v := 1) C dX12_dayLine_74 (by decide) ?_
      exact mg_retZ (pc := 75) C E (Or.inr rfl) dX12_dayLine_75 hF
    · have hF := hF.2 hc
      refine mg_iconst (pc := 58) (v := 0) C dX12_dayLine_58 (by decide) ?_
      exact mg_retZ (pc := 59) C E (Or.inl rfl) dX12_dayLine_59 hF
  · skip
    refine mg_aload_n (pc := 0) C dX12_dayLine_0 0 rfl ?_
    refine mg_lload_n (pc := 1) C dX12_dayLine_1 1 rfl ?_
    refine mg_cvI (pc := 2) C (fun ad => [.long x1]) (met_deedBy x1) gX12_dayLine_X12_deedBy rfl ⟨rfl, rfl⟩ nd_deedBy ⟨Nat.le_of_ble_eq_true rfl, Nat.le_of_ble_eq_true rfl⟩ rfl rfl (Nat.le_of_ble_eq_true rfl) dX12_dayLine_2 hF (fun r2 h1 hF => ?_)
    refine mg_istore (pc := 5) (lv2 := [(4, .int r2), (0, .ref (mg_ad X 0)), (1, .long x1), (3, .int x3)]) C dX12_dayLine_5 5 hnL (by decide) rfl ?_
    refine mg_iload (pc := 7) C dX12_dayLine_7 0 rfl ?_
    refine mg_iconst (pc := 9) (v := (-1)) C dX12_dayLine_9 (by decide) ?_
    refine mg_icmp_ne (pc := 10) 18 C dX12_dayLine_10 (by decide) (fun hc => ?_) (fun hc => ?_)
    · have hF := hF.1 hc
      refine mg_aload_n (pc := 18) C dX12_dayLine_18 1 rfl ?_
      refine mg_bipush (pc := 19) (v := 40) C dX12_dayLine_19 (by decide) ?_
      refine mg_iload_n (pc := 21) C dX12_dayLine_21 3 rfl ?_
      refine mg_cvV (pc := 22) C (fun ad => [.int 40, .int x3]) (met_full 40 x3) gX12_dayLine_X12_full rfl ⟨rfl, rfl⟩ nd_full ⟨Nat.le_of_ble_eq_true rfl, Nat.le_of_ble_eq_true rfl⟩ rfl rfl (Nat.le_of_ble_eq_true rfl) dX12_dayLine_22 hF (fun h3 hF => ?_)
      refine mg_aload_n (pc := 25) C dX12_dayLine_25 1 rfl ?_
      refine mg_cvV (pc := 26) C (fun ad => []) (met_token) gX12_dayLine_X12_token rfl ⟨rfl, rfl⟩ nd_token ⟨Nat.le_of_ble_eq_true rfl, Nat.le_of_ble_eq_true rfl⟩ rfl rfl (Nat.le_of_ble_eq_true rfl) dX12_dayLine_26 hF (fun h4 hF => ?_)
      refine mg_aload_n (pc := 29) C dX12_dayLine_29 1 rfl ?_
      refine mg_iconst (pc := 30) (v := 0) C dX12_dayLine_30 (by decide) ?_
      refine mg_iload (pc := 31) C dX12_dayLine_31 0 rfl ?_
      refine mg_if_ne (pc := 33) 40 C dX12_dayLine_33 (by decide) (fun hc => ?_) (fun hc => ?_)
      · have hF := hF.1 hc
        refine mg_iconst (pc := 40) (v := 0) C dX12_dayLine_40 (by decide) ?_
        refine mg_sub (lv2 := [(0, .ref (mg_ad X 0)), (4, .int r2)]) [1, 0] rfl ?_
        exact hF
      · have hF := hF.2 hc
        refine mg_iconst (pc := 36) (v := 1) C dX12_dayLine_36 (by decide) ?_
        refine mg_goto (pc := 37) 41 C dX12_dayLine_37 (by decide) ?_
        refine mg_sub (lv2 := [(0, .ref (mg_ad X 0)), (4, .int r2)]) [1, 0] rfl ?_
        exact hF
    · have hF := hF.2 hc
      refine mg_aload_n (pc := 13) C dX12_dayLine_13 1 rfl ?_
      refine mg_cvI (pc := 14) C (fun ad => []) (met_fails) gX12_dayLine_X12_fails rfl ⟨rfl, rfl⟩ nd_fails ⟨Nat.le_of_ble_eq_true rfl, Nat.le_of_ble_eq_true rfl⟩ rfl rfl (Nat.le_of_ble_eq_true rfl) dX12_dayLine_14 hF (fun r6 h5 hF => ?_)
      exact mg_retZ (pc := 17) C E hF.1 dX12_dayLine_17 hF.2
def rm_logLine : Room := { frames := 3, cells := 0, slots := 0, locals := 67 }
theorem nd_logLine : yX12_logLine.cls = RX12 ∧ yX12_logLine.cls ≠ "java/lang/invoke/MethodHandle" ∧ yX12_logLine.cls ≠ "java/lang/invoke/VarHandle" ∧ (parseMethodDescriptor yX12_logLine.desc).map (fun d => d.parameters.length) = some 2 := by decide +kernel
theorem inm_logLine : ∀ w ∈ wsX120, w ∈ wsX12_logLine := fun _ h9 => List.mem_cons_of_mem _ (List.mem_append_right _ h9)
set_option maxHeartbeats 4000000 in
set_option maxRecDepth 100000 in
theorem met_logLine (x1 : Int64) (x3 : Int32) : mg_MI yX12_logLine wsX12_logLine rm_logLine (fun ad => [.ref (ad 0), .long x1, .int x3]) (fun Q h => wp_logLine Q x1 x3 h) := by
  refine mg_startI (cc := cX12_logLine) (maxL := 4) (by decide) rfl rfl (fun ad => Nat.le_of_ble_eq_true rfl) (fun X Q h C hnL E hw => ?_)
  unfold wp_logLine at hw
  refine mg_sub (lv2 := [(0, .ref (mg_ad X 0)), (1, .long x1), (3, .int x3)]) [0, 1, 2] rfl ?_
  refine mg_use (hw (fun (h : mg_H) => mg_W X 21 [(0, .ref (mg_ad X 0)), (1, .long x1), (3, .int x3)] [] h) (fun (h : mg_H) => mg_W X 57 [(0, .ref (mg_ad X 0))] [] h) ?_ ?_) (fun hF => ?_)
  · intro h hF
    refine mg_aload_n (pc := 21) C dX12_logLine_21 0 rfl ?_
    refine mg_bipush (pc := 22) (v := 8) C dX12_logLine_22 (by decide) ?_
    refine mg_iload_n (pc := 24) C dX12_logLine_24 2 rfl ?_
    refine mg_cvV (pc := 25) C (fun ad => [.int 8, .int x3]) (met_full 8 x3) gX12_logLine_X12_full rfl ⟨rfl, rfl⟩ nd_full ⟨Nat.le_of_ble_eq_true rfl, Nat.le_of_ble_eq_true rfl⟩ rfl rfl (Nat.le_of_ble_eq_true rfl) dX12_logLine_25 hF (fun h3 hF => ?_)
    refine mg_aload_n (pc := 28) C dX12_logLine_28 0 rfl ?_
    refine mg_cvV (pc := 29) C (fun ad => []) (met_token) gX12_logLine_X12_token rfl ⟨rfl, rfl⟩ nd_token ⟨Nat.le_of_ble_eq_true rfl, Nat.le_of_ble_eq_true rfl⟩ rfl rfl (Nat.le_of_ble_eq_true rfl) dX12_logLine_29 hF (fun h4 hF => ?_)
    refine mg_aload_n (pc := 32) C dX12_logLine_32 0 rfl ?_
    refine mg_getr (pc := 33) C inm_logLine 20 (by decide) (by decide) dX12_logLine_33 (List.mem_of_getElem? (i := 3) rfl) ?_
    refine mg_iconst (pc := 36) (v := 0) C dX12_logLine_36 (by decide) ?_
    refine mg_iconst (pc := 37) (v := (-1)) C dX12_logLine_37 (by decide) ?_
    obtain ⟨hi, hF⟩ := hF
    refine mg_iast (pc := 38) C (by decide) rfl hi dX12_logLine_38 (fun h5 eh5 => ?_)
    have hF := hF h5 eh5
    refine mg_lload_n (pc := 39) C dX12_logLine_39 1 rfl ?_
    refine mg_ldc2 (pc := 40) (v := 7496046) C dX12_logLine_40 (List.mem_of_getElem? (i := 1) rfl) ?_
    refine mg_lcmp (pc := 43) C dX12_logLine_43 ?_
    refine mg_if_ne (pc := 44) 57 C dX12_logLine_44 (by decide) (fun hc => ?_) (fun hc => ?_)
    · have hF := hF.1 hc
      refine mg_sub (lv2 := [(0, .ref (mg_ad X 0))]) [0] rfl ?_
      exact hF
    · have hF := hF.2 hc
      refine mg_aload_n (pc := 47) C dX12_logLine_47 0 rfl ?_
      refine mg_iconst (pc := 48) (v := 0) C dX12_logLine_48 (by decide) ?_
      refine mg_iconst (pc := 49) (v := 0) C dX12_logLine_49 (by decide) ?_
      refine mg_iconst (pc := 50) (v := 3) C dX12_logLine_50 (by decide) ?_
      refine mg_cvI (pc := 51) C (fun ad => [.int 0, .int 0, .int 3]) (met_take 0 0 3) gX12_logLine_X12_take rfl ⟨rfl, rfl⟩ nd_take ⟨Nat.le_of_ble_eq_true rfl, Nat.le_of_ble_eq_true rfl⟩ rfl rfl (Nat.le_of_ble_eq_true rfl) dX12_logLine_51 hF (fun r7 h6 hF => ?_)
      refine mg_if_eq (pc := 54) 68 C dX12_logLine_54 (by decide) (fun hc => ?_) (fun hc => ?_)
      · have hF := hF.1 hc
        refine mg_iconst (pc := 68) (v := 0) C dX12_logLine_68 (by decide) ?_
        exact mg_retZ (pc := 69) C E (Or.inl rfl) dX12_logLine_69 hF
      · have hF := hF.2 hc
        refine mg_sub (lv2 := [(0, .ref (mg_ad X 0))]) [0] rfl ?_
        exact hF
  · intro h hF
    refine mg_aload_n (pc := 57) C dX12_logLine_57 0 rfl ?_
    refine mg_iconst (pc := 58) (v := 1) C dX12_logLine_58 (by decide) ?_
    refine mg_iconst (pc := 59) (v := 1) C dX12_logLine_59 (by decide) ?_
    refine mg_bipush (pc := 60) (v := 40) C dX12_logLine_60 (by decide) ?_
    refine mg_cvI (pc := 62) C (fun ad => [.int 1, .int 1, .int 40]) (met_take 1 1 40) gX12_logLine_X12_take rfl ⟨rfl, rfl⟩ nd_take ⟨Nat.le_of_ble_eq_true rfl, Nat.le_of_ble_eq_true rfl⟩ rfl rfl (Nat.le_of_ble_eq_true rfl) dX12_logLine_62 hF (fun r9 h8 hF => ?_)
    refine mg_if_ne (pc := 65) 70 C dX12_logLine_65 (by decide) (fun hc => ?_) (fun hc => ?_)
    · have hF := hF.1 hc
      refine mg_aload_n (pc := 70) C dX12_logLine_70 0 rfl ?_
      refine mg_bipush (pc := 71) (v := 8) C dX12_logLine_71 (by decide) ?_
      refine mg_aload_n (pc := 73) C dX12_logLine_73 0 rfl ?_
      refine mg_getr (pc := 74) C inm_logLine 20 (by decide) (by decide) dX12_logLine_74 (List.mem_of_getElem? (i := 3) rfl) ?_
      refine mg_iconst (pc := 77) (v := 1) C dX12_logLine_77 (by decide) ?_
      obtain ⟨hi, hF⟩ := hF
      refine mg_iald (pc := 78) C (by decide) rfl hi dX12_logLine_78 ?_
      refine mg_aload_n (pc := 79) C dX12_logLine_79 0 rfl ?_
      refine mg_getr (pc := 80) C inm_logLine 20 (by decide) (by decide) dX12_logLine_80 (List.mem_of_getElem? (i := 3) rfl) ?_
      refine mg_iconst (pc := 83) (v := 0) C dX12_logLine_83 (by decide) ?_
      obtain ⟨hi, hF⟩ := hF
      refine mg_iald (pc := 84) C (by decide) rfl hi dX12_logLine_84 ?_
      refine mg_cvV (pc := 85) C (fun ad => [.int 8, .int (mg_i h8 20 (1 : Int32).toNatClampNeg), .int (mg_i h8 20 (0 : Int32).toNatClampNeg)]) (met_keepTwo 8 (mg_i h8 20 (1 : Int32).toNatClampNeg) (mg_i h8 20 (0 : Int32).toNatClampNeg)) gX12_logLine_X12_keepTwo rfl ⟨rfl, rfl⟩ nd_keepTwo ⟨Nat.le_of_ble_eq_true rfl, Nat.le_of_ble_eq_true rfl⟩ rfl rfl (Nat.le_of_ble_eq_true rfl) dX12_logLine_85 hF (fun h10 hF => ?_)
      refine mg_iconst (pc := 88) (v := 1) C dX12_logLine_88 (by decide) ?_
      exact mg_retZ (pc := 89) C E (Or.inr rfl) dX12_logLine_89 hF
    · have hF := hF.2 hc
      refine mg_iconst (pc := 68) (v := 0) C dX12_logLine_68 (by decide) ?_
      exact mg_retZ (pc := 69) C E (Or.inl rfl) dX12_logLine_69 hF
  · skip
    refine mg_lload_n (pc := 0) C dX12_logLine_0 1 rfl ?_
    refine mg_ldc2 (pc := 1) (v := 7496046) C dX12_logLine_1 (List.mem_of_getElem? (i := 1) rfl) ?_
    refine mg_lcmp (pc := 4) C dX12_logLine_4 ?_
    refine mg_if_eq (pc := 5) 21 C dX12_logLine_5 (by decide) (fun hc => ?_) (fun hc => ?_)
    · have hF := hF.1 hc
      exact hF
    · have hF := hF.2 hc
      refine mg_lload_n (pc := 8) C dX12_logLine_8 1 rfl ?_
      refine mg_ldc2 (pc := 9) (v := 487301145972) C dX12_logLine_9 (List.mem_of_getElem? (i := 2) rfl) ?_
      refine mg_lcmp (pc := 12) C dX12_logLine_12 ?_
      refine mg_if_eq (pc := 13) 21 C dX12_logLine_13 (by decide) (fun hc => ?_) (fun hc => ?_)
      · have hF := hF.1 hc
        exact hF
      · have hF := hF.2 hc
        refine mg_aload_n (pc := 16) C dX12_logLine_16 0 rfl ?_
        refine mg_cvI (pc := 17) C (fun ad => []) (met_fails) gX12_logLine_X12_fails rfl ⟨rfl, rfl⟩ nd_fails ⟨Nat.le_of_ble_eq_true rfl, Nat.le_of_ble_eq_true rfl⟩ rfl rfl (Nat.le_of_ble_eq_true rfl) dX12_logLine_17 hF (fun r2 h1 hF => ?_)
        exact mg_retZ (pc := 20) C E hF.1 dX12_logLine_20 hF.2
