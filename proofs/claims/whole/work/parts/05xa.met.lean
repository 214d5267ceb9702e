theorem xg_cat_i (x : Int32) : (Value.int x).category = 1 := rfl
theorem xg_cat_l (x : Int64) : (Value.long x).category = 2 := rfl
theorem xg_cat_a (x : Nat) : (Value.ref x).category = 1 := rfl
theorem xg_topr {X : xg_X} {k0 n0 : Nat} {Y : xg_Y} {pc : Nat} {lv : List (Nat × Value)} {st : List Value} {h : xg_H} {x : Option Nat} (kk : ∀ y : Option Nat, y = x → xg_W X k0 n0 Y pc lv (va_rf y :: st) h) : xg_W X k0 n0 Y pc lv (va_rf x :: st) h := kk x rfl
theorem xg_look {X : xg_X} {k0 n0 : Nat} {Y : xg_Y} {own : String} {cc : ByteArray} {Ts : List Cond} {rm : Room} {pc : Nat} {lv : List (Nat × Value)} {st : List Value} {h : xg_H} {dflt : Int} {ps : Array (Int × Int)} {len : Nat} {x : Int32} {off : Int} (tgt : Nat) (C : xg_ok X cc own Ts rm) (hd : decode cc pc = .ok (.lookupswitch dflt ps, len)) (hp : (ps.toList.zip (ps.toList.drop 1)).all (fun (a, next) => a.1 < next.1) = true) (ho : Op.lookupswitch.offset ps.toList dflt x.toInt = off) (ht : (pc : Int) + off = (tgt : Int)) (kk : xg_W X k0 n0 Y tgt lv st h) : xg_W X k0 n0 Y pc lv (.int x :: st) h := by
  obtain ⟨p, l, e, R, s, m, args, below, meth, c, Q, D, cA, zs, A, nL⟩ := X
  obtain ⟨hx, hb, hml, hown, hts, hA, hlk, hR, hSt, hNw⟩ := C
  intro H locs ls hK hP hD hS hl
  exact lv_lookup hx hb hd hp ho ht (kk H locs ls hK hP hD hS hl)
theorem xg_lkd {x a b : Int32} {d o1 o2 : Int} (h1 : ¬ x = a) (h2 : ¬ x = b) : Op.lookupswitch.offset [(a.toInt, o1), (b.toInt, o2)] d x.toInt = d := by
  have e1 : ¬ x.toInt = a.toInt := fun h => h1 (Int32.toInt_inj.mp h)
  have e2 : ¬ x.toInt = b.toInt := fun h => h2 (Int32.toInt_inj.mp h)
  simp [Op.lookupswitch.offset, e1, e2, Ne.symm e1, Ne.symm e2, eq_comm]
def rm_J0_isLatin1_aae02 : Room := { frames := 0, cells := 0, slots := 0, locals := 0 }
theorem nd_J0_isLatin1_aae02 : yJ0_isLatin1_aae02.cls = RJ0 ∧ yJ0_isLatin1_aae02.cls ≠ "java/lang/invoke/MethodHandle" ∧ yJ0_isLatin1_aae02.cls ≠ "java/lang/invoke/VarHandle" ∧ (parseMethodDescriptor yJ0_isLatin1_aae02.desc).map (fun d => d.parameters.length) = some 0 := by decide +kernel
set_option maxHeartbeats 4000000 in
set_option maxRecDepth 100000 in
theorem met_J0_isLatin1_aae02 (Y : xg_Y) (this : Nat) : xg_MI yJ0_isLatin1_aae02 wsJ0_isLatin1_aae02 rm_J0_isLatin1_aae02 Y (fun zs => [va_rf (some (zs (10 + this)))]) (fun Q h => wp_J0_isLatin1_aae02 Y Q this h) := by
  refine xg_startI (cc := cJ0_isLatin1_aae02) (maxL := 1) (own := RJ0) (by decide) rfl rfl (fun zs => Nat.le_of_ble_eq_true rfl) (fun X Q h C hnL E hw => ?_)
  unfold wp_J0_isLatin1_aae02 at hw
  obtain ⟨hTthis, hw⟩ := hw
  refine xg_sub (lv2 := [(0, va_rf (some (xg_zs X (10 + this))))]) [0] rfl ?_
  have hF := hw
  refine xg_getz (pc := 0) C (List.mem_of_getElem? (i := 1) rfl) dJ0_isLatin1_aae02_0 ?_
  refine xg_if_eq (pc := 3) 17 C dJ0_isLatin1_aae02_3 (by decide) (fun hc => ?_) (fun hc => ?_)
  · have hF := hF.1 hc
    refine xg_iconst (pc := 17) (v := 0) C dJ0_isLatin1_aae02_17 (by decide) ?_
    exact xg_retZ (pc := 18) C E (Or.inl rfl) dJ0_isLatin1_aae02_18 hF
  · have hF := hF.2 hc
    refine xg_aload_n (pc := 6) C dJ0_isLatin1_aae02_6 0 rfl ?_
    refine xg_strc (pc := 7) C this hTthis (List.mem_of_getElem? (i := 2) rfl) dJ0_isLatin1_aae02_7 ?_
    refine xg_if_ne (pc := 10) 17 C dJ0_isLatin1_aae02_10 (by decide) (fun hc => ?_) (fun hc => ?_)
    · have hF := hF.1 hc
      refine xg_iconst (pc := 17) (v := 0) C dJ0_isLatin1_aae02_17 (by decide) ?_
      exact xg_retZ (pc := 18) C E (Or.inl rfl) dJ0_isLatin1_aae02_18 hF
    · have hF := hF.2 hc
      refine xg_iconst (pc := 13) (v := 1) C dJ0_isLatin1_aae02_13 (by decide) ?_
      refine xg_goto (pc := 14) 18 C dJ0_isLatin1_aae02_14 (by decide) ?_
      exact xg_retZ (pc := 18) C E (Or.inr rfl) dJ0_isLatin1_aae02_18 hF
def rm_J3_checkIndex_8e157 : Room := { frames := 0, cells := 0, slots := 0, locals := 0 }
theorem nd_J3_checkIndex_8e157 : yJ3_checkIndex_8e157.cls = RJ3 ∧ yJ3_checkIndex_8e157.cls ≠ "java/lang/invoke/MethodHandle" ∧ yJ3_checkIndex_8e157.cls ≠ "java/lang/invoke/VarHandle" ∧ (parseMethodDescriptor yJ3_checkIndex_8e157.desc).map (fun d => d.parameters.length) = some 3 := by decide +kernel
set_option maxHeartbeats 4000000 in
set_option maxRecDepth 100000 in
theorem met_J3_checkIndex_8e157 (Y : xg_Y) (x0 : Int32) (x1 : Int32) (x2 : Option Nat) : xg_MI yJ3_checkIndex_8e157 wsJ3_checkIndex_8e157 rm_J3_checkIndex_8e157 Y (fun zs => [.int x0, .int x1, va_rf x2]) (fun Q h => wp_J3_checkIndex_8e157 Y Q x0 x1 x2 h) := by
  refine xg_startI (cc := cJ3_checkIndex_8e157) (maxL := 3) (own := RJ3) (by decide) rfl rfl (fun zs => by cases x2 <;> exact Nat.le_of_ble_eq_true rfl) (fun X Q h C hnL E hw => ?_)
  unfold wp_J3_checkIndex_8e157 at hw
  refine xg_sub (lv2 := [(0, .int x0), (1, .int x1), (2, va_rf x2)]) [0, 1, 2] (by cases x2 <;> rfl) ?_
  refine mg_use (hw (fun (h : xg_H) => xg_W X 0 0 Y 9 [(0, .int x0), (1, .int x1), (2, va_rf x2)] [] h) ?_) (fun hF => ?_)
  · intro h hF
    refine xg_aload_n (pc := 9) C dJ3_checkIndex_8e157_9 2 rfl ?_
    refine xg_iload_n (pc := 10) C dJ3_checkIndex_8e157_10 0 rfl ?_
    refine xg_iload_n (pc := 11) C dJ3_checkIndex_8e157_11 1 rfl ?_
    exact hF.elim
  · skip
    refine xg_iload_n (pc := 0) C dJ3_checkIndex_8e157_0 0 rfl ?_
    refine xg_if_lt (pc := 1) 9 C dJ3_checkIndex_8e157_1 (by decide) (fun hc => ?_) (fun hc => ?_)
    · have hF := hF.1 hc
      exact hF
    · have hF := hF.2 hc
      refine xg_iload_n (pc := 4) C dJ3_checkIndex_8e157_4 0 rfl ?_
      refine xg_iload_n (pc := 5) C dJ3_checkIndex_8e157_5 1 rfl ?_
      refine xg_icmp_lt (pc := 6) 16 C dJ3_checkIndex_8e157_6 (by decide) (fun hc => ?_) (fun hc => ?_)
      · have hF := hF.1 hc
        refine xg_iload_n (pc := 16) C dJ3_checkIndex_8e157_16 0 rfl ?_
        exact xg_retI (pc := 17) C E dJ3_checkIndex_8e157_17 hF
      · have hF := hF.2 hc
        exact hF
def rm_J0_checkIndex_df160 : Room := { frames := 1, cells := 0, slots := 0, locals := 22 }
theorem nd_J0_checkIndex_df160 : yJ0_checkIndex_df160.cls = RJ0 ∧ yJ0_checkIndex_df160.cls ≠ "java/lang/invoke/MethodHandle" ∧ yJ0_checkIndex_df160.cls ≠ "java/lang/invoke/VarHandle" ∧ (parseMethodDescriptor yJ0_checkIndex_df160.desc).map (fun d => d.parameters.length) = some 2 := by decide +kernel
set_option maxHeartbeats 4000000 in
set_option maxRecDepth 100000 in
theorem met_J0_checkIndex_df160 (Y : xg_Y) (x0 : Int32) (x1 : Int32) : xg_MV yJ0_checkIndex_df160 wsJ0_checkIndex_df160 rm_J0_checkIndex_df160 Y (fun zs => [.int x0, .int x1]) (fun Q h => wp_J0_checkIndex_df160 Y Q x0 x1 h) := by
  refine xg_startV (cc := cJ0_checkIndex_df160) (maxL := 2) (own := RJ0) (by decide) rfl rfl (fun zs => Nat.le_of_ble_eq_true rfl) (fun X Q h C hnL E hw => ?_)
  unfold wp_J0_checkIndex_df160 at hw
  refine xg_sub (lv2 := [(0, .int x0), (1, .int x1)]) [0, 1] rfl ?_
  have hF := hw
  refine xg_iload_n (pc := 0) C dJ0_checkIndex_df160_0 0 rfl ?_
  refine xg_iload_n (pc := 1) C dJ0_checkIndex_df160_1 1 rfl ?_
  refine xg_getq (pc := 2) C (List.mem_of_getElem? (i := 1) rfl) dJ0_checkIndex_df160_2 (fun z1 => ?_)
  have hF := hF z1
  refine xg_csI (pc := 5) C (fun zs => [.int x0, .int x1, va_rf z1]) (met_J3_checkIndex_8e157 Y x0 x1 z1) gJ0_checkIndex_df160_J3_checkIndex_8e157 rfl ⟨rfl, rfl⟩ nd_J3_checkIndex_8e157.2 ⟨Nat.le_of_ble_eq_true rfl, Nat.le_of_ble_eq_true rfl⟩ rfl rfl (Nat.le_of_ble_eq_true rfl) ⟨Nat.zero_le _, Nat.zero_le _⟩ dJ0_checkIndex_df160_5 hF (fun r3 h2 hF => ?_)
  refine xg_pop (pc := 8) C dJ0_checkIndex_df160_8 rfl ?_
  exact xg_retV (pc := 9) C E dJ0_checkIndex_df160_9 hF
def rm_J1_charAt_3b067 : Room := { frames := 2, cells := 0, slots := 0, locals := 43 }
theorem nd_J1_charAt_3b067 : yJ1_charAt_3b067.cls = RJ1 ∧ yJ1_charAt_3b067.cls ≠ "java/lang/invoke/MethodHandle" ∧ yJ1_charAt_3b067.cls ≠ "java/lang/invoke/VarHandle" ∧ (parseMethodDescriptor yJ1_charAt_3b067.desc).map (fun d => d.parameters.length) = some 2 := by decide +kernel
set_option maxHeartbeats 4000000 in
set_option maxRecDepth 100000 in
theorem met_J1_charAt_3b067 (Y : xg_Y) (x0 : Nat) (x1 : Int32) : xg_MI yJ1_charAt_3b067 wsJ1_charAt_3b067 rm_J1_charAt_3b067 Y (fun zs => [va_rf (some (zs (30 + x0))), .int x1]) (fun Q h => wp_J1_charAt_3b067 Y Q x0 x1 h) := by
  refine xg_startI (cc := cJ1_charAt_3b067) (maxL := 2) (own := RJ1) (by decide) rfl rfl (fun zs => Nat.le_of_ble_eq_true rfl) (fun X Q h C hnL E hw => ?_)
  unfold wp_J1_charAt_3b067 at hw
  obtain ⟨hTx0, hw⟩ := hw
  refine xg_sub (lv2 := [(0, va_rf (some (xg_zs X (30 + x0)))), (1, .int x1)]) [0, 1] rfl ?_
  have hF := hw
  refine xg_iload_n (pc := 0) C dJ1_charAt_3b067_0 1 rfl ?_
  refine xg_aload_n (pc := 1) C dJ1_charAt_3b067_1 0 rfl ?_
  refine xg_tblen (pc := 2) C x0 hTx0 dJ1_charAt_3b067_2 ?_
  refine xg_csV (pc := 3) C (fun zs => [.int x1, .int (Int32.ofNat (xg_tl.getD x0 0))]) (met_J0_checkIndex_df160 Y x1 (Int32.ofNat (xg_tl.getD x0 0))) gJ1_charAt_3b067_J0_checkIndex_df160 rfl ⟨rfl, rfl⟩ nd_J0_checkIndex_df160.2 ⟨Nat.le_of_ble_eq_true rfl, Nat.le_of_ble_eq_true rfl⟩ rfl rfl (Nat.le_of_ble_eq_true rfl) ⟨Nat.zero_le _, Nat.zero_le _⟩ dJ1_charAt_3b067_3 hF (fun h1 hF => ?_)
  refine xg_aload_n (pc := 6) C dJ1_charAt_3b067_6 0 rfl ?_
  refine xg_iload_n (pc := 7) C dJ1_charAt_3b067_7 1 rfl ?_
  obtain ⟨hi, hF⟩ := hF
  refine xg_tbld (pc := 8) C x0 hTx0 hi dJ1_charAt_3b067_8 ?_
  refine xg_sipush (pc := 9) (v := 255) C dJ1_charAt_3b067_9 (by decide) ?_
  refine xg_iand (pc := 12) C dJ1_charAt_3b067_12 ?_
  refine xg_i2c (pc := 13) C dJ1_charAt_3b067_13 ?_
  exact xg_retN (pc := 14) C E hF.1 dJ1_charAt_3b067_14 hF.2
def rm_J0_charAt_5068e : Room := { frames := 3, cells := 0, slots := 0, locals := 64 }
theorem nd_J0_charAt_5068e : yJ0_charAt_5068e.cls = RJ0 ∧ yJ0_charAt_5068e.cls ≠ "java/lang/invoke/MethodHandle" ∧ yJ0_charAt_5068e.cls ≠ "java/lang/invoke/VarHandle" ∧ (parseMethodDescriptor yJ0_charAt_5068e.desc).map (fun d => d.parameters.length) = some 1 := by decide +kernel
set_option maxHeartbeats 4000000 in
set_option maxRecDepth 100000 in
theorem met_J0_charAt_5068e (Y : xg_Y) (this : Nat) (x1 : Int32) : xg_MI yJ0_charAt_5068e wsJ0_charAt_5068e rm_J0_charAt_5068e Y (fun zs => [va_rf (some (zs (10 + this))), .int x1]) (fun Q h => wp_J0_charAt_5068e Y Q this x1 h) := by
  refine xg_startI (cc := cJ0_charAt_5068e) (maxL := 2) (own := RJ0) (by decide) rfl rfl (fun zs => Nat.le_of_ble_eq_true rfl) (fun X Q h C hnL E hw => ?_)
  unfold wp_J0_charAt_5068e at hw
  obtain ⟨hTthis, hw⟩ := hw
  refine xg_sub (lv2 := [(0, va_rf (some (xg_zs X (10 + this)))), (1, .int x1)]) [0, 1] rfl ?_
  have hF := hw
  refine xg_aload_n (pc := 0) C dJ0_charAt_5068e_0 0 rfl ?_
  refine xg_ctI (pc := 1) (k := this) C (fun zs => []) hTthis (met_J0_isLatin1_aae02 Y this) gJ0_charAt_5068e_J0_isLatin1_aae02 rfl ⟨rfl, rfl⟩ nd_J0_isLatin1_aae02 ⟨Nat.le_of_ble_eq_true rfl, Nat.le_of_ble_eq_true rfl⟩ rfl rfl (Nat.le_of_ble_eq_true rfl) ⟨Nat.zero_le _, Nat.zero_le _⟩ dJ0_charAt_5068e_1 hF (fun r2 h1 hF => ?_)
  refine xg_if_eq (pc := 4) 16 C dJ0_charAt_5068e_4 (by decide) (fun hc => ?_) (fun hc => ?_)
  · have hF := hF.1 hc
    refine xg_aload_n (pc := 16) C dJ0_charAt_5068e_16 0 rfl ?_
    refine xg_strv (pc := 17) C this hTthis (List.mem_of_getElem? (i := 1) rfl) dJ0_charAt_5068e_17 ?_
    refine xg_iload_n (pc := 20) C dJ0_charAt_5068e_20 1 rfl ?_
    exact hF.elim
  · have hF := hF.2 hc
    refine xg_aload_n (pc := 7) C dJ0_charAt_5068e_7 0 rfl ?_
    refine xg_strv (pc := 8) C this hTthis (List.mem_of_getElem? (i := 1) rfl) dJ0_charAt_5068e_8 ?_
    refine xg_iload_n (pc := 11) C dJ0_charAt_5068e_11 1 rfl ?_
    refine xg_csI (pc := 12) C (fun zs => [va_rf (some (zs (30 + this))), .int x1]) (met_J1_charAt_3b067 Y this x1) gJ0_charAt_5068e_J1_charAt_3b067 rfl ⟨rfl, rfl⟩ nd_J1_charAt_3b067.2 ⟨Nat.le_of_ble_eq_true rfl, Nat.le_of_ble_eq_true rfl⟩ rfl rfl (Nat.le_of_ble_eq_true rfl) ⟨Nat.zero_le _, Nat.zero_le _⟩ dJ0_charAt_5068e_12 hF (fun r4 h3 hF => ?_)
    exact xg_retN (pc := 15) C E hF.1 dJ0_charAt_5068e_15 hF.2
def rm_J0_coder_7d493 : Room := { frames := 0, cells := 0, slots := 0, locals := 0 }
theorem nd_J0_coder_7d493 : yJ0_coder_7d493.cls = RJ0 ∧ yJ0_coder_7d493.cls ≠ "java/lang/invoke/MethodHandle" ∧ yJ0_coder_7d493.cls ≠ "java/lang/invoke/VarHandle" ∧ (parseMethodDescriptor yJ0_coder_7d493.desc).map (fun d => d.parameters.length) = some 0 := by decide +kernel
set_option maxHeartbeats 4000000 in
set_option maxRecDepth 100000 in
theorem met_J0_coder_7d493 (Y : xg_Y) (this : Nat) : xg_MI yJ0_coder_7d493 wsJ0_coder_7d493 rm_J0_coder_7d493 Y (fun zs => [va_rf (some (zs (10 + this)))]) (fun Q h => wp_J0_coder_7d493 Y Q this h) := by
  refine xg_startI (cc := cJ0_coder_7d493) (maxL := 1) (own := RJ0) (by decide) rfl rfl (fun zs => Nat.le_of_ble_eq_true rfl) (fun X Q h C hnL E hw => ?_)
  unfold wp_J0_coder_7d493 at hw
  obtain ⟨hTthis, hw⟩ := hw
  refine xg_sub (lv2 := [(0, va_rf (some (xg_zs X (10 + this))))]) [0] rfl ?_
  have hF := hw
  refine xg_getz (pc := 0) C (List.mem_of_getElem? (i := 1) rfl) dJ0_coder_7d493_0 ?_
  refine xg_if_eq (pc := 3) 13 C dJ0_coder_7d493_3 (by decide) (fun hc => ?_) (fun hc => ?_)
  · have hF := hF.1 hc
    refine xg_iconst (pc := 13) (v := 1) C dJ0_coder_7d493_13 (by decide) ?_
    exact xg_retN (pc := 14) C E hF.1 dJ0_coder_7d493_14 hF.2
  · have hF := hF.2 hc
    refine xg_aload_n (pc := 6) C dJ0_coder_7d493_6 0 rfl ?_
    refine xg_strc (pc := 7) C this hTthis (List.mem_of_getElem? (i := 2) rfl) dJ0_coder_7d493_7 ?_
    refine xg_goto (pc := 10) 14 C dJ0_coder_7d493_10 (by decide) ?_
    exact xg_retN (pc := 14) C E hF.1 dJ0_coder_7d493_14 hF.2
def rm_J0_length_8abf5 : Room := { frames := 1, cells := 0, slots := 0, locals := 20 }
theorem nd_J0_length_8abf5 : yJ0_length_8abf5.cls = RJ0 ∧ yJ0_length_8abf5.cls ≠ "java/lang/invoke/MethodHandle" ∧ yJ0_length_8abf5.cls ≠ "java/lang/invoke/VarHandle" ∧ (parseMethodDescriptor yJ0_length_8abf5.desc).map (fun d => d.parameters.length) = some 0 := by decide +kernel
set_option maxHeartbeats 4000000 in
set_option maxRecDepth 100000 in
theorem met_J0_length_8abf5 (Y : xg_Y) (this : Nat) : xg_MI yJ0_length_8abf5 wsJ0_length_8abf5 rm_J0_length_8abf5 Y (fun zs => [va_rf (some (zs (10 + this)))]) (fun Q h => wp_J0_length_8abf5 Y Q this h) := by
  refine xg_startI (cc := cJ0_length_8abf5) (maxL := 1) (own := RJ0) (by decide) rfl rfl (fun zs => Nat.le_of_ble_eq_true rfl) (fun X Q h C hnL E hw => ?_)
  unfold wp_J0_length_8abf5 at hw
  obtain ⟨hTthis, hw⟩ := hw
  refine xg_sub (lv2 := [(0, va_rf (some (xg_zs X (10 + this))))]) [0] rfl ?_
  have hF := hw
  refine xg_aload_n (pc := 0) C dJ0_length_8abf5_0 0 rfl ?_
  refine xg_strv (pc := 1) C this hTthis (List.mem_of_getElem? (i := 1) rfl) dJ0_length_8abf5_1 ?_
  refine xg_tblen (pc := 4) C this hTthis dJ0_length_8abf5_4 ?_
  refine xg_aload_n (pc := 5) C dJ0_length_8abf5_5 0 rfl ?_
  refine xg_ctI (pc := 6) (k := this) C (fun zs => []) hTthis (met_J0_coder_7d493 Y this) gJ0_length_8abf5_J0_coder_7d493 rfl ⟨rfl, rfl⟩ nd_J0_coder_7d493 ⟨Nat.le_of_ble_eq_true rfl, Nat.le_of_ble_eq_true rfl⟩ rfl rfl (Nat.le_of_ble_eq_true rfl) ⟨Nat.zero_le _, Nat.zero_le _⟩ dJ0_length_8abf5_6 hF (fun r2 h1 hF => ?_)
  refine xg_ishr (pc := 9) C dJ0_length_8abf5_9 ?_
  exact xg_retI (pc := 10) C E dJ0_length_8abf5_10 hF
def rm_J6_bitCount_0f7a4 : Room := { frames := 0, cells := 0, slots := 0, locals := 0 }
theorem nd_J6_bitCount_0f7a4 : yJ6_bitCount_0f7a4.cls = RJ6 ∧ yJ6_bitCount_0f7a4.cls ≠ "java/lang/invoke/MethodHandle" ∧ yJ6_bitCount_0f7a4.cls ≠ "java/lang/invoke/VarHandle" ∧ (parseMethodDescriptor yJ6_bitCount_0f7a4.desc).map (fun d => d.parameters.length) = some 1 := by decide +kernel
set_option maxHeartbeats 4000000 in
set_option maxRecDepth 100000 in
theorem met_J6_bitCount_0f7a4 (Y : xg_Y) (x0 : Int32) : xg_MI yJ6_bitCount_0f7a4 wsJ6_bitCount_0f7a4 rm_J6_bitCount_0f7a4 Y (fun zs => [.int x0]) (fun Q h => wp_J6_bitCount_0f7a4 Y Q x0 h) := by
  refine xg_startI (cc := cJ6_bitCount_0f7a4) (maxL := 1) (own := RJ6) (by decide) rfl rfl (fun zs => Nat.le_of_ble_eq_true rfl) (fun X Q h C hnL E hw => ?_)
  unfold wp_J6_bitCount_0f7a4 at hw
  refine xg_sub (lv2 := [(0, .int x0)]) [0] rfl ?_
  have hF := hw
  refine xg_iload_n (pc := 0) C dJ6_bitCount_0f7a4_0 0 rfl ?_
  refine xg_iload_n (pc := 1) C dJ6_bitCount_0f7a4_1 0 rfl ?_
  refine xg_iconst (pc := 2) (v := 1) C dJ6_bitCount_0f7a4_2 (by decide) ?_
  refine xg_iushr (pc := 3) C dJ6_bitCount_0f7a4_3 ?_
  refine xg_ldcw (pc := 4) (v := 1431655765) C dJ6_bitCount_0f7a4_4 (List.mem_of_getElem? (i := 1) rfl) ?_
  refine xg_iand (pc := 7) C dJ6_bitCount_0f7a4_7 ?_
  refine xg_isub (pc := 8) C dJ6_bitCount_0f7a4_8 ?_
  refine xg_topi (pc := 9) (fun z1 ez1 => ?_)
  have hF := hF z1 ez1
  refine xg_istore_n (pc := 9) (lv2 := [(0, .int z1)]) C dJ6_bitCount_0f7a4_9 1 hnL (by decide) rfl ?_
  refine xg_iload_n (pc := 10) C dJ6_bitCount_0f7a4_10 0 rfl ?_
  refine xg_ldcw (pc := 11) (v := 858993459) C dJ6_bitCount_0f7a4_11 (List.mem_of_getElem? (i := 2) rfl) ?_
  refine xg_iand (pc := 14) C dJ6_bitCount_0f7a4_14 ?_
  refine xg_iload_n (pc := 15) C dJ6_bitCount_0f7a4_15 0 rfl ?_
  refine xg_iconst (pc := 16) (v := 2) C dJ6_bitCount_0f7a4_16 (by decide) ?_
  refine xg_iushr (pc := 17) C dJ6_bitCount_0f7a4_17 ?_
  refine xg_ldcw (pc := 18) (v := 858993459) C dJ6_bitCount_0f7a4_18 (List.mem_of_getElem? (i := 2) rfl) ?_
  refine xg_iand (pc := 21) C dJ6_bitCount_0f7a4_21 ?_
  refine xg_iadd (pc := 22) C dJ6_bitCount_0f7a4_22 ?_
  refine xg_topi (pc := 23) (fun z2 ez2 => ?_)
  have hF := hF z2 ez2
  refine xg_istore_n (pc := 23) (lv2 := [(0, .int z2)]) C dJ6_bitCount_0f7a4_23 1 hnL (by decide) rfl ?_
  refine xg_iload_n (pc := 24) C dJ6_bitCount_0f7a4_24 0 rfl ?_
  refine xg_iload_n (pc := 25) C dJ6_bitCount_0f7a4_25 0 rfl ?_
  refine xg_iconst (pc := 26) (v := 4) C dJ6_bitCount_0f7a4_26 (by decide) ?_
  refine xg_iushr (pc := 27) C dJ6_bitCount_0f7a4_27 ?_
  refine xg_iadd (pc := 28) C dJ6_bitCount_0f7a4_28 ?_
  refine xg_ldcw (pc := 29) (v := 252645135) C dJ6_bitCount_0f7a4_29 (List.mem_of_getElem? (i := 3) rfl) ?_
  refine xg_iand (pc := 32) C dJ6_bitCount_0f7a4_32 ?_
  refine xg_topi (pc := 33) (fun z3 ez3 => ?_)
  have hF := hF z3 ez3
  refine xg_istore_n (pc := 33) (lv2 := [(0, .int z3)]) C dJ6_bitCount_0f7a4_33 1 hnL (by decide) rfl ?_
  refine xg_iload_n (pc := 34) C dJ6_bitCount_0f7a4_34 0 rfl ?_
  refine xg_iload_n (pc := 35) C dJ6_bitCount_0f7a4_35 0 rfl ?_
  refine xg_bipush (pc := 36) (v := 8) C dJ6_bitCount_0f7a4_36 (by decide) ?_
  refine xg_iushr (pc := 38) C dJ6_bitCount_0f7a4_38 ?_
  refine xg_iadd (pc := 39) C dJ6_bitCount_0f7a4_39 ?_
  refine xg_topi (pc := 40) (fun z4 ez4 => ?_)
  have hF := hF z4 ez4
  refine xg_istore_n (pc := 40) (lv2 := [(0, .int z4)]) C dJ6_bitCount_0f7a4_40 1 hnL (by decide) rfl ?_
  refine xg_iload_n (pc := 41) C dJ6_bitCount_0f7a4_41 0 rfl ?_
  refine xg_iload_n (pc := 42) C dJ6_bitCount_0f7a4_42 0 rfl ?_
  refine xg_bipush (pc := 43) (v := 16) C dJ6_bitCount_0f7a4_43 (by decide) ?_
  refine xg_iushr (pc := 45) C dJ6_bitCount_0f7a4_45 ?_
  refine xg_iadd (pc := 46) C dJ6_bitCount_0f7a4_46 ?_
  refine xg_topi (pc := 47) (fun z5 ez5 => ?_)
  have hF := hF z5 ez5
  refine xg_istore_n (pc := 47) (lv2 := [(0, .int z5)]) C dJ6_bitCount_0f7a4_47 1 hnL (by decide) rfl ?_
  refine xg_iload_n (pc := 48) C dJ6_bitCount_0f7a4_48 0 rfl ?_
  refine xg_bipush (pc := 49) (v := 63) C dJ6_bitCount_0f7a4_49 (by decide) ?_
  refine xg_iand (pc := 51) C dJ6_bitCount_0f7a4_51 ?_
  exact xg_retI (pc := 52) C E dJ6_bitCount_0f7a4_52 hF
def rm_J7_fill_53178 : Room := { frames := 0, cells := 0, slots := 0, locals := 0 }
theorem nd_J7_fill_53178 : yJ7_fill_53178.cls = RJ7 ∧ yJ7_fill_53178.cls ≠ "java/lang/invoke/MethodHandle" ∧ yJ7_fill_53178.cls ≠ "java/lang/invoke/VarHandle" ∧ (parseMethodDescriptor yJ7_fill_53178.desc).map (fun d => d.parameters.length) = some 2 := by decide +kernel
set_option maxHeartbeats 4000000 in
set_option maxRecDepth 100000 in
theorem met_J7_fill_53178 (Y : xg_Y) (x0 : Option Nat) (x1 : Int32) : xg_MV yJ7_fill_53178 wsJ7_fill_53178 rm_J7_fill_53178 Y (fun zs => [va_rf x0, .int x1]) (fun Q h => wp_J7_fill_53178 Y Q x0 x1 h) := by
  refine xg_startV (cc := cJ7_fill_53178) (maxL := 4) (own := RJ7) (by decide) rfl rfl (fun zs => by cases x0 <;> exact Nat.le_of_ble_eq_true rfl) (fun X Q h C hnL E hw => ?_)
  unfold wp_J7_fill_53178 at hw
  refine xg_sub (lv2 := [(0, va_rf x0), (1, .int x1)]) [0, 1] (by cases x0 <;> rfl) ?_
  refine mg_use (hw (fun (y2 : Int32) (y3 : Int32) (h : xg_H) => xg_W X 0 0 Y 5 [(0, va_rf x0), (1, .int x1), (2, .int y2), (3, .int y3)] [] h) ?_) (fun hF => ?_)
  · intro y2 y3 h hF
    refine xg_iload_n (pc := 5) C dJ7_fill_53178_5 2 rfl ?_
    refine xg_iload_n (pc := 6) C dJ7_fill_53178_6 3 rfl ?_
    refine xg_icmp_ge (pc := 7) 20 C dJ7_fill_53178_7 (by decide) (fun hc => ?_) (fun hc => ?_)
    · have hF := hF.1 hc
      exact xg_retV (pc := 20) C E dJ7_fill_53178_20 hF
    · have hF := hF.2 hc
      refine xg_aload_n (pc := 10) C dJ7_fill_53178_10 0 rfl ?_
      refine xg_iload_n (pc := 11) C dJ7_fill_53178_11 2 rfl ?_
      refine xg_iload_n (pc := 12) C dJ7_fill_53178_12 1 rfl ?_
      obtain ⟨a3, ha3, hka3, hF⟩ := hF
      obtain ⟨hi, hF⟩ := hF
      refine xg_iast (pc := 13) C ha3 hka3 hi dJ7_fill_53178_13 (fun h4 eh4 => ?_)
      have hF := hF h4 eh4
      obtain ⟨z5, ez5⟩ : ∃ y : Int32, y = y2 + 1 := ⟨_, rfl⟩
      have hF := hF z5 ez5
      refine xg_iinc (pc := 14) (v := z5) (lv2 := [(2, .int z5), (0, va_rf x0), (1, .int x1), (3, .int y3)]) C dJ7_fill_53178_14 2 rfl (by rw [ez5]; rfl) 4 hnL (by decide) rfl ?_
      refine xg_goto (pc := 17) 5 C dJ7_fill_53178_17 (by decide) ?_
      refine xg_sub (lv2 := [(0, va_rf x0), (1, .int x1), (2, .int z5), (3, .int y3)]) [1, 2, 0, 3] rfl ?_
      exact hF
  · skip
    refine xg_iconst (pc := 0) (v := 0) C dJ7_fill_53178_0 (by decide) ?_
    refine xg_istore_n (pc := 1) (lv2 := [(2, .int 0), (0, va_rf x0), (1, .int x1)]) C dJ7_fill_53178_1 4 hnL (by decide) rfl ?_
    refine xg_aload_n (pc := 2) C dJ7_fill_53178_2 1 rfl ?_
    obtain ⟨a1, ha1, hka1, hF⟩ := hF
    refine xg_alen (pc := 3) (c9 := 22) C ha1 hka1 (by decide) dJ7_fill_53178_3 ?_
    refine xg_topi (pc := 4) (fun z2 ez2 => ?_)
    have hF := hF z2 ez2
    refine xg_istore_n (pc := 4) (lv2 := [(3, .int z2), (2, .int 0), (0, va_rf x0), (1, .int x1)]) C dJ7_fill_53178_4 4 hnL (by decide) rfl ?_
    refine xg_sub (lv2 := [(0, va_rf x0), (1, .int x1), (2, .int 0), (3, .int z2)]) [2, 3, 1, 0] rfl ?_
    exact hF
def rm_J7_fill_d0a16 : Room := { frames := 0, cells := 0, slots := 0, locals := 0 }
theorem nd_J7_fill_d0a16 : yJ7_fill_d0a16.cls = RJ7 ∧ yJ7_fill_d0a16.cls ≠ "java/lang/invoke/MethodHandle" ∧ yJ7_fill_d0a16.cls ≠ "java/lang/invoke/VarHandle" ∧ (parseMethodDescriptor yJ7_fill_d0a16.desc).map (fun d => d.parameters.length) = some 2 := by decide +kernel
set_option maxHeartbeats 4000000 in
set_option maxRecDepth 100000 in
theorem met_J7_fill_d0a16 (Y : xg_Y) (x0 : Option Nat) (x1 : Int64) : xg_MV yJ7_fill_d0a16 wsJ7_fill_d0a16 rm_J7_fill_d0a16 Y (fun zs => [va_rf x0, .long x1]) (fun Q h => wp_J7_fill_d0a16 Y Q x0 x1 h) := by
  refine xg_startV (cc := cJ7_fill_d0a16) (maxL := 5) (own := RJ7) (by decide) rfl rfl (fun zs => by cases x0 <;> exact Nat.le_of_ble_eq_true rfl) (fun X Q h C hnL E hw => ?_)
  unfold wp_J7_fill_d0a16 at hw
  refine xg_sub (lv2 := [(0, va_rf x0), (1, .long x1)]) [0, 1] (by cases x0 <;> rfl) ?_
  refine mg_use (hw (fun (y3 : Int32) (y4 : Int32) (h : xg_H) => xg_W X 0 0 Y 6 [(0, va_rf x0), (1, .long x1), (3, .int y3), (4, .int y4)] [] h) ?_) (fun hF => ?_)
  · intro y3 y4 h hF
    refine xg_iload_n (pc := 6) C dJ7_fill_d0a16_6 2 rfl ?_
    refine xg_iload (pc := 7) C dJ7_fill_d0a16_7 3 rfl ?_
    refine xg_icmp_ge (pc := 9) 22 C dJ7_fill_d0a16_9 (by decide) (fun hc => ?_) (fun hc => ?_)
    · have hF := hF.1 hc
      exact xg_retV (pc := 22) C E dJ7_fill_d0a16_22 hF
    · have hF := hF.2 hc
      refine xg_aload_n (pc := 12) C dJ7_fill_d0a16_12 0 rfl ?_
      refine xg_iload_n (pc := 13) C dJ7_fill_d0a16_13 2 rfl ?_
      refine xg_lload_n (pc := 14) C dJ7_fill_d0a16_14 1 rfl ?_
      obtain ⟨a3, ha3, hka3, hF⟩ := hF
      obtain ⟨hi, hF⟩ := hF
      refine xg_last (pc := 15) C ha3 hka3 hi dJ7_fill_d0a16_15 (fun h4 eh4 => ?_)
      have hF := hF h4 eh4
      obtain ⟨z5, ez5⟩ : ∃ y : Int32, y = y3 + 1 := ⟨_, rfl⟩
      have hF := hF z5 ez5
      refine xg_iinc (pc := 16) (v := z5) (lv2 := [(3, .int z5), (0, va_rf x0), (1, .long x1), (4, .int y4)]) C dJ7_fill_d0a16_16 2 rfl (by rw [ez5]; rfl) 5 hnL (by decide) rfl ?_
      refine xg_goto (pc := 19) 6 C dJ7_fill_d0a16_19 (by decide) ?_
      refine xg_sub (lv2 := [(0, va_rf x0), (1, .long x1), (3, .int z5), (4, .int y4)]) [1, 2, 0, 3] rfl ?_
      exact hF
  · skip
    refine xg_iconst (pc := 0) (v := 0) C dJ7_fill_d0a16_0 (by decide) ?_
    refine xg_istore_n (pc := 1) (lv2 := [(3, .int 0), (0, va_rf x0), (1, .long x1)]) C dJ7_fill_d0a16_1 5 hnL (by decide) rfl ?_
    refine xg_aload_n (pc := 2) C dJ7_fill_d0a16_2 1 rfl ?_
    obtain ⟨a1, ha1, hka1, hF⟩ := hF
    refine xg_alen (pc := 3) (c9 := 23) C ha1 hka1 (by decide) dJ7_fill_d0a16_3 ?_
    refine xg_topi (pc := 4) (fun z2 ez2 => ?_)
    have hF := hF z2 ez2
    refine xg_istore (pc := 4) (lv2 := [(4, .int z2), (3, .int 0), (0, va_rf x0), (1, .long x1)]) C dJ7_fill_d0a16_4 5 hnL (by decide) rfl ?_
    refine xg_sub (lv2 := [(0, va_rf x0), (1, .long x1), (3, .int 0), (4, .int z2)]) [2, 3, 1, 0] rfl ?_
    exact hF
def rm_J7_rangeCheck_23922 : Room := { frames := 0, cells := 0, slots := 0, locals := 0 }
theorem nd_J7_rangeCheck_23922 : yJ7_rangeCheck_23922.cls = RJ7 ∧ yJ7_rangeCheck_23922.cls ≠ "java/lang/invoke/MethodHandle" ∧ yJ7_rangeCheck_23922.cls ≠ "java/lang/invoke/VarHandle" ∧ (parseMethodDescriptor yJ7_rangeCheck_23922.desc).map (fun d => d.parameters.length) = some 3 := by decide +kernel
set_option maxHeartbeats 4000000 in
set_option maxRecDepth 100000 in
theorem met_J7_rangeCheck_23922 (Y : xg_Y) (x0 : Int32) (x1 : Int32) (x2 : Int32) : xg_MV yJ7_rangeCheck_23922 wsJ7_rangeCheck_23922 rm_J7_rangeCheck_23922 Y (fun zs => [.int x0, .int x1, .int x2]) (fun Q h => wp_J7_rangeCheck_23922 Y Q x0 x1 x2 h) := by
  refine xg_startV (cc := cJ7_rangeCheck_23922) (maxL := 3) (own := RJ7) (by decide) rfl rfl (fun zs => Nat.le_of_ble_eq_true rfl) (fun X Q h C hnL E hw => ?_)
  unfold wp_J7_rangeCheck_23922 at hw
  refine xg_sub (lv2 := [(0, .int x0), (1, .int x1), (2, .int x2)]) [0, 1, 2] rfl ?_
  have hF := hw
  refine xg_iload_n (pc := 0) C dJ7_rangeCheck_23922_0 1 rfl ?_
  refine xg_iload_n (pc := 1) C dJ7_rangeCheck_23922_1 2 rfl ?_
  refine xg_icmp_le (pc := 2) 46 C dJ7_rangeCheck_23922_2 (by decide) (fun hc => ?_) (fun hc => ?_)
  · have hF := hF.1 hc
    refine xg_iload_n (pc := 46) C dJ7_rangeCheck_23922_46 1 rfl ?_
    refine xg_if_ge (pc := 47) 59 C dJ7_rangeCheck_23922_47 (by decide) (fun hc => ?_) (fun hc => ?_)
    · have hF := hF.1 hc
      refine xg_iload_n (pc := 59) C dJ7_rangeCheck_23922_59 2 rfl ?_
      refine xg_iload_n (pc := 60) C dJ7_rangeCheck_23922_60 0 rfl ?_
      refine xg_icmp_le (pc := 61) 73 C dJ7_rangeCheck_23922_61 (by decide) (fun hc => ?_) (fun hc => ?_)
      · have hF := hF.1 hc
        exact xg_retV (pc := 73) C E dJ7_rangeCheck_23922_73 hF
      · have hF := hF.2 hc
        exact hF.elim
    · have hF := hF.2 hc
      exact hF.elim
  · have hF := hF.2 hc
    exact hF.elim
def rm_J7_fill_fda19 : Room := { frames := 1, cells := 0, slots := 0, locals := 22 }
theorem nd_J7_fill_fda19 : yJ7_fill_fda19.cls = RJ7 ∧ yJ7_fill_fda19.cls ≠ "java/lang/invoke/MethodHandle" ∧ yJ7_fill_fda19.cls ≠ "java/lang/invoke/VarHandle" ∧ (parseMethodDescriptor yJ7_fill_fda19.desc).map (fun d => d.parameters.length) = some 4 := by decide +kernel
set_option maxHeartbeats 4000000 in
set_option maxRecDepth 100000 in
theorem met_J7_fill_fda19 (Y : xg_Y) (x0 : Option Nat) (x1 : Int32) (x2 : Int32) (x3 : Int32) : xg_MV yJ7_fill_fda19 wsJ7_fill_fda19 rm_J7_fill_fda19 Y (fun zs => [va_rf x0, .int x1, .int x2, .int x3]) (fun Q h => wp_J7_fill_fda19 Y Q x0 x1 x2 x3 h) := by
  refine xg_startV (cc := cJ7_fill_fda19) (maxL := 5) (own := RJ7) (by decide) rfl rfl (fun zs => by cases x0 <;> exact Nat.le_of_ble_eq_true rfl) (fun X Q h C hnL E hw => ?_)
  unfold wp_J7_fill_fda19 at hw
  refine xg_sub (lv2 := [(0, va_rf x0), (1, .int x1), (2, .int x2), (3, .int x3)]) [0, 1, 2, 3] (by cases x0 <;> rfl) ?_
  refine mg_use (hw (fun (y4 : Int32) (h : xg_H) => xg_W X 0 0 Y 10 [(0, va_rf x0), (2, .int x2), (3, .int x3), (4, .int y4)] [] h) ?_) (fun hF => ?_)
  · intro y4 h hF
    refine xg_iload (pc := 10) C dJ7_fill_fda19_10 3 rfl ?_
    refine xg_iload_n (pc := 12) C dJ7_fill_fda19_12 1 rfl ?_
    refine xg_icmp_ge (pc := 13) 27 C dJ7_fill_fda19_13 (by decide) (fun hc => ?_) (fun hc => ?_)
    · have hF := hF.1 hc
      exact xg_retV (pc := 27) C E dJ7_fill_fda19_27 hF
    · have hF := hF.2 hc
      refine xg_aload_n (pc := 16) C dJ7_fill_fda19_16 0 rfl ?_
      refine xg_iload (pc := 17) C dJ7_fill_fda19_17 3 rfl ?_
      refine xg_iload_n (pc := 19) C dJ7_fill_fda19_19 2 rfl ?_
      obtain ⟨a3, ha3, hka3, hF⟩ := hF
      obtain ⟨hi, hF⟩ := hF
      refine xg_iast (pc := 20) C ha3 hka3 hi dJ7_fill_fda19_20 (fun h4 eh4 => ?_)
      have hF := hF h4 eh4
      obtain ⟨z5, ez5⟩ : ∃ y : Int32, y = y4 + 1 := ⟨_, rfl⟩
      have hF := hF z5 ez5
      refine xg_iinc (pc := 21) (v := z5) (lv2 := [(4, .int z5), (0, va_rf x0), (2, .int x2), (3, .int x3)]) C dJ7_fill_fda19_21 3 rfl (by rw [ez5]; rfl) 5 hnL (by decide) rfl ?_
      refine xg_goto (pc := 24) 10 C dJ7_fill_fda19_24 (by decide) ?_
      refine xg_sub (lv2 := [(0, va_rf x0), (2, .int x2), (3, .int x3), (4, .int z5)]) [1, 2, 3, 0] rfl ?_
      exact hF
  · skip
    refine xg_aload_n (pc := 0) C dJ7_fill_fda19_0 0 rfl ?_
    obtain ⟨a1, ha1, hka1, hF⟩ := hF
    refine xg_alen (pc := 1) (c9 := 22) C ha1 hka1 (by decide) dJ7_fill_fda19_1 ?_
    refine xg_iload_n (pc := 2) C dJ7_fill_fda19_2 1 rfl ?_
    refine xg_iload_n (pc := 3) C dJ7_fill_fda19_3 2 rfl ?_
    refine xg_csV (pc := 4) C (fun zs => [.int (Int32.ofNat (xg_n Y a1)), .int x1, .int x2]) (met_J7_rangeCheck_23922 Y (Int32.ofNat (xg_n Y a1)) x1 x2) gJ7_fill_fda19_J7_rangeCheck_23922 rfl ⟨rfl, rfl⟩ nd_J7_rangeCheck_23922.2 ⟨Nat.le_of_ble_eq_true rfl, Nat.le_of_ble_eq_true rfl⟩ rfl rfl (Nat.le_of_ble_eq_true rfl) ⟨Nat.zero_le _, Nat.zero_le _⟩ dJ7_fill_fda19_4 hF (fun h2 hF => ?_)
    refine xg_iload_n (pc := 7) C dJ7_fill_fda19_7 1 rfl ?_
    refine xg_istore (pc := 8) (lv2 := [(4, .int x1), (0, va_rf x0), (1, .int x1), (2, .int x2), (3, .int x3)]) C dJ7_fill_fda19_8 5 hnL (by decide) rfl ?_
    refine xg_sub (lv2 := [(0, va_rf x0), (2, .int x2), (3, .int x3), (4, .int x1)]) [1, 3, 4, 0] rfl ?_
    exact hF
def rm_X5_put : Room := { frames := 0, cells := 0, slots := 0, locals := 0 }
theorem nd_X5_put : yX5_put.cls = RX5 ∧ yX5_put.cls ≠ "java/lang/invoke/MethodHandle" ∧ yX5_put.cls ≠ "java/lang/invoke/VarHandle" ∧ (parseMethodDescriptor yX5_put.desc).map (fun d => d.parameters.length) = some 2 := by decide +kernel
theorem inm_X5_put_5 : ∀ w ∈ u_ws RX5 TX5 (xg_N 5), w ∈ wsX5_put := fun _ h9 => List.mem_cons_of_mem _ (List.mem_append_right _ h9)
set_option maxHeartbeats 4000000 in
set_option maxRecDepth 100000 in
theorem met_X5_put (Y : xg_Y) (this : Nat) (x1 : Int32) (x2 : Int32) : xg_MV yX5_put wsX5_put rm_X5_put Y (fun zs => [va_rf (some this), .int x1, .int x2]) (fun Q h => wp_X5_put Y Q this x1 x2 h) := by
  refine xg_startV (cc := cX5_put) (maxL := 3) (own := RX5) (by decide) rfl rfl (fun zs => Nat.le_of_ble_eq_true rfl) (fun X Q h C hnL E hw => ?_)
  unfold wp_X5_put at hw
  obtain ⟨hthis, hw⟩ := hw
  refine xg_sub (lv2 := [(0, va_rf (some this)), (1, .int x1), (2, .int x2)]) [0, 1, 2] rfl ?_
  have hF := hw
  refine xg_aload_n (pc := 0) C dX5_put_0 0 rfl ?_
  refine xg_iload_n (pc := 1) C dX5_put_1 1 rfl ?_
  refine xg_puti (pc := 2) (C1 := RX5) (T1 := TX5) (ci := 5) (ref := "SandGlasses$Glass") C inm_X5_put_5 rfl (by decide) tyX5 tyX5_ok nmX5 0 (by decide) rfl dX5_put_2 (List.mem_of_getElem? (i := 1) rfl) rfl rfl (tyX5_ok 0 (by decide)) rfl hthis (fun h1 eh1 => ?_)
  have hF := hF h1 eh1
  refine xg_aload_n (pc := 5) C dX5_put_5 0 rfl ?_
  refine xg_iload_n (pc := 6) C dX5_put_6 2 rfl ?_
  refine xg_puti (pc := 7) (C1 := RX5) (T1 := TX5) (ci := 5) (ref := "SandGlasses$Glass") C inm_X5_put_5 rfl (by decide) tyX5 tyX5_ok nmX5 1 (by decide) rfl dX5_put_7 (List.mem_of_getElem? (i := 2) rfl) rfl rfl (tyX5_ok 1 (by decide)) rfl hthis (fun h2 eh2 => ?_)
  have hF := hF h2 eh2
  refine xg_aload_n (pc := 10) C dX5_put_10 0 rfl ?_
  refine xg_iconst (pc := 11) (v := 0) C dX5_put_11 (by decide) ?_
  refine xg_putz (pc := 12) (C1 := RX5) (T1 := TX5) (ci := 5) (ref := "SandGlasses$Glass") C inm_X5_put_5 rfl (by decide) tyX5 tyX5_ok nmX5 2 (by decide) rfl (Or.inl rfl) dX5_put_12 (List.mem_of_getElem? (i := 3) rfl) rfl rfl (tyX5_ok 2 (by decide)) rfl hthis (fun h3 eh3 => ?_)
  have hF := hF h3 eh3
  refine xg_aload_n (pc := 15) C dX5_put_15 0 rfl ?_
  refine xg_iconst (pc := 16) (v := 0) C dX5_put_16 (by decide) ?_
  refine xg_puti (pc := 17) (C1 := RX5) (T1 := TX5) (ci := 5) (ref := "SandGlasses$Glass") C inm_X5_put_5 rfl (by decide) tyX5 tyX5_ok nmX5 3 (by decide) rfl dX5_put_17 (List.mem_of_getElem? (i := 4) rfl) rfl rfl (tyX5_ok 3 (by decide)) rfl hthis (fun h4 eh4 => ?_)
  have hF := hF h4 eh4
  exact xg_retV (pc := 20) C E dX5_put_20 hF
def rm_X0_begin : Room := { frames := 1, cells := 0, slots := 0, locals := 24 }
theorem nd_X0_begin : yX0_begin.cls = RX0 ∧ yX0_begin.cls ≠ "java/lang/invoke/MethodHandle" ∧ yX0_begin.cls ≠ "java/lang/invoke/VarHandle" ∧ (parseMethodDescriptor yX0_begin.desc).map (fun d => d.parameters.length) = some 1 := by decide +kernel
theorem inm_X0_begin_0 : ∀ w ∈ u_ws RX0 TX0 (xg_N 0), w ∈ wsX0_begin := fun _ h9 => List.mem_cons_of_mem _ (List.mem_append_left _ (List.mem_append_right _ h9))
theorem inm_X0_begin_8 : ∀ w ∈ u_ws RX8 TX8 (xg_N 8), w ∈ wsX0_begin := fun _ h9 => List.mem_cons_of_mem _ (List.mem_append_left _ (List.mem_append_left _ (List.mem_append_right _ h9)))
set_option maxHeartbeats 4000000 in
set_option maxRecDepth 100000 in
theorem met_X0_begin (Y : xg_Y) (this : Nat) (x1 : Option Nat) : xg_MV yX0_begin wsX0_begin rm_X0_begin Y (fun zs => [va_rf (some this), va_rf x1]) (fun Q h => wp_X0_begin Y Q this x1 h) := by
  refine xg_startV (cc := cX0_begin) (maxL := 3) (own := RX0) (by decide) rfl rfl (fun zs => by cases x1 <;> exact Nat.le_of_ble_eq_true rfl) (fun X Q h C hnL E hw => ?_)
  unfold wp_X0_begin at hw
  obtain ⟨hthis, hw⟩ := hw
  refine xg_sub (lv2 := [(0, va_rf (some this)), (1, va_rf x1)]) [0, 1] (by cases x1 <;> rfl) ?_
  refine mg_use (hw (fun (y2 : Int32) (h : xg_H) => xg_W X 0 0 Y 14 [(0, va_rf (some this)), (1, va_rf x1), (2, .int y2)] [] h) ?_) (fun hF => ?_)
  · intro y2 h hF
    refine xg_iload_n (pc := 14) C dX0_begin_14 2 rfl ?_
    refine xg_aload_n (pc := 15) C dX0_begin_15 0 rfl ?_
    refine xg_geti (pc := 16) (C1 := RX0) (T1 := TX0) (ci := 0) (ref := "SandGlasses$Bench") C inm_X0_begin_0 rfl (by decide) 6 (by decide) rfl dX0_begin_16 (List.mem_of_getElem? (i := 6) rfl) rfl rfl hthis ?_
    refine xg_icmp_ge (pc := 19) 49 C dX0_begin_19 (by decide) (fun hc => ?_) (fun hc => ?_)
    · have hF := hF.1 hc
      refine xg_aload_n (pc := 49) C dX0_begin_49 0 rfl ?_
      refine xg_iconst (pc := 50) (v := 0) C dX0_begin_50 (by decide) ?_
      refine xg_puti (pc := 51) (C1 := RX0) (T1 := TX0) (ci := 0) (ref := "SandGlasses$Bench") C inm_X0_begin_0 rfl (by decide) tyX0 tyX0_ok nmX0 7 (by decide) rfl dX0_begin_51 (List.mem_of_getElem? (i := 10) rfl) rfl rfl (tyX0_ok 7 (by decide)) rfl hthis (fun h4 eh4 => ?_)
      have hF := hF h4 eh4
      refine xg_aload_n (pc := 54) C dX0_begin_54 0 rfl ?_
      refine xg_iconst (pc := 55) (v := 0) C dX0_begin_55 (by decide) ?_
      refine xg_puti (pc := 56) (C1 := RX0) (T1 := TX0) (ci := 0) (ref := "SandGlasses$Bench") C inm_X0_begin_0 rfl (by decide) tyX0 tyX0_ok nmX0 0 (by decide) rfl dX0_begin_56 (List.mem_of_getElem? (i := 11) rfl) rfl rfl (tyX0_ok 0 (by decide)) rfl hthis (fun h5 eh5 => ?_)
      have hF := hF h5 eh5
      refine xg_aload_n (pc := 59) C dX0_begin_59 0 rfl ?_
      refine xg_iconst (pc := 60) (v := (-1)) C dX0_begin_60 (by decide) ?_
      refine xg_puti (pc := 61) (C1 := RX0) (T1 := TX0) (ci := 0) (ref := "SandGlasses$Bench") C inm_X0_begin_0 rfl (by decide) tyX0 tyX0_ok nmX0 1 (by decide) rfl dX0_begin_61 (List.mem_of_getElem? (i := 12) rfl) rfl rfl (tyX0_ok 1 (by decide)) rfl hthis (fun h6 eh6 => ?_)
      have hF := hF h6 eh6
      refine xg_aload_n (pc := 64) C dX0_begin_64 0 rfl ?_
      refine xg_iconst (pc := 65) (v := 0) C dX0_begin_65 (by decide) ?_
      refine xg_puti (pc := 66) (C1 := RX0) (T1 := TX0) (ci := 0) (ref := "SandGlasses$Bench") C inm_X0_begin_0 rfl (by decide) tyX0 tyX0_ok nmX0 2 (by decide) rfl dX0_begin_66 (List.mem_of_getElem? (i := 13) rfl) rfl rfl (tyX0_ok 2 (by decide)) rfl hthis (fun h7 eh7 => ?_)
      have hF := hF h7 eh7
      refine xg_aload_n (pc := 69) C dX0_begin_69 0 rfl ?_
      refine xg_iconst (pc := 70) (v := 0) C dX0_begin_70 (by decide) ?_
      refine xg_puti (pc := 71) (C1 := RX0) (T1 := TX0) (ci := 0) (ref := "SandGlasses$Bench") C inm_X0_begin_0 rfl (by decide) tyX0 tyX0_ok nmX0 3 (by decide) rfl dX0_begin_71 (List.mem_of_getElem? (i := 14) rfl) rfl rfl (tyX0_ok 3 (by decide)) rfl hthis (fun h8 eh8 => ?_)
      have hF := hF h8 eh8
      refine xg_aload_n (pc := 74) C dX0_begin_74 0 rfl ?_
      refine xg_iconst (pc := 75) (v := 0) C dX0_begin_75 (by decide) ?_
      refine xg_puti (pc := 76) (C1 := RX0) (T1 := TX0) (ci := 0) (ref := "SandGlasses$Bench") C inm_X0_begin_0 rfl (by decide) tyX0 tyX0_ok nmX0 4 (by decide) rfl dX0_begin_76 (List.mem_of_getElem? (i := 15) rfl) rfl rfl (tyX0_ok 4 (by decide)) rfl hthis (fun h9 eh9 => ?_)
      have hF := hF h9 eh9
      exact xg_retV (pc := 79) C E dX0_begin_79 hF
    · have hF := hF.2 hc
      refine xg_aload_n (pc := 22) C dX0_begin_22 0 rfl ?_
      refine xg_getr (pc := 23) (C1 := RX0) (T1 := TX0) (ci := 0) (ref := "SandGlasses$Bench") C inm_X0_begin_0 rfl (by decide) 5 (by decide) rfl dX0_begin_23 (List.mem_of_getElem? (i := 7) rfl) rfl rfl hthis ?_
      refine xg_iload_n (pc := 26) C dX0_begin_26 2 rfl ?_
      obtain ⟨a10, ha10, hka10, hF⟩ := hF
      obtain ⟨hi, hF⟩ := hF
      refine xg_aald (pc := 27) (c9 := 26) (C9 := "SandGlasses$Glass") C ha10 hka10 (by decide) rfl hi dX0_begin_27 ?_
      refine xg_aload_n (pc := 28) C dX0_begin_28 1 rfl ?_
      obtain ⟨a11, ha11, hka11, hF⟩ := hF
      refine xg_getr (pc := 29) (C1 := RX8) (T1 := TX8) (ci := 8) (ref := "SandGlasses$Text") C inm_X0_begin_8 rfl (by decide) 1 (by decide) rfl dX0_begin_29 (List.mem_of_getElem? (i := 8) rfl) rfl ha11 hka11 ?_
      refine xg_iload_n (pc := 32) C dX0_begin_32 2 rfl ?_
      obtain ⟨a12, ha12, hka12, hF⟩ := hF
      obtain ⟨hi, hF⟩ := hF
      refine xg_iald (pc := 33) C ha12 hka12 hi dX0_begin_33 ?_
      refine xg_aload_n (pc := 34) C dX0_begin_34 1 rfl ?_
      refine xg_getr (pc := 35) (C1 := RX8) (T1 := TX8) (ci := 8) (ref := "SandGlasses$Text") C inm_X0_begin_8 rfl (by decide) 2 (by decide) rfl dX0_begin_35 (List.mem_of_getElem? (i := 9) rfl) rfl ha11 hka11 ?_
      refine xg_iload_n (pc := 38) C dX0_begin_38 2 rfl ?_
      obtain ⟨a13, ha13, hka13, hF⟩ := hF
      obtain ⟨hi, hF⟩ := hF
      refine xg_iald (pc := 39) C ha13 hka13 hi dX0_begin_39 ?_
      obtain ⟨a14, ha14, hka14, hF⟩ := hF
      refine xg_cvV (pc := 40) (C1 := RX5) (T1 := TX5) (ci := 5) C (fun zs => [.int (xg_i h a12 y2.toNatClampNeg), .int (xg_i h a13 y2.toNatClampNeg)]) ha14 hka14 (by decide) rfl (met_X5_put Y a14 (xg_i h a12 y2.toNatClampNeg) (xg_i h a13 y2.toNatClampNeg)) gX0_begin_X5_put rfl ⟨rfl, rfl⟩ nd_X5_put ⟨Nat.le_of_ble_eq_true rfl, Nat.le_of_ble_eq_true rfl⟩ rfl rfl (Nat.le_of_ble_eq_true rfl) ⟨Nat.zero_le _, Nat.zero_le _⟩ dX0_begin_40 hF (fun h15 hF => ?_)
      obtain ⟨z16, ez16⟩ : ∃ y : Int32, y = y2 + 1 := ⟨_, rfl⟩
      have hF := hF z16 ez16
      refine xg_iinc (pc := 43) (v := z16) (lv2 := [(2, .int z16), (0, va_rf (some this)), (1, va_rf x1)]) C dX0_begin_43 2 rfl (by rw [ez16]; rfl) 3 hnL (by decide) (by cases x1 <;> rfl) ?_
      refine xg_goto (pc := 46) 14 C dX0_begin_46 (by decide) ?_
      refine xg_sub (lv2 := [(0, va_rf (some this)), (1, va_rf x1), (2, .int z16)]) [1, 2, 0] rfl ?_
      exact hF
  · skip
    refine xg_aload_n (pc := 0) C dX0_begin_0 0 rfl ?_
    refine xg_aload_n (pc := 1) C dX0_begin_1 1 rfl ?_
    obtain ⟨a1, ha1, hka1, hF⟩ := hF
    refine xg_geti (pc := 2) (C1 := RX8) (T1 := TX8) (ci := 8) (ref := "SandGlasses$Text") C inm_X0_begin_8 rfl (by decide) 0 (by decide) rfl dX0_begin_2 (List.mem_of_getElem? (i := 1) rfl) rfl ha1 hka1 ?_
    refine xg_iconst (pc := 5) (v := 4) C dX0_begin_5 (by decide) ?_
    refine xg_mmin (pc := 6) C (List.mem_of_getElem? (i := 2) rfl) (List.mem_of_getElem? (i := 3) rfl) (List.mem_of_getElem? (i := 4) rfl) (List.mem_of_getElem? (i := 5) rfl) (Nat.le_of_ble_eq_true rfl) (Nat.le_of_ble_eq_true rfl) (Nat.zero_le _) (Nat.zero_le _) dX0_begin_6 ?_
    refine xg_topi (pc := 9) (fun z2 ez2 => ?_)
    have hF := hF z2 ez2
    refine xg_puti (pc := 9) (C1 := RX0) (T1 := TX0) (ci := 0) (ref := "SandGlasses$Bench") C inm_X0_begin_0 rfl (by decide) tyX0 tyX0_ok nmX0 6 (by decide) rfl dX0_begin_9 (List.mem_of_getElem? (i := 6) rfl) rfl rfl (tyX0_ok 6 (by decide)) rfl hthis (fun h3 eh3 => ?_)
    have hF := hF h3 eh3
    refine xg_iconst (pc := 12) (v := 0) C dX0_begin_12 (by decide) ?_
    refine xg_istore_n (pc := 13) (lv2 := [(2, .int 0), (0, va_rf (some this)), (1, va_rf x1)]) C dX0_begin_13 3 hnL (by decide) (by cases x1 <;> rfl) ?_
    refine xg_sub (lv2 := [(0, va_rf (some this)), (1, va_rf x1), (2, .int 0)]) [1, 2, 0] rfl ?_
    exact hF
def rm_X0_draw : Room := { frames := 1, cells := 0, slots := 0, locals := 24 }
theorem nd_X0_draw : yX0_draw.cls = RX0 ∧ yX0_draw.cls ≠ "java/lang/invoke/MethodHandle" ∧ yX0_draw.cls ≠ "java/lang/invoke/VarHandle" ∧ (parseMethodDescriptor yX0_draw.desc).map (fun d => d.parameters.length) = some 1 := by decide +kernel
theorem inm_X0_draw_0 : ∀ w ∈ u_ws RX0 TX0 (xg_N 0), w ∈ wsX0_draw := fun _ h9 => List.mem_cons_of_mem _ (List.mem_append_right _ h9)
set_option maxHeartbeats 4000000 in
set_option maxRecDepth 100000 in
theorem met_X0_draw (Y : xg_Y) (this : Nat) (x1 : Int32) : xg_MI yX0_draw wsX0_draw rm_X0_draw Y (fun zs => [va_rf (some this), .int x1]) (fun Q h => wp_X0_draw Y Q this x1 h) := by
  refine xg_startI (cc := cX0_draw) (maxL := 2) (own := RX0) (by decide) rfl rfl (fun zs => Nat.le_of_ble_eq_true rfl) (fun X Q h C hnL E hw => ?_)
  unfold wp_X0_draw at hw
  obtain ⟨hthis, hw⟩ := hw
  refine xg_sub (lv2 := [(0, va_rf (some this)), (1, .int x1)]) [0, 1] rfl ?_
  have hF := hw
  refine xg_aload_n (pc := 0) C dX0_draw_0 0 rfl ?_
  refine xg_aload_n (pc := 1) C dX0_draw_1 0 rfl ?_
  refine xg_geti (pc := 2) (C1 := RX0) (T1 := TX0) (ci := 0) (ref := "SandGlasses$Bench") C inm_X0_draw_0 rfl (by decide) 8 (by decide) rfl dX0_draw_2 (List.mem_of_getElem? (i := 1) rfl) rfl rfl hthis ?_
  refine xg_ldc (pc := 5) (v := 1103515245) C dX0_draw_5 (List.mem_of_getElem? (i := 2) rfl) ?_
  refine xg_imul (pc := 7) C dX0_draw_7 ?_
  refine xg_sipush (pc := 8) (v := 12345) C dX0_draw_8 (by decide) ?_
  refine xg_iadd (pc := 11) C dX0_draw_11 ?_
  refine xg_puti (pc := 12) (C1 := RX0) (T1 := TX0) (ci := 0) (ref := "SandGlasses$Bench") C inm_X0_draw_0 rfl (by decide) tyX0 tyX0_ok nmX0 8 (by decide) rfl dX0_draw_12 (List.mem_of_getElem? (i := 1) rfl) rfl rfl (tyX0_ok 8 (by decide)) rfl hthis (fun h1 eh1 => ?_)
  have hF := hF h1 eh1
  refine xg_aload_n (pc := 15) C dX0_draw_15 0 rfl ?_
  refine xg_geti (pc := 16) (C1 := RX0) (T1 := TX0) (ci := 0) (ref := "SandGlasses$Bench") C inm_X0_draw_0 rfl (by decide) 8 (by decide) rfl dX0_draw_16 (List.mem_of_getElem? (i := 1) rfl) rfl rfl hthis ?_
  refine xg_bipush (pc := 19) (v := 16) C dX0_draw_19 (by decide) ?_
  refine xg_iushr (pc := 21) C dX0_draw_21 ?_
  refine xg_iconst (pc := 22) (v := 1) C dX0_draw_22 (by decide) ?_
  refine xg_iload_n (pc := 23) C dX0_draw_23 1 rfl ?_
  refine xg_mmax (pc := 24) C (List.mem_of_getElem? (i := 3) rfl) (List.mem_of_getElem? (i := 4) rfl) (List.mem_of_getElem? (i := 5) rfl) (List.mem_of_getElem? (i := 6) rfl) (Nat.le_of_ble_eq_true rfl) (Nat.le_of_ble_eq_true rfl) (Nat.zero_le _) (Nat.zero_le _) dX0_draw_24 ?_
  refine xg_topi (pc := 27) (fun z2 ez2 => ?_)
  have hF := hF z2 ez2
  obtain ⟨hne, hF⟩ := hF
  refine xg_irem (pc := 27) C dX0_draw_27 hne ?_
  exact xg_retI (pc := 28) C E dX0_draw_28 hF
def rm_X0_drawnKind : Room := { frames := 0, cells := 0, slots := 0, locals := 0 }
theorem nd_X0_drawnKind : yX0_drawnKind.cls = RX0 ∧ yX0_drawnKind.cls ≠ "java/lang/invoke/MethodHandle" ∧ yX0_drawnKind.cls ≠ "java/lang/invoke/VarHandle" ∧ (parseMethodDescriptor yX0_drawnKind.desc).map (fun d => d.parameters.length) = some 1 := by decide +kernel
set_option maxHeartbeats 4000000 in
set_option maxRecDepth 100000 in
theorem met_X0_drawnKind (Y : xg_Y) (x0 : Int32) : xg_MI yX0_drawnKind wsX0_drawnKind rm_X0_drawnKind Y (fun zs => [.int x0]) (fun Q h => wp_X0_drawnKind Y Q x0 h) := by
  refine xg_startI (cc := cX0_drawnKind) (maxL := 1) (own := RX0) (by decide) rfl rfl (fun zs => Nat.le_of_ble_eq_true rfl) (fun X Q h C hnL E hw => ?_)
  unfold wp_X0_drawnKind at hw
  refine xg_sub (lv2 := [(0, .int x0)]) [0] rfl ?_
  have hF := hw
  refine xg_iload_n (pc := 0) C dX0_drawnKind_0 0 rfl ?_
  refine xg_iconst (pc := 1) (v := 2) C dX0_drawnKind_1 (by decide) ?_
  refine xg_icmp_gt (pc := 2) 7 C dX0_drawnKind_2 (by decide) (fun hc => ?_) (fun hc => ?_)
  · have hF := hF.1 hc
    refine xg_iload_n (pc := 7) C dX0_drawnKind_7 0 rfl ?_
    refine xg_iconst (pc := 8) (v := 5) C dX0_drawnKind_8 (by decide) ?_
    refine xg_icmp_gt (pc := 9) 14 C dX0_drawnKind_9 (by decide) (fun hc => ?_) (fun hc => ?_)
    · have hF := hF.1 hc
      refine xg_iload_n (pc := 14) C dX0_drawnKind_14 0 rfl ?_
      refine xg_bipush (pc := 15) (v := 6) C dX0_drawnKind_15 (by decide) ?_
      refine xg_icmp_ne (pc := 17) 22 C dX0_drawnKind_17 (by decide) (fun hc => ?_) (fun hc => ?_)
      · have hF := hF.1 hc
        refine xg_iload_n (pc := 22) C dX0_drawnKind_22 0 rfl ?_
        refine xg_bipush (pc := 23) (v := 8) C dX0_drawnKind_23 (by decide) ?_
        refine xg_icmp_gt (pc := 25) 32 C dX0_drawnKind_25 (by decide) (fun hc => ?_) (fun hc => ?_)
        · have hF := hF.1 hc
          refine xg_iconst (pc := 32) (v := 4) C dX0_drawnKind_32 (by decide) ?_
          exact xg_retI (pc := 33) C E dX0_drawnKind_33 hF
        · have hF := hF.2 hc
          refine xg_iconst (pc := 28) (v := 3) C dX0_drawnKind_28 (by decide) ?_
          refine xg_goto (pc := 29) 33 C dX0_drawnKind_29 (by decide) ?_
          exact xg_retI (pc := 33) C E dX0_drawnKind_33 hF
      · have hF := hF.2 hc
        refine xg_iconst (pc := 20) (v := 2) C dX0_drawnKind_20 (by decide) ?_
        exact xg_retI (pc := 21) C E dX0_drawnKind_21 hF
    · have hF := hF.2 hc
      refine xg_iconst (pc := 12) (v := 1) C dX0_drawnKind_12 (by decide) ?_
      exact xg_retI (pc := 13) C E dX0_drawnKind_13 hF
  · have hF := hF.2 hc
    refine xg_iconst (pc := 5) (v := 0) C dX0_drawnKind_5 (by decide) ?_
    exact xg_retI (pc := 6) C E dX0_drawnKind_6 hF
def rm_X0_keenest : Room := { frames := 0, cells := 0, slots := 0, locals := 0 }
theorem nd_X0_keenest : yX0_keenest.cls = RX0 ∧ yX0_keenest.cls ≠ "java/lang/invoke/MethodHandle" ∧ yX0_keenest.cls ≠ "java/lang/invoke/VarHandle" ∧ (parseMethodDescriptor yX0_keenest.desc).map (fun d => d.parameters.length) = some 0 := by decide +kernel
theorem inm_X0_keenest_0 : ∀ w ∈ u_ws RX0 TX0 (xg_N 0), w ∈ wsX0_keenest := fun _ h9 => List.mem_cons_of_mem _ (List.mem_append_left _ (List.mem_append_right _ h9))
theorem inm_X0_keenest_5 : ∀ w ∈ u_ws RX5 TX5 (xg_N 5), w ∈ wsX0_keenest := fun _ h9 => List.mem_cons_of_mem _ (List.mem_append_right _ h9)
set_option maxHeartbeats 4000000 in
set_option maxRecDepth 100000 in
theorem met_X0_keenest (Y : xg_Y) (this : Nat) : xg_MI yX0_keenest wsX0_keenest rm_X0_keenest Y (fun zs => [va_rf (some this)]) (fun Q h => wp_X0_keenest Y Q this h) := by
  refine xg_startI (cc := cX0_keenest) (maxL := 4) (own := RX0) (by decide) rfl rfl (fun zs => Nat.le_of_ble_eq_true rfl) (fun X Q h C hnL E hw => ?_)
  unfold wp_X0_keenest at hw
  obtain ⟨hthis, hw⟩ := hw
  refine xg_sub (lv2 := [(0, va_rf (some this))]) [0] rfl ?_
  refine mg_use (hw (fun (y1 : Int32) (y2 : Int32) (y3 : Int32) (h : xg_H) => xg_W X 0 0 Y 6 [(0, va_rf (some this)), (1, .int y1), (2, .int y2), (3, .int y3)] [] h) (fun (y1 : Int32) (y2 : Int32) (y3 : Int32) (h : xg_H) => xg_W X 0 0 Y 39 [(0, va_rf (some this)), (1, .int y1), (2, .int y2), (3, .int y3)] [] h) ?_ ?_) (fun hF => ?_)
  · intro y1 y2 y3 h hF
    refine xg_iload_n (pc := 6) C dX0_keenest_6 3 rfl ?_
    refine xg_aload_n (pc := 7) C dX0_keenest_7 0 rfl ?_
    refine xg_geti (pc := 8) (C1 := RX0) (T1 := TX0) (ci := 0) (ref := "SandGlasses$Bench") C inm_X0_keenest_0 rfl (by decide) 6 (by decide) rfl dX0_keenest_8 (List.mem_of_getElem? (i := 1) rfl) rfl rfl hthis ?_
    refine xg_icmp_ge (pc := 11) 45 C dX0_keenest_11 (by decide) (fun hc => ?_) (fun hc => ?_)
    · have hF := hF.1 hc
      refine xg_iload_n (pc := 45) C dX0_keenest_45 1 rfl ?_
      exact xg_retI (pc := 46) C E dX0_keenest_46 hF
    · have hF := hF.2 hc
      refine xg_aload_n (pc := 14) C dX0_keenest_14 0 rfl ?_
      refine xg_getr (pc := 15) (C1 := RX0) (T1 := TX0) (ci := 0) (ref := "SandGlasses$Bench") C inm_X0_keenest_0 rfl (by decide) 5 (by decide) rfl dX0_keenest_15 (List.mem_of_getElem? (i := 2) rfl) rfl rfl hthis ?_
      refine xg_iload_n (pc := 18) C dX0_keenest_18 3 rfl ?_
      obtain ⟨a1, ha1, hka1, hF⟩ := hF
      obtain ⟨hi, hF⟩ := hF
      refine xg_aald (pc := 19) (c9 := 26) (C9 := "SandGlasses$Glass") C ha1 hka1 (by decide) rfl hi dX0_keenest_19 ?_
      obtain ⟨a2, ha2, hka2, hF⟩ := hF
      refine xg_geti (pc := 20) (C1 := RX5) (T1 := TX5) (ci := 5) (ref := "SandGlasses$Glass") C inm_X0_keenest_5 rfl (by decide) 3 (by decide) rfl dX0_keenest_20 (List.mem_of_getElem? (i := 3) rfl) rfl ha2 hka2 ?_
      refine xg_iload_n (pc := 23) C dX0_keenest_23 2 rfl ?_
      refine xg_icmp_le (pc := 24) 39 C dX0_keenest_24 (by decide) (fun hc => ?_) (fun hc => ?_)
      · have hF := hF.1 hc
        exact hF
      · have hF := hF.2 hc
        refine xg_iload_n (pc := 27) C dX0_keenest_27 3 rfl ?_
        refine xg_istore_n (pc := 28) (lv2 := [(1, .int y3), (0, va_rf (some this)), (2, .int y2), (3, .int y3)]) C dX0_keenest_28 4 hnL (by decide) rfl ?_
        refine xg_aload_n (pc := 29) C dX0_keenest_29 1 rfl ?_
        refine xg_getr (pc := 30) (C1 := RX0) (T1 := TX0) (ci := 0) (ref := "SandGlasses$Bench") C inm_X0_keenest_0 rfl (by decide) 5 (by decide) rfl dX0_keenest_30 (List.mem_of_getElem? (i := 2) rfl) rfl rfl hthis ?_
        refine xg_iload_n (pc := 33) C dX0_keenest_33 3 rfl ?_
        obtain ⟨hi, hF⟩ := hF
        refine xg_aald (pc := 34) (c9 := 26) (C9 := "SandGlasses$Glass") C ha1 hka1 (by decide) rfl hi dX0_keenest_34 ?_
        refine xg_geti (pc := 35) (C1 := RX5) (T1 := TX5) (ci := 5) (ref := "SandGlasses$Glass") C inm_X0_keenest_5 rfl (by decide) 3 (by decide) rfl dX0_keenest_35 (List.mem_of_getElem? (i := 3) rfl) rfl ha2 hka2 ?_
        refine xg_topi (pc := 38) (fun z3 ez3 => ?_)
        have hF := hF z3 ez3
        refine xg_istore_n (pc := 38) (lv2 := [(2, .int z3), (1, .int y3), (0, va_rf (some this)), (3, .int y3)]) C dX0_keenest_38 4 hnL (by decide) rfl ?_
        refine xg_sub (lv2 := [(0, va_rf (some this)), (1, .int y3), (2, .int z3), (3, .int y3)]) [2, 1, 0, 3] rfl ?_
        exact hF
  · intro y1 y2 y3 h hF
    obtain ⟨z4, ez4⟩ : ∃ y : Int32, y = y3 + 1 := ⟨_, rfl⟩
    have hF := hF z4 ez4
    refine xg_iinc (pc := 39) (v := z4) (lv2 := [(3, .int z4), (0, va_rf (some this)), (1, .int y1), (2, .int y2)]) C dX0_keenest_39 3 rfl (by rw [ez4]; rfl) 4 hnL (by decide) rfl ?_
    refine xg_goto (pc := 42) 6 C dX0_keenest_42 (by decide) ?_
    refine xg_sub (lv2 := [(0, va_rf (some this)), (1, .int y1), (2, .int y2), (3, .int z4)]) [1, 2, 3, 0] rfl ?_
    exact hF
  · skip
    refine xg_iconst (pc := 0) (v := (-1)) C dX0_keenest_0 (by decide) ?_
    refine xg_istore_n (pc := 1) (lv2 := [(1, .int (-1)), (0, va_rf (some this))]) C dX0_keenest_1 4 hnL (by decide) rfl ?_
    refine xg_iconst (pc := 2) (v := 0) C dX0_keenest_2 (by decide) ?_
    refine xg_istore_n (pc := 3) (lv2 := [(2, .int 0), (1, .int (-1)), (0, va_rf (some this))]) C dX0_keenest_3 4 hnL (by decide) rfl ?_
    refine xg_iconst (pc := 4) (v := 0) C dX0_keenest_4 (by decide) ?_
    refine xg_istore_n (pc := 5) (lv2 := [(3, .int 0), (2, .int 0), (1, .int (-1)), (0, va_rf (some this))]) C dX0_keenest_5 4 hnL (by decide) rfl ?_
    refine xg_sub (lv2 := [(0, va_rf (some this)), (1, .int (-1)), (2, .int 0), (3, .int 0)]) [3, 2, 1, 0] rfl ?_
    exact hF
def rm_X0_laidGlasses : Room := { frames := 0, cells := 0, slots := 0, locals := 0 }
theorem nd_X0_laidGlasses : yX0_laidGlasses.cls = RX0 ∧ yX0_laidGlasses.cls ≠ "java/lang/invoke/MethodHandle" ∧ yX0_laidGlasses.cls ≠ "java/lang/invoke/VarHandle" ∧ (parseMethodDescriptor yX0_laidGlasses.desc).map (fun d => d.parameters.length) = some 0 := by decide +kernel
theorem inm_X0_laidGlasses_0 : ∀ w ∈ u_ws RX0 TX0 (xg_N 0), w ∈ wsX0_laidGlasses := fun _ h9 => List.mem_cons_of_mem _ (List.mem_append_left _ (List.mem_append_right _ h9))
theorem inm_X0_laidGlasses_5 : ∀ w ∈ u_ws RX5 TX5 (xg_N 5), w ∈ wsX0_laidGlasses := fun _ h9 => List.mem_cons_of_mem _ (List.mem_append_right _ h9)
set_option maxHeartbeats 4000000 in
set_option maxRecDepth 100000 in
theorem met_X0_laidGlasses (Y : xg_Y) (this : Nat) : xg_MI yX0_laidGlasses wsX0_laidGlasses rm_X0_laidGlasses Y (fun zs => [va_rf (some this)]) (fun Q h => wp_X0_laidGlasses Y Q this h) := by
  refine xg_startI (cc := cX0_laidGlasses) (maxL := 3) (own := RX0) (by decide) rfl rfl (fun zs => Nat.le_of_ble_eq_true rfl) (fun X Q h C hnL E hw => ?_)
  unfold wp_X0_laidGlasses at hw
  obtain ⟨hthis, hw⟩ := hw
  refine xg_sub (lv2 := [(0, va_rf (some this))]) [0] rfl ?_
  refine mg_use (hw (fun (y1 : Int32) (y2 : Int32) (h : xg_H) => xg_W X 0 0 Y 4 [(0, va_rf (some this)), (1, .int y1), (2, .int y2)] [] h) (fun (y2 : Int32) (s0 : Int32) (s1 : Int32) (h : xg_H) => xg_W X 0 0 Y 32 [(0, va_rf (some this)), (2, .int y2)] [.int s0, .int s1] h) ?_ ?_) (fun hF => ?_)
  · intro y1 y2 h hF
    refine xg_iload_n (pc := 4) C dX0_laidGlasses_4 2 rfl ?_
    refine xg_aload_n (pc := 5) C dX0_laidGlasses_5 0 rfl ?_
    refine xg_geti (pc := 6) (C1 := RX0) (T1 := TX0) (ci := 0) (ref := "SandGlasses$Bench") C inm_X0_laidGlasses_0 rfl (by decide) 6 (by decide) rfl dX0_laidGlasses_6 (List.mem_of_getElem? (i := 1) rfl) rfl rfl hthis ?_
    refine xg_icmp_ge (pc := 9) 40 C dX0_laidGlasses_9 (by decide) (fun hc => ?_) (fun hc => ?_)
    · have hF := hF.1 hc
      refine xg_iload_n (pc := 40) C dX0_laidGlasses_40 1 rfl ?_
      exact xg_retI (pc := 41) C E dX0_laidGlasses_41 hF
    · have hF := hF.2 hc
      refine xg_iload_n (pc := 12) C dX0_laidGlasses_12 1 rfl ?_
      refine xg_aload_n (pc := 13) C dX0_laidGlasses_13 0 rfl ?_
      refine xg_getr (pc := 14) (C1 := RX0) (T1 := TX0) (ci := 0) (ref := "SandGlasses$Bench") C inm_X0_laidGlasses_0 rfl (by decide) 5 (by decide) rfl dX0_laidGlasses_14 (List.mem_of_getElem? (i := 2) rfl) rfl rfl hthis ?_
      refine xg_iload_n (pc := 17) C dX0_laidGlasses_17 2 rfl ?_
      obtain ⟨a1, ha1, hka1, hF⟩ := hF
      obtain ⟨hi, hF⟩ := hF
      refine xg_aald (pc := 18) (c9 := 26) (C9 := "SandGlasses$Glass") C ha1 hka1 (by decide) rfl hi dX0_laidGlasses_18 ?_
      obtain ⟨a2, ha2, hka2, hF⟩ := hF
      refine xg_geti (pc := 19) (C1 := RX5) (T1 := TX5) (ci := 5) (ref := "SandGlasses$Glass") C inm_X0_laidGlasses_5 rfl (by decide) 2 (by decide) rfl dX0_laidGlasses_19 (List.mem_of_getElem? (i := 3) rfl) rfl ha2 hka2 ?_
      refine xg_if_eq (pc := 22) 31 C dX0_laidGlasses_22 (by decide) (fun hc => ?_) (fun hc => ?_)
      · have hF := hF.1 hc
        refine xg_iconst (pc := 31) (v := 0) C dX0_laidGlasses_31 (by decide) ?_
        refine xg_sub (lv2 := [(0, va_rf (some this)), (2, .int y2)]) [0, 2] rfl ?_
        exact hF
      · have hF := hF.2 hc
        refine xg_iconst (pc := 25) (v := 1) C dX0_laidGlasses_25 (by decide) ?_
        refine xg_iload_n (pc := 26) C dX0_laidGlasses_26 2 rfl ?_
        refine xg_ishl (pc := 27) C dX0_laidGlasses_27 ?_
        refine xg_goto (pc := 28) 32 C dX0_laidGlasses_28 (by decide) ?_
        refine xg_sub (lv2 := [(0, va_rf (some this)), (2, .int y2)]) [0, 2] rfl ?_
        exact hF
  · intro y2 s0 s1 h hF
    refine xg_ior (pc := 32) C dX0_laidGlasses_32 ?_
    refine xg_topi (pc := 33) (fun z3 ez3 => ?_)
    have hF := hF z3 ez3
    refine xg_istore_n (pc := 33) (lv2 := [(1, .int z3), (0, va_rf (some this)), (2, .int y2)]) C dX0_laidGlasses_33 3 hnL (by decide) rfl ?_
    obtain ⟨z4, ez4⟩ : ∃ y : Int32, y = y2 + 1 := ⟨_, rfl⟩
    have hF := hF z4 ez4
    refine xg_iinc (pc := 34) (v := z4) (lv2 := [(2, .int z4), (1, .int z3), (0, va_rf (some this))]) C dX0_laidGlasses_34 2 rfl (by rw [ez4]; rfl) 3 hnL (by decide) rfl ?_
    refine xg_goto (pc := 37) 4 C dX0_laidGlasses_37 (by decide) ?_
    refine xg_sub (lv2 := [(0, va_rf (some this)), (1, .int z3), (2, .int z4)]) [2, 1, 0] rfl ?_
    exact hF
  · skip
    refine xg_iconst (pc := 0) (v := 0) C dX0_laidGlasses_0 (by decide) ?_
    refine xg_istore_n (pc := 1) (lv2 := [(1, .int 0), (0, va_rf (some this))]) C dX0_laidGlasses_1 3 hnL (by decide) rfl ?_
    refine xg_iconst (pc := 2) (v := 0) C dX0_laidGlasses_2 (by decide) ?_
    refine xg_istore_n (pc := 3) (lv2 := [(2, .int 0), (1, .int 0), (0, va_rf (some this))]) C dX0_laidGlasses_3 3 hnL (by decide) rfl ?_
    refine xg_sub (lv2 := [(0, va_rf (some this)), (1, .int 0), (2, .int 0)]) [2, 1, 0] rfl ?_
    exact hF
def rm_X0_lookAtGlass : Room := { frames := 0, cells := 0, slots := 0, locals := 0 }
theorem nd_X0_lookAtGlass : yX0_lookAtGlass.cls = RX0 ∧ yX0_lookAtGlass.cls ≠ "java/lang/invoke/MethodHandle" ∧ yX0_lookAtGlass.cls ≠ "java/lang/invoke/VarHandle" ∧ (parseMethodDescriptor yX0_lookAtGlass.desc).map (fun d => d.parameters.length) = some 1 := by decide +kernel
theorem inm_X0_lookAtGlass_0 : ∀ w ∈ u_ws RX0 TX0 (xg_N 0), w ∈ wsX0_lookAtGlass := fun _ h9 => List.mem_cons_of_mem _ (List.mem_append_left _ (List.mem_append_right _ h9))
theorem inm_X0_lookAtGlass_5 : ∀ w ∈ u_ws RX5 TX5 (xg_N 5), w ∈ wsX0_lookAtGlass := fun _ h9 => List.mem_cons_of_mem _ (List.mem_append_right _ h9)
set_option maxHeartbeats 4000000 in
set_option maxRecDepth 100000 in
theorem met_X0_lookAtGlass (Y : xg_Y) (this : Nat) (x1 : Int32) : xg_MI yX0_lookAtGlass wsX0_lookAtGlass rm_X0_lookAtGlass Y (fun zs => [va_rf (some this), .int x1]) (fun Q h => wp_X0_lookAtGlass Y Q this x1 h) := by
  refine xg_startI (cc := cX0_lookAtGlass) (maxL := 3) (own := RX0) (by decide) rfl rfl (fun zs => Nat.le_of_ble_eq_true rfl) (fun X Q h C hnL E hw => ?_)
  unfold wp_X0_lookAtGlass at hw
  obtain ⟨hthis, hw⟩ := hw
  refine xg_sub (lv2 := [(0, va_rf (some this)), (1, .int x1)]) [0, 1] rfl ?_
  refine mg_use (hw (fun (y2 : Int32) (h : xg_H) => xg_W X 0 0 Y 2 [(0, va_rf (some this)), (1, .int x1), (2, .int y2)] [] h) ?_) (fun hF => ?_)
  · intro y2 h hF
    refine xg_iload_n (pc := 2) C dX0_lookAtGlass_2 2 rfl ?_
    refine xg_aload_n (pc := 3) C dX0_lookAtGlass_3 0 rfl ?_
    refine xg_geti (pc := 4) (C1 := RX0) (T1 := TX0) (ci := 0) (ref := "SandGlasses$Bench") C inm_X0_lookAtGlass_0 rfl (by decide) 6 (by decide) rfl dX0_lookAtGlass_4 (List.mem_of_getElem? (i := 1) rfl) rfl rfl hthis ?_
    refine xg_icmp_ge (pc := 7) 80 C dX0_lookAtGlass_7 (by decide) (fun hc => ?_) (fun hc => ?_)
    · have hF := hF.1 hc
      refine xg_iconst (pc := 80) (v := (-1)) C dX0_lookAtGlass_80 (by decide) ?_
      exact xg_retI (pc := 81) C E dX0_lookAtGlass_81 hF
    · have hF := hF.2 hc
      refine xg_iload_n (pc := 10) C dX0_lookAtGlass_10 1 rfl ?_
      refine xg_bipush (pc := 11) (v := 10) C dX0_lookAtGlass_11 (by decide) ?_
      refine xg_iload_n (pc := 13) C dX0_lookAtGlass_13 2 rfl ?_
      refine xg_iadd (pc := 14) C dX0_lookAtGlass_14 ?_
      refine xg_icmp_ne (pc := 15) 28 C dX0_lookAtGlass_15 (by decide) (fun hc => ?_) (fun hc => ?_)
      · have hF := hF.1 hc
        refine xg_iload_n (pc := 28) C dX0_lookAtGlass_28 1 rfl ?_
        refine xg_bipush (pc := 29) (v := 20) C dX0_lookAtGlass_29 (by decide) ?_
        refine xg_iload_n (pc := 31) C dX0_lookAtGlass_31 2 rfl ?_
        refine xg_iadd (pc := 32) C dX0_lookAtGlass_32 ?_
        refine xg_icmp_ne (pc := 33) 56 C dX0_lookAtGlass_33 (by decide) (fun hc => ?_) (fun hc => ?_)
        · have hF := hF.1 hc
          refine xg_iload_n (pc := 56) C dX0_lookAtGlass_56 1 rfl ?_
          refine xg_bipush (pc := 57) (v := 30) C dX0_lookAtGlass_57 (by decide) ?_
          refine xg_iload_n (pc := 59) C dX0_lookAtGlass_59 2 rfl ?_
          refine xg_iadd (pc := 60) C dX0_lookAtGlass_60 ?_
          refine xg_icmp_ne (pc := 61) 74 C dX0_lookAtGlass_61 (by decide) (fun hc => ?_) (fun hc => ?_)
          · have hF := hF.1 hc
            obtain ⟨z1, ez1⟩ : ∃ y : Int32, y = y2 + 1 := ⟨_, rfl⟩
            have hF := hF z1 ez1
            refine xg_iinc (pc := 74) (v := z1) (lv2 := [(2, .int z1), (0, va_rf (some this)), (1, .int x1)]) C dX0_lookAtGlass_74 2 rfl (by rw [ez1]; rfl) 3 hnL (by decide) rfl ?_
            refine xg_goto (pc := 77) 2 C dX0_lookAtGlass_77 (by decide) ?_
            refine xg_sub (lv2 := [(0, va_rf (some this)), (1, .int x1), (2, .int z1)]) [1, 2, 0] rfl ?_
            exact hF
          · have hF := hF.2 hc
            refine xg_aload_n (pc := 64) C dX0_lookAtGlass_64 0 rfl ?_
            refine xg_getr (pc := 65) (C1 := RX0) (T1 := TX0) (ci := 0) (ref := "SandGlasses$Bench") C inm_X0_lookAtGlass_0 rfl (by decide) 5 (by decide) rfl dX0_lookAtGlass_65 (List.mem_of_getElem? (i := 2) rfl) rfl rfl hthis ?_
            refine xg_iload_n (pc := 68) C dX0_lookAtGlass_68 2 rfl ?_
            obtain ⟨a2, ha2, hka2, hF⟩ := hF
            obtain ⟨hi, hF⟩ := hF
            refine xg_aald (pc := 69) (c9 := 26) (C9 := "SandGlasses$Glass") C ha2 hka2 (by decide) rfl hi dX0_lookAtGlass_69 ?_
            obtain ⟨a3, ha3, hka3, hF⟩ := hF
            refine xg_geti (pc := 70) (C1 := RX5) (T1 := TX5) (ci := 5) (ref := "SandGlasses$Glass") C inm_X0_lookAtGlass_5 rfl (by decide) 3 (by decide) rfl dX0_lookAtGlass_70 (List.mem_of_getElem? (i := 5) rfl) rfl ha3 hka3 ?_
            exact xg_retI (pc := 73) C E dX0_lookAtGlass_73 hF
        · have hF := hF.2 hc
          refine xg_aload_n (pc := 36) C dX0_lookAtGlass_36 0 rfl ?_
          refine xg_getr (pc := 37) (C1 := RX0) (T1 := TX0) (ci := 0) (ref := "SandGlasses$Bench") C inm_X0_lookAtGlass_0 rfl (by decide) 5 (by decide) rfl dX0_lookAtGlass_37 (List.mem_of_getElem? (i := 2) rfl) rfl rfl hthis ?_
          refine xg_iload_n (pc := 40) C dX0_lookAtGlass_40 2 rfl ?_
          obtain ⟨a4, ha4, hka4, hF⟩ := hF
          obtain ⟨hi, hF⟩ := hF
          refine xg_aald (pc := 41) (c9 := 26) (C9 := "SandGlasses$Glass") C ha4 hka4 (by decide) rfl hi dX0_lookAtGlass_41 ?_
          obtain ⟨a5, ha5, hka5, hF⟩ := hF
          refine xg_geti (pc := 42) (C1 := RX5) (T1 := TX5) (ci := 5) (ref := "SandGlasses$Glass") C inm_X0_lookAtGlass_5 rfl (by decide) 0 (by decide) rfl dX0_lookAtGlass_42 (List.mem_of_getElem? (i := 4) rfl) rfl ha5 hka5 ?_
          refine xg_aload_n (pc := 45) C dX0_lookAtGlass_45 0 rfl ?_
          refine xg_getr (pc := 46) (C1 := RX0) (T1 := TX0) (ci := 0) (ref := "SandGlasses$Bench") C inm_X0_lookAtGlass_0 rfl (by decide) 5 (by decide) rfl dX0_lookAtGlass_46 (List.mem_of_getElem? (i := 2) rfl) rfl rfl hthis ?_
          refine xg_iload_n (pc := 49) C dX0_lookAtGlass_49 2 rfl ?_
          obtain ⟨hi, hF⟩ := hF
          refine xg_aald (pc := 50) (c9 := 26) (C9 := "SandGlasses$Glass") C ha4 hka4 (by decide) rfl hi dX0_lookAtGlass_50 ?_
          refine xg_geti (pc := 51) (C1 := RX5) (T1 := TX5) (ci := 5) (ref := "SandGlasses$Glass") C inm_X0_lookAtGlass_5 rfl (by decide) 1 (by decide) rfl dX0_lookAtGlass_51 (List.mem_of_getElem? (i := 3) rfl) rfl ha5 hka5 ?_
          refine xg_isub (pc := 54) C dX0_lookAtGlass_54 ?_
          exact xg_retI (pc := 55) C E dX0_lookAtGlass_55 hF
      · have hF := hF.2 hc
        refine xg_aload_n (pc := 18) C dX0_lookAtGlass_18 0 rfl ?_
        refine xg_getr (pc := 19) (C1 := RX0) (T1 := TX0) (ci := 0) (ref := "SandGlasses$Bench") C inm_X0_lookAtGlass_0 rfl (by decide) 5 (by decide) rfl dX0_lookAtGlass_19 (List.mem_of_getElem? (i := 2) rfl) rfl rfl hthis ?_
        refine xg_iload_n (pc := 22) C dX0_lookAtGlass_22 2 rfl ?_
        obtain ⟨a6, ha6, hka6, hF⟩ := hF
        obtain ⟨hi, hF⟩ := hF
        refine xg_aald (pc := 23) (c9 := 26) (C9 := "SandGlasses$Glass") C ha6 hka6 (by decide) rfl hi dX0_lookAtGlass_23 ?_
        obtain ⟨a7, ha7, hka7, hF⟩ := hF
        refine xg_geti (pc := 24) (C1 := RX5) (T1 := TX5) (ci := 5) (ref := "SandGlasses$Glass") C inm_X0_lookAtGlass_5 rfl (by decide) 1 (by decide) rfl dX0_lookAtGlass_24 (List.mem_of_getElem? (i := 3) rfl) rfl ha7 hka7 ?_
        exact xg_retI (pc := 27) C E dX0_lookAtGlass_27 hF
  · skip
    refine xg_iconst (pc := 0) (v := 0) C dX0_lookAtGlass_0 (by decide) ?_
    refine xg_istore_n (pc := 1) (lv2 := [(2, .int 0), (0, va_rf (some this)), (1, .int x1)]) C dX0_lookAtGlass_1 3 hnL (by decide) rfl ?_
    refine xg_sub (lv2 := [(0, va_rf (some this)), (1, .int x1), (2, .int 0)]) [1, 2, 0] rfl ?_
    exact hF
def rm_X0_look : Room := { frames := 1, cells := 0, slots := 0, locals := 22 }
theorem nd_X0_look : yX0_look.cls = RX0 ∧ yX0_look.cls ≠ "java/lang/invoke/MethodHandle" ∧ yX0_look.cls ≠ "java/lang/invoke/VarHandle" ∧ (parseMethodDescriptor yX0_look.desc).map (fun d => d.parameters.length) = some 1 := by decide +kernel
theorem inm_X0_look_0 : ∀ w ∈ u_ws RX0 TX0 (xg_N 0), w ∈ wsX0_look := fun _ h9 => List.mem_cons_of_mem _ (List.mem_append_left _ (List.mem_append_right _ h9))
set_option maxHeartbeats 4000000 in
set_option maxRecDepth 100000 in
theorem met_X0_look (Y : xg_Y) (this : Nat) (x1 : Int32) : xg_MI yX0_look wsX0_look rm_X0_look Y (fun zs => [va_rf (some this), .int x1]) (fun Q h => wp_X0_look Y Q this x1 h) := by
  refine xg_startI (cc := cX0_look) (maxL := 2) (own := RX0) (by decide) rfl rfl (fun zs => Nat.le_of_ble_eq_true rfl) (fun X Q h C hnL E hw => ?_)
  unfold wp_X0_look at hw
  obtain ⟨hthis, hw⟩ := hw
  refine xg_sub (lv2 := [(0, va_rf (some this)), (1, .int x1)]) [0, 1] rfl ?_
  have hF := hw
  refine xg_iload_n (pc := 0) C dX0_look_0 1 rfl ?_
  by_cases hs0 : x1 = 0
  · have hF := hF.1 hs0
    refine xg_tabIn (pc := 1) 32 C dX0_look_1 (by rw [hs0]; decide) (by rw [hs0]; decide) (off := 31) (by rw [hs0]; rfl) (by decide) ?_
    refine xg_aload_n (pc := 32) C dX0_look_32 0 rfl ?_
    refine xg_geti (pc := 33) (C1 := RX0) (T1 := TX0) (ci := 0) (ref := "SandGlasses$Bench") C inm_X0_look_0 rfl (by decide) 7 (by decide) rfl dX0_look_33 (List.mem_of_getElem? (i := 1) rfl) rfl rfl hthis ?_
    exact xg_retI (pc := 36) C E dX0_look_36 hF
  have hF := hF.2
  by_cases hs1 : x1 = 1
  · have hF := hF.1 hs1
    refine xg_tabIn (pc := 1) 37 C dX0_look_1 (by rw [hs1]; decide) (by rw [hs1]; decide) (off := 36) (by rw [hs1]; rfl) (by decide) ?_
    refine xg_aload_n (pc := 37) C dX0_look_37 0 rfl ?_
    refine xg_cvI (pc := 38) (C1 := RX0) (T1 := TX0) (ci := 0) C (fun zs => []) rfl hthis (by decide) rfl (met_X0_laidGlasses Y this) gX0_look_X0_laidGlasses rfl ⟨rfl, rfl⟩ nd_X0_laidGlasses ⟨Nat.le_of_ble_eq_true rfl, Nat.le_of_ble_eq_true rfl⟩ rfl rfl (Nat.le_of_ble_eq_true rfl) ⟨Nat.zero_le _, Nat.zero_le _⟩ dX0_look_38 hF (fun r2 h1 hF => ?_)
    exact xg_retI (pc := 41) C E dX0_look_41 hF
  have hF := hF.2
  by_cases hs2 : x1 = 2
  · have hF := hF.1 hs2
    refine xg_tabIn (pc := 1) 42 C dX0_look_1 (by rw [hs2]; decide) (by rw [hs2]; decide) (off := 41) (by rw [hs2]; rfl) (by decide) ?_
    refine xg_aload_n (pc := 42) C dX0_look_42 0 rfl ?_
    refine xg_geti (pc := 43) (C1 := RX0) (T1 := TX0) (ci := 0) (ref := "SandGlasses$Bench") C inm_X0_look_0 rfl (by decide) 0 (by decide) rfl dX0_look_43 (List.mem_of_getElem? (i := 2) rfl) rfl rfl hthis ?_
    exact xg_retI (pc := 46) C E dX0_look_46 hF
  have hF := hF.2
  by_cases hs3 : x1 = 3
  · have hF := hF.1 hs3
    refine xg_tabIn (pc := 1) 47 C dX0_look_1 (by rw [hs3]; decide) (by rw [hs3]; decide) (off := 46) (by rw [hs3]; rfl) (by decide) ?_
    refine xg_aload_n (pc := 47) C dX0_look_47 0 rfl ?_
    refine xg_geti (pc := 48) (C1 := RX0) (T1 := TX0) (ci := 0) (ref := "SandGlasses$Bench") C inm_X0_look_0 rfl (by decide) 4 (by decide) rfl dX0_look_48 (List.mem_of_getElem? (i := 3) rfl) rfl rfl hthis ?_
    exact xg_retI (pc := 51) C E dX0_look_51 hF
  have hF := hF.2
  have hF := hF hs0 hs1 hs2 hs3
  refine xg_tabOut (pc := 1) 52 C dX0_look_1 (mg_swd x1 0 3 (fun v h1 h2 => ?_)) (by decide) ?_
  · rcases (show v = 0 ∨ v = 1 ∨ v = 2 ∨ v = 3 by omega) with rfl | rfl | rfl | rfl
    · exact hs0
    · exact hs1
    · exact hs2
    · exact hs3
  refine xg_aload_n (pc := 52) C dX0_look_52 0 rfl ?_
  refine xg_iload_n (pc := 53) C dX0_look_53 1 rfl ?_
  refine xg_cvI (pc := 54) (C1 := RX0) (T1 := TX0) (ci := 0) C (fun zs => [.int x1]) rfl hthis (by decide) rfl (met_X0_lookAtGlass Y this x1) gX0_look_X0_lookAtGlass rfl ⟨rfl, rfl⟩ nd_X0_lookAtGlass ⟨Nat.le_of_ble_eq_true rfl, Nat.le_of_ble_eq_true rfl⟩ rfl rfl (Nat.le_of_ble_eq_true rfl) ⟨Nat.zero_le _, Nat.zero_le _⟩ dX0_look_54 hF (fun r4 h3 hF => ?_)
  exact xg_retI (pc := 57) C E dX0_look_57 hF
def rm_X5_runs : Room := { frames := 0, cells := 0, slots := 0, locals := 0 }
theorem nd_X5_runs : yX5_runs.cls = RX5 ∧ yX5_runs.cls ≠ "java/lang/invoke/MethodHandle" ∧ yX5_runs.cls ≠ "java/lang/invoke/VarHandle" ∧ (parseMethodDescriptor yX5_runs.desc).map (fun d => d.parameters.length) = some 0 := by decide +kernel
theorem inm_X5_runs_5 : ∀ w ∈ u_ws RX5 TX5 (xg_N 5), w ∈ wsX5_runs := fun _ h9 => List.mem_cons_of_mem _ (List.mem_append_right _ h9)
set_option maxHeartbeats 4000000 in
set_option maxRecDepth 100000 in
theorem met_X5_runs (Y : xg_Y) (this : Nat) : xg_MI yX5_runs wsX5_runs rm_X5_runs Y (fun zs => [va_rf (some this)]) (fun Q h => wp_X5_runs Y Q this h) := by
  refine xg_startI (cc := cX5_runs) (maxL := 1) (own := RX5) (by decide) rfl rfl (fun zs => Nat.le_of_ble_eq_true rfl) (fun X Q h C hnL E hw => ?_)
  unfold wp_X5_runs at hw
  obtain ⟨hthis, hw⟩ := hw
  refine xg_sub (lv2 := [(0, va_rf (some this))]) [0] rfl ?_
  have hF := hw
  refine xg_aload_n (pc := 0) C dX5_runs_0 0 rfl ?_
  refine xg_geti (pc := 1) (C1 := RX5) (T1 := TX5) (ci := 5) (ref := "SandGlasses$Glass") C inm_X5_runs_5 rfl (by decide) 2 (by decide) rfl dX5_runs_1 (List.mem_of_getElem? (i := 1) rfl) rfl rfl hthis ?_
  refine xg_if_ne (pc := 4) 18 C dX5_runs_4 (by decide) (fun hc => ?_) (fun hc => ?_)
  · have hF := hF.1 hc
    refine xg_iconst (pc := 18) (v := 0) C dX5_runs_18 (by decide) ?_
    exact xg_retZ (pc := 19) C E (Or.inl rfl) dX5_runs_19 hF
  · have hF := hF.2 hc
    refine xg_aload_n (pc := 7) C dX5_runs_7 0 rfl ?_
    refine xg_geti (pc := 8) (C1 := RX5) (T1 := TX5) (ci := 5) (ref := "SandGlasses$Glass") C inm_X5_runs_5 rfl (by decide) 1 (by decide) rfl dX5_runs_8 (List.mem_of_getElem? (i := 2) rfl) rfl rfl hthis ?_
    refine xg_if_le (pc := 11) 18 C dX5_runs_11 (by decide) (fun hc => ?_) (fun hc => ?_)
    · have hF := hF.1 hc
      refine xg_iconst (pc := 18) (v := 0) C dX5_runs_18 (by decide) ?_
      exact xg_retZ (pc := 19) C E (Or.inl rfl) dX5_runs_19 hF
    · have hF := hF.2 hc
      refine xg_iconst (pc := 14) (v := 1) C dX5_runs_14 (by decide) ?_
      refine xg_goto (pc := 15) 19 C dX5_runs_15 (by decide) ?_
      exact xg_retZ (pc := 19) C E (Or.inr rfl) dX5_runs_19 hF
def rm_X5_passMinute : Room := { frames := 0, cells := 0, slots := 0, locals := 0 }
theorem nd_X5_passMinute : yX5_passMinute.cls = RX5 ∧ yX5_passMinute.cls ≠ "java/lang/invoke/MethodHandle" ∧ yX5_passMinute.cls ≠ "java/lang/invoke/VarHandle" ∧ (parseMethodDescriptor yX5_passMinute.desc).map (fun d => d.parameters.length) = some 0 := by decide +kernel
theorem inm_X5_passMinute_5 : ∀ w ∈ u_ws RX5 TX5 (xg_N 5), w ∈ wsX5_passMinute := fun _ h9 => List.mem_cons_of_mem _ (List.mem_append_right _ h9)
set_option maxHeartbeats 4000000 in
set_option maxRecDepth 100000 in
theorem met_X5_passMinute (Y : xg_Y) (this : Nat) : xg_MI yX5_passMinute wsX5_passMinute rm_X5_passMinute Y (fun zs => [va_rf (some this)]) (fun Q h => wp_X5_passMinute Y Q this h) := by
  refine xg_startI (cc := cX5_passMinute) (maxL := 1) (own := RX5) (by decide) rfl rfl (fun zs => Nat.le_of_ble_eq_true rfl) (fun X Q h C hnL E hw => ?_)
  unfold wp_X5_passMinute at hw
  obtain ⟨hthis, hw⟩ := hw
  refine xg_sub (lv2 := [(0, va_rf (some this))]) [0] rfl ?_
  have hF := hw
  refine xg_aload_n (pc := 0) C dX5_passMinute_0 0 rfl ?_
  refine xg_geti (pc := 1) (C1 := RX5) (T1 := TX5) (ci := 5) (ref := "SandGlasses$Glass") C inm_X5_passMinute_5 rfl (by decide) 2 (by decide) rfl dX5_passMinute_1 (List.mem_of_getElem? (i := 1) rfl) rfl rfl hthis ?_
  refine xg_if_ne (pc := 4) 14 C dX5_passMinute_4 (by decide) (fun hc => ?_) (fun hc => ?_)
  · have hF := hF.1 hc
    refine xg_iconst (pc := 14) (v := 0) C dX5_passMinute_14 (by decide) ?_
    exact xg_retZ (pc := 15) C E (Or.inl rfl) dX5_passMinute_15 hF
  · have hF := hF.2 hc
    refine xg_aload_n (pc := 7) C dX5_passMinute_7 0 rfl ?_
    refine xg_geti (pc := 8) (C1 := RX5) (T1 := TX5) (ci := 5) (ref := "SandGlasses$Glass") C inm_X5_passMinute_5 rfl (by decide) 1 (by decide) rfl dX5_passMinute_8 (List.mem_of_getElem? (i := 2) rfl) rfl rfl hthis ?_
    refine xg_if_ne (pc := 11) 16 C dX5_passMinute_11 (by decide) (fun hc => ?_) (fun hc => ?_)
    · have hF := hF.1 hc
      refine xg_aload_n (pc := 16) C dX5_passMinute_16 0 rfl ?_
      refine xg_dup (pc := 17) C dX5_passMinute_17 (xg_rf_cat _) ?_
      refine xg_geti (pc := 18) (C1 := RX5) (T1 := TX5) (ci := 5) (ref := "SandGlasses$Glass") C inm_X5_passMinute_5 rfl (by decide) 1 (by decide) rfl dX5_passMinute_18 (List.mem_of_getElem? (i := 2) rfl) rfl rfl hthis ?_
      refine xg_iconst (pc := 21) (v := 1) C dX5_passMinute_21 (by decide) ?_
      refine xg_isub (pc := 22) C dX5_passMinute_22 ?_
      refine xg_puti (pc := 23) (C1 := RX5) (T1 := TX5) (ci := 5) (ref := "SandGlasses$Glass") C inm_X5_passMinute_5 rfl (by decide) tyX5 tyX5_ok nmX5 1 (by decide) rfl dX5_passMinute_23 (List.mem_of_getElem? (i := 2) rfl) rfl rfl (tyX5_ok 1 (by decide)) rfl hthis (fun h1 eh1 => ?_)
      have hF := hF h1 eh1
      refine xg_aload_n (pc := 26) C dX5_passMinute_26 0 rfl ?_
      refine xg_geti (pc := 27) (C1 := RX5) (T1 := TX5) (ci := 5) (ref := "SandGlasses$Glass") C inm_X5_passMinute_5 rfl (by decide) 1 (by decide) rfl dX5_passMinute_27 (List.mem_of_getElem? (i := 2) rfl) rfl rfl hthis ?_
      refine xg_if_le (pc := 30) 35 C dX5_passMinute_30 (by decide) (fun hc => ?_) (fun hc => ?_)
      · have hF := hF.1 hc
        refine xg_aload_n (pc := 35) C dX5_passMinute_35 0 rfl ?_
        refine xg_dup (pc := 36) C dX5_passMinute_36 (xg_rf_cat _) ?_
        refine xg_geti (pc := 37) (C1 := RX5) (T1 := TX5) (ci := 5) (ref := "SandGlasses$Glass") C inm_X5_passMinute_5 rfl (by decide) 3 (by decide) rfl dX5_passMinute_37 (List.mem_of_getElem? (i := 3) rfl) rfl rfl hthis ?_
        refine xg_iconst (pc := 40) (v := 1) C dX5_passMinute_40 (by decide) ?_
        refine xg_iadd (pc := 41) C dX5_passMinute_41 ?_
        refine xg_puti (pc := 42) (C1 := RX5) (T1 := TX5) (ci := 5) (ref := "SandGlasses$Glass") C inm_X5_passMinute_5 rfl (by decide) tyX5 tyX5_ok nmX5 3 (by decide) rfl dX5_passMinute_42 (List.mem_of_getElem? (i := 3) rfl) rfl rfl (tyX5_ok 3 (by decide)) rfl hthis (fun h2 eh2 => ?_)
        have hF := hF h2 eh2
        refine xg_iconst (pc := 45) (v := 1) C dX5_passMinute_45 (by decide) ?_
        exact xg_retZ (pc := 46) C E (Or.inr rfl) dX5_passMinute_46 hF
      · have hF := hF.2 hc
        refine xg_iconst (pc := 33) (v := 0) C dX5_passMinute_33 (by decide) ?_
        exact xg_retZ (pc := 34) C E (Or.inl rfl) dX5_passMinute_34 hF
    · have hF := hF.2 hc
      refine xg_iconst (pc := 14) (v := 0) C dX5_passMinute_14 (by decide) ?_
      exact xg_retZ (pc := 15) C E (Or.inl rfl) dX5_passMinute_15 hF
def rm_X0_passMinute : Room := { frames := 1, cells := 0, slots := 0, locals := 24 }
theorem nd_X0_passMinute : yX0_passMinute.cls = RX0 ∧ yX0_passMinute.cls ≠ "java/lang/invoke/MethodHandle" ∧ yX0_passMinute.cls ≠ "java/lang/invoke/VarHandle" ∧ (parseMethodDescriptor yX0_passMinute.desc).map (fun d => d.parameters.length) = some 0 := by decide +kernel
theorem inm_X0_passMinute_0 : ∀ w ∈ u_ws RX0 TX0 (xg_N 0), w ∈ wsX0_passMinute := fun _ h9 => List.mem_cons_of_mem _ (List.mem_append_left _ (List.mem_append_right _ h9))
set_option maxHeartbeats 4000000 in
set_option maxRecDepth 100000 in
theorem met_X0_passMinute (Y : xg_Y) (this : Nat) : xg_MV yX0_passMinute wsX0_passMinute rm_X0_passMinute Y (fun zs => [va_rf (some this)]) (fun Q h => wp_X0_passMinute Y Q this h) := by
  refine xg_startV (cc := cX0_passMinute) (maxL := 4) (own := RX0) (by decide) rfl rfl (fun zs => Nat.le_of_ble_eq_true rfl) (fun X Q h C hnL E hw => ?_)
  unfold wp_X0_passMinute at hw
  obtain ⟨hthis, hw⟩ := hw
  refine xg_sub (lv2 := [(0, va_rf (some this))]) [0] rfl ?_
  refine mg_use (hw (fun (y1 : Int32) (y2 : Int32) (y3 : Int32) (h : xg_H) => xg_W X 0 0 Y 16 [(0, va_rf (some this)), (1, .int y1), (2, .int y2), (3, .int y3)] [] h) (fun (y2 : Int32) (h : xg_H) => xg_W X 0 0 Y 74 [(0, va_rf (some this)), (2, .int y2)] [] h) (fun (y1 : Int32) (y2 : Int32) (y3 : Int32) (h : xg_H) => xg_W X 0 0 Y 39 [(0, va_rf (some this)), (1, .int y1), (2, .int y2), (3, .int y3)] [] h) (fun (y2 : Int32) (h : xg_H) => xg_W X 0 0 Y 94 [(0, va_rf (some this)), (2, .int y2)] [] h) (fun (y1 : Int32) (y2 : Int32) (y3 : Int32) (h : xg_H) => xg_W X 0 0 Y 54 [(0, va_rf (some this)), (1, .int y1), (2, .int y2), (3, .int y3)] [] h) ?_ ?_ ?_ ?_ ?_) (fun hF => ?_)
  · intro y1 y2 y3 h hF
    refine xg_iload_n (pc := 16) C dX0_passMinute_16 3 rfl ?_
    refine xg_aload_n (pc := 17) C dX0_passMinute_17 0 rfl ?_
    refine xg_geti (pc := 18) (C1 := RX0) (T1 := TX0) (ci := 0) (ref := "SandGlasses$Bench") C inm_X0_passMinute_0 rfl (by decide) 6 (by decide) rfl dX0_passMinute_18 (List.mem_of_getElem? (i := 2) rfl) rfl rfl hthis ?_
    refine xg_icmp_ge (pc := 21) 60 C dX0_passMinute_21 (by decide) (fun hc => ?_) (fun hc => ?_)
    · have hF := hF.1 hc
      refine xg_iload_n (pc := 60) C dX0_passMinute_60 1 rfl ?_
      refine xg_if_ne (pc := 61) 74 C dX0_passMinute_61 (by decide) (fun hc => ?_) (fun hc => ?_)
      · have hF := hF.1 hc
        refine xg_sub (lv2 := [(0, va_rf (some this)), (2, .int y2)]) [0, 2] rfl ?_
        exact hF
      · have hF := hF.2 hc
        refine xg_aload_n (pc := 64) C dX0_passMinute_64 0 rfl ?_
        refine xg_dup (pc := 65) C dX0_passMinute_65 (xg_rf_cat _) ?_
        refine xg_geti (pc := 66) (C1 := RX0) (T1 := TX0) (ci := 0) (ref := "SandGlasses$Bench") C inm_X0_passMinute_0 rfl (by decide) 3 (by decide) rfl dX0_passMinute_66 (List.mem_of_getElem? (i := 4) rfl) rfl rfl hthis ?_
        refine xg_iconst (pc := 69) (v := 1) C dX0_passMinute_69 (by decide) ?_
        refine xg_iadd (pc := 70) C dX0_passMinute_70 ?_
        refine xg_puti (pc := 71) (C1 := RX0) (T1 := TX0) (ci := 0) (ref := "SandGlasses$Bench") C inm_X0_passMinute_0 rfl (by decide) tyX0 tyX0_ok nmX0 3 (by decide) rfl dX0_passMinute_71 (List.mem_of_getElem? (i := 4) rfl) rfl rfl (tyX0_ok 3 (by decide)) rfl hthis (fun h2 eh2 => ?_)
        have hF := hF h2 eh2
        refine xg_sub (lv2 := [(0, va_rf (some this)), (2, .int y2)]) [0, 2] rfl ?_
        exact hF
    · have hF := hF.2 hc
      refine xg_aload_n (pc := 24) C dX0_passMinute_24 0 rfl ?_
      refine xg_getr (pc := 25) (C1 := RX0) (T1 := TX0) (ci := 0) (ref := "SandGlasses$Bench") C inm_X0_passMinute_0 rfl (by decide) 5 (by decide) rfl dX0_passMinute_25 (List.mem_of_getElem? (i := 3) rfl) rfl rfl hthis ?_
      refine xg_iload_n (pc := 28) C dX0_passMinute_28 3 rfl ?_
      obtain ⟨a3, ha3, hka3, hF⟩ := hF
      obtain ⟨hi, hF⟩ := hF
      refine xg_aald (pc := 29) (c9 := 26) (C9 := "SandGlasses$Glass") C ha3 hka3 (by decide) rfl hi dX0_passMinute_29 ?_
      obtain ⟨a4, ha4, hka4, hF⟩ := hF
      refine xg_cvI (pc := 30) (C1 := RX5) (T1 := TX5) (ci := 5) C (fun zs => []) ha4 hka4 (by decide) rfl (met_X5_runs Y a4) gX0_passMinute_X5_runs rfl ⟨rfl, rfl⟩ nd_X5_runs ⟨Nat.le_of_ble_eq_true rfl, Nat.le_of_ble_eq_true rfl⟩ rfl rfl (Nat.le_of_ble_eq_true rfl) ⟨Nat.zero_le _, Nat.zero_le _⟩ dX0_passMinute_30 hF (fun r6 h5 hF => ?_)
      refine xg_if_eq (pc := 33) 39 C dX0_passMinute_33 (by decide) (fun hc => ?_) (fun hc => ?_)
      · have hF := hF.1 hc
        exact hF
      · have hF := hF.2 hc
        obtain ⟨z7, ez7⟩ : ∃ y : Int32, y = y1 + 1 := ⟨_, rfl⟩
        have hF := hF z7 ez7
        refine xg_iinc (pc := 36) (v := z7) (lv2 := [(1, .int z7), (0, va_rf (some this)), (2, .int y2), (3, .int y3)]) C dX0_passMinute_36 1 rfl (by rw [ez7]; rfl) 4 hnL (by decide) rfl ?_
        refine xg_sub (lv2 := [(0, va_rf (some this)), (1, .int z7), (2, .int y2), (3, .int y3)]) [1, 0, 2, 3] rfl ?_
        exact hF
  · intro y2 h hF
    refine xg_iload_n (pc := 74) C dX0_passMinute_74 1 rfl ?_
    refine xg_if_le (pc := 75) 94 C dX0_passMinute_75 (by decide) (fun hc => ?_) (fun hc => ?_)
    · have hF := hF.1 hc
      exact hF
    · have hF := hF.2 hc
      refine xg_aload_n (pc := 78) C dX0_passMinute_78 0 rfl ?_
      refine xg_geti (pc := 79) (C1 := RX0) (T1 := TX0) (ci := 0) (ref := "SandGlasses$Bench") C inm_X0_passMinute_0 rfl (by decide) 1 (by decide) rfl dX0_passMinute_79 (List.mem_of_getElem? (i := 5) rfl) rfl rfl hthis ?_
      refine xg_iconst (pc := 82) (v := (-1)) C dX0_passMinute_82 (by decide) ?_
      refine xg_icmp_ne (pc := 83) 94 C dX0_passMinute_83 (by decide) (fun hc => ?_) (fun hc => ?_)
      · have hF := hF.1 hc
        exact hF
      · have hF := hF.2 hc
        refine xg_aload_n (pc := 86) C dX0_passMinute_86 0 rfl ?_
        refine xg_aload_n (pc := 87) C dX0_passMinute_87 0 rfl ?_
        refine xg_geti (pc := 88) (C1 := RX0) (T1 := TX0) (ci := 0) (ref := "SandGlasses$Bench") C inm_X0_passMinute_0 rfl (by decide) 7 (by decide) rfl dX0_passMinute_88 (List.mem_of_getElem? (i := 1) rfl) rfl rfl hthis ?_
        refine xg_puti (pc := 91) (C1 := RX0) (T1 := TX0) (ci := 0) (ref := "SandGlasses$Bench") C inm_X0_passMinute_0 rfl (by decide) tyX0 tyX0_ok nmX0 1 (by decide) rfl dX0_passMinute_91 (List.mem_of_getElem? (i := 5) rfl) rfl rfl (tyX0_ok 1 (by decide)) rfl hthis (fun h8 eh8 => ?_)
        have hF := hF h8 eh8
        exact hF
  · intro y1 y2 y3 h hF
    refine xg_aload_n (pc := 39) C dX0_passMinute_39 0 rfl ?_
    refine xg_getr (pc := 40) (C1 := RX0) (T1 := TX0) (ci := 0) (ref := "SandGlasses$Bench") C inm_X0_passMinute_0 rfl (by decide) 5 (by decide) rfl dX0_passMinute_40 (List.mem_of_getElem? (i := 3) rfl) rfl rfl hthis ?_
    refine xg_iload_n (pc := 43) C dX0_passMinute_43 3 rfl ?_
    obtain ⟨a9, ha9, hka9, hF⟩ := hF
    obtain ⟨hi, hF⟩ := hF
    refine xg_aald (pc := 44) (c9 := 26) (C9 := "SandGlasses$Glass") C ha9 hka9 (by decide) rfl hi dX0_passMinute_44 ?_
    obtain ⟨a10, ha10, hka10, hF⟩ := hF
    refine xg_cvI (pc := 45) (C1 := RX5) (T1 := TX5) (ci := 5) C (fun zs => []) ha10 hka10 (by decide) rfl (met_X5_passMinute Y a10) gX0_passMinute_X5_passMinute rfl ⟨rfl, rfl⟩ nd_X5_passMinute ⟨Nat.le_of_ble_eq_true rfl, Nat.le_of_ble_eq_true rfl⟩ rfl rfl (Nat.le_of_ble_eq_true rfl) ⟨Nat.zero_le _, Nat.zero_le _⟩ dX0_passMinute_45 hF (fun r12 h11 hF => ?_)
    refine xg_if_eq (pc := 48) 54 C dX0_passMinute_48 (by decide) (fun hc => ?_) (fun hc => ?_)
    · have hF := hF.1 hc
      exact hF
    · have hF := hF.2 hc
      obtain ⟨z13, ez13⟩ : ∃ y : Int32, y = y2 + 1 := ⟨_, rfl⟩
      have hF := hF z13 ez13
      refine xg_iinc (pc := 51) (v := z13) (lv2 := [(2, .int z13), (0, va_rf (some this)), (1, .int y1), (3, .int y3)]) C dX0_passMinute_51 2 rfl (by rw [ez13]; rfl) 4 hnL (by decide) rfl ?_
      refine xg_sub (lv2 := [(0, va_rf (some this)), (1, .int y1), (2, .int z13), (3, .int y3)]) [1, 2, 0, 3] rfl ?_
      exact hF
  · intro y2 h hF
    refine xg_aload_n (pc := 94) C dX0_passMinute_94 0 rfl ?_
    refine xg_dup (pc := 95) C dX0_passMinute_95 (xg_rf_cat _) ?_
    refine xg_geti (pc := 96) (C1 := RX0) (T1 := TX0) (ci := 0) (ref := "SandGlasses$Bench") C inm_X0_passMinute_0 rfl (by decide) 0 (by decide) rfl dX0_passMinute_96 (List.mem_of_getElem? (i := 6) rfl) rfl rfl hthis ?_
    refine xg_iload_n (pc := 99) C dX0_passMinute_99 1 rfl ?_
    refine xg_iadd (pc := 100) C dX0_passMinute_100 ?_
    refine xg_puti (pc := 101) (C1 := RX0) (T1 := TX0) (ci := 0) (ref := "SandGlasses$Bench") C inm_X0_passMinute_0 rfl (by decide) tyX0 tyX0_ok nmX0 0 (by decide) rfl dX0_passMinute_101 (List.mem_of_getElem? (i := 6) rfl) rfl rfl (tyX0_ok 0 (by decide)) rfl hthis (fun h14 eh14 => ?_)
    have hF := hF h14 eh14
    refine xg_aload_n (pc := 104) C dX0_passMinute_104 0 rfl ?_
    refine xg_aload_n (pc := 105) C dX0_passMinute_105 0 rfl ?_
    refine xg_geti (pc := 106) (C1 := RX0) (T1 := TX0) (ci := 0) (ref := "SandGlasses$Bench") C inm_X0_passMinute_0 rfl (by decide) 2 (by decide) rfl dX0_passMinute_106 (List.mem_of_getElem? (i := 7) rfl) rfl rfl hthis ?_
    refine xg_iload_n (pc := 109) C dX0_passMinute_109 1 rfl ?_
    refine xg_mmax (pc := 110) C (List.mem_of_getElem? (i := 8) rfl) (List.mem_of_getElem? (i := 9) rfl) (List.mem_of_getElem? (i := 10) rfl) (List.mem_of_getElem? (i := 11) rfl) (Nat.le_of_ble_eq_true rfl) (Nat.le_of_ble_eq_true rfl) (Nat.zero_le _) (Nat.zero_le _) dX0_passMinute_110 ?_
    refine xg_topi (pc := 113) (fun z15 ez15 => ?_)
    have hF := hF z15 ez15
    refine xg_puti (pc := 113) (C1 := RX0) (T1 := TX0) (ci := 0) (ref := "SandGlasses$Bench") C inm_X0_passMinute_0 rfl (by decide) tyX0 tyX0_ok nmX0 2 (by decide) rfl dX0_passMinute_113 (List.mem_of_getElem? (i := 7) rfl) rfl rfl (tyX0_ok 2 (by decide)) rfl hthis (fun h16 eh16 => ?_)
    have hF := hF h16 eh16
    exact xg_retV (pc := 116) C E dX0_passMinute_116 hF
  · intro y1 y2 y3 h hF
    obtain ⟨z17, ez17⟩ : ∃ y : Int32, y = y3 + 1 := ⟨_, rfl⟩
    have hF := hF z17 ez17
    refine xg_iinc (pc := 54) (v := z17) (lv2 := [(3, .int z17), (0, va_rf (some this)), (1, .int y1), (2, .int y2)]) C dX0_passMinute_54 3 rfl (by rw [ez17]; rfl) 4 hnL (by decide) rfl ?_
    refine xg_goto (pc := 57) 16 C dX0_passMinute_57 (by decide) ?_
    refine xg_sub (lv2 := [(0, va_rf (some this)), (1, .int y1), (2, .int y2), (3, .int z17)]) [1, 2, 3, 0] rfl ?_
    exact hF
  · skip
    refine xg_aload_n (pc := 0) C dX0_passMinute_0 0 rfl ?_
    refine xg_dup (pc := 1) C dX0_passMinute_1 (xg_rf_cat _) ?_
    refine xg_geti (pc := 2) (C1 := RX0) (T1 := TX0) (ci := 0) (ref := "SandGlasses$Bench") C inm_X0_passMinute_0 rfl (by decide) 7 (by decide) rfl dX0_passMinute_2 (List.mem_of_getElem? (i := 1) rfl) rfl rfl hthis ?_
    refine xg_iconst (pc := 5) (v := 1) C dX0_passMinute_5 (by decide) ?_
    refine xg_iadd (pc := 6) C dX0_passMinute_6 ?_
    refine xg_puti (pc := 7) (C1 := RX0) (T1 := TX0) (ci := 0) (ref := "SandGlasses$Bench") C inm_X0_passMinute_0 rfl (by decide) tyX0 tyX0_ok nmX0 7 (by decide) rfl dX0_passMinute_7 (List.mem_of_getElem? (i := 1) rfl) rfl rfl (tyX0_ok 7 (by decide)) rfl hthis (fun h1 eh1 => ?_)
    have hF := hF h1 eh1
    refine xg_iconst (pc := 10) (v := 0) C dX0_passMinute_10 (by decide) ?_
    refine xg_istore_n (pc := 11) (lv2 := [(1, .int 0), (0, va_rf (some this))]) C dX0_passMinute_11 4 hnL (by decide) rfl ?_
    refine xg_iconst (pc := 12) (v := 0) C dX0_passMinute_12 (by decide) ?_
    refine xg_istore_n (pc := 13) (lv2 := [(2, .int 0), (1, .int 0), (0, va_rf (some this))]) C dX0_passMinute_13 4 hnL (by decide) rfl ?_
    refine xg_iconst (pc := 14) (v := 0) C dX0_passMinute_14 (by decide) ?_
    refine xg_istore_n (pc := 15) (lv2 := [(3, .int 0), (2, .int 0), (1, .int 0), (0, va_rf (some this))]) C dX0_passMinute_15 4 hnL (by decide) rfl ?_
    refine xg_sub (lv2 := [(0, va_rf (some this)), (1, .int 0), (2, .int 0), (3, .int 0)]) [3, 2, 1, 0] rfl ?_
    exact hF
def rm_X5_may : Room := { frames := 0, cells := 0, slots := 0, locals := 0 }
theorem nd_X5_may : yX5_may.cls = RX5 ∧ yX5_may.cls ≠ "java/lang/invoke/MethodHandle" ∧ yX5_may.cls ≠ "java/lang/invoke/VarHandle" ∧ (parseMethodDescriptor yX5_may.desc).map (fun d => d.parameters.length) = some 1 := by decide +kernel
theorem inm_X5_may_5 : ∀ w ∈ u_ws RX5 TX5 (xg_N 5), w ∈ wsX5_may := fun _ h9 => List.mem_cons_of_mem _ (List.mem_append_right _ h9)
set_option maxHeartbeats 4000000 in
set_option maxRecDepth 100000 in
theorem met_X5_may (Y : xg_Y) (this : Nat) (x1 : Int32) : xg_MI yX5_may wsX5_may rm_X5_may Y (fun zs => [va_rf (some this), .int x1]) (fun Q h => wp_X5_may Y Q this x1 h) := by
  refine xg_startI (cc := cX5_may) (maxL := 2) (own := RX5) (by decide) rfl rfl (fun zs => Nat.le_of_ble_eq_true rfl) (fun X Q h C hnL E hw => ?_)
  unfold wp_X5_may at hw
  obtain ⟨hthis, hw⟩ := hw
  refine xg_sub (lv2 := [(0, va_rf (some this)), (1, .int x1)]) [0, 1] rfl ?_
  refine mg_use (hw (fun (h : xg_H) => xg_W X 0 0 Y 32 [(0, va_rf (some this))] [] h) ?_) (fun hF => ?_)
  · intro h hF
    refine xg_aload_n (pc := 32) C dX5_may_32 0 rfl ?_
    refine xg_geti (pc := 33) (C1 := RX5) (T1 := TX5) (ci := 5) (ref := "SandGlasses$Glass") C inm_X5_may_5 rfl (by decide) 2 (by decide) rfl dX5_may_33 (List.mem_of_getElem? (i := 1) rfl) rfl rfl hthis ?_
    refine xg_if_ne (pc := 36) 43 C dX5_may_36 (by decide) (fun hc => ?_) (fun hc => ?_)
    · have hF := hF.1 hc
      refine xg_iconst (pc := 43) (v := 0) C dX5_may_43 (by decide) ?_
      exact xg_retZ (pc := 44) C E (Or.inl rfl) dX5_may_44 hF
    · have hF := hF.2 hc
      refine xg_iconst (pc := 39) (v := 1) C dX5_may_39 (by decide) ?_
      refine xg_goto (pc := 40) 44 C dX5_may_40 (by decide) ?_
      exact xg_retZ (pc := 44) C E (Or.inr rfl) dX5_may_44 hF
  · skip
    refine xg_iload_n (pc := 0) C dX5_may_0 1 rfl ?_
    by_cases hs0 : x1 = 1
    · have hF := hF.1 hs0
      refine xg_tabIn (pc := 1) 32 C dX5_may_1 (by rw [hs0]; decide) (by rw [hs0]; decide) (off := 31) (by rw [hs0]; rfl) (by decide) ?_
      refine xg_sub (lv2 := [(0, va_rf (some this))]) [0] rfl ?_
      exact hF
    have hF := hF.2
    by_cases hs1 : x1 = 2
    · have hF := hF.1 hs1
      refine xg_tabIn (pc := 1) 32 C dX5_may_1 (by rw [hs1]; decide) (by rw [hs1]; decide) (off := 31) (by rw [hs1]; rfl) (by decide) ?_
      refine xg_sub (lv2 := [(0, va_rf (some this))]) [0] rfl ?_
      exact hF
    have hF := hF.2
    by_cases hs2 : x1 = 3
    · have hF := hF.1 hs2
      refine xg_tabIn (pc := 1) 45 C dX5_may_1 (by rw [hs2]; decide) (by rw [hs2]; decide) (off := 44) (by rw [hs2]; rfl) (by decide) ?_
      refine xg_aload_n (pc := 45) C dX5_may_45 0 rfl ?_
      refine xg_geti (pc := 46) (C1 := RX5) (T1 := TX5) (ci := 5) (ref := "SandGlasses$Glass") C inm_X5_may_5 rfl (by decide) 2 (by decide) rfl dX5_may_46 (List.mem_of_getElem? (i := 1) rfl) rfl rfl hthis ?_
      exact xg_retZ (pc := 49) C E hF.1 dX5_may_49 hF.2
    have hF := hF.2
    by_cases hs3 : x1 = 4
    · have hF := hF.1 hs3
      refine xg_tabIn (pc := 1) 50 C dX5_may_1 (by rw [hs3]; decide) (by rw [hs3]; decide) (off := 49) (by rw [hs3]; rfl) (by decide) ?_
      refine xg_aload_n (pc := 50) C dX5_may_50 0 rfl ?_
      refine xg_geti (pc := 51) (C1 := RX5) (T1 := TX5) (ci := 5) (ref := "SandGlasses$Glass") C inm_X5_may_5 rfl (by decide) 0 (by decide) rfl dX5_may_51 (List.mem_of_getElem? (i := 2) rfl) rfl rfl hthis ?_
      refine xg_aload_n (pc := 54) C dX5_may_54 0 rfl ?_
      refine xg_geti (pc := 55) (C1 := RX5) (T1 := TX5) (ci := 5) (ref := "SandGlasses$Glass") C inm_X5_may_5 rfl (by decide) 1 (by decide) rfl dX5_may_55 (List.mem_of_getElem? (i := 3) rfl) rfl rfl hthis ?_
      refine xg_icmp_le (pc := 58) 73 C dX5_may_58 (by decide) (fun hc => ?_) (fun hc => ?_)
      · have hF := hF.1 hc
        refine xg_iconst (pc := 73) (v := 0) C dX5_may_73 (by decide) ?_
        exact xg_retZ (pc := 74) C E (Or.inl rfl) dX5_may_74 hF
      · have hF := hF.2 hc
        refine xg_aload_n (pc := 61) C dX5_may_61 0 rfl ?_
        refine xg_geti (pc := 62) (C1 := RX5) (T1 := TX5) (ci := 5) (ref := "SandGlasses$Glass") C inm_X5_may_5 rfl (by decide) 0 (by decide) rfl dX5_may_62 (List.mem_of_getElem? (i := 2) rfl) rfl rfl hthis ?_
        refine xg_iconst (pc := 65) (v := 1) C dX5_may_65 (by decide) ?_
        refine xg_icmp_le (pc := 66) 73 C dX5_may_66 (by decide) (fun hc => ?_) (fun hc => ?_)
        · have hF := hF.1 hc
          refine xg_iconst (pc := 73) (v := 0) C dX5_may_73 (by decide) ?_
          exact xg_retZ (pc := 74) C E (Or.inl rfl) dX5_may_74 hF
        · have hF := hF.2 hc
          refine xg_iconst (pc := 69) (v := 1) C dX5_may_69 (by decide) ?_
          refine xg_goto (pc := 70) 74 C dX5_may_70 (by decide) ?_
          exact xg_retZ (pc := 74) C E (Or.inr rfl) dX5_may_74 hF
    have hF := hF.2
    have hF := hF hs0 hs1 hs2 hs3
    refine xg_tabOut (pc := 1) 75 C dX5_may_1 (mg_swd x1 1 4 (fun v h1 h2 => ?_)) (by decide) ?_
    · rcases (show v = 1 ∨ v = 2 ∨ v = 3 ∨ v = 4 by omega) with rfl | rfl | rfl | rfl
      · exact hs0
      · exact hs1
      · exact hs2
      · exact hs3
    refine xg_iconst (pc := 75) (v := 0) C dX5_may_75 (by decide) ?_
    exact xg_retZ (pc := 76) C E (Or.inl rfl) dX5_may_76 hF
def rm_X5_act : Room := { frames := 0, cells := 0, slots := 0, locals := 0 }
theorem nd_X5_act : yX5_act.cls = RX5 ∧ yX5_act.cls ≠ "java/lang/invoke/MethodHandle" ∧ yX5_act.cls ≠ "java/lang/invoke/VarHandle" ∧ (parseMethodDescriptor yX5_act.desc).map (fun d => d.parameters.length) = some 1 := by decide +kernel
theorem inm_X5_act_5 : ∀ w ∈ u_ws RX5 TX5 (xg_N 5), w ∈ wsX5_act := fun _ h9 => List.mem_cons_of_mem _ (List.mem_append_right _ h9)
set_option maxHeartbeats 4000000 in
set_option maxRecDepth 100000 in
theorem met_X5_act (Y : xg_Y) (this : Nat) (x1 : Int32) : xg_MV yX5_act wsX5_act rm_X5_act Y (fun zs => [va_rf (some this), .int x1]) (fun Q h => wp_X5_act Y Q this x1 h) := by
  refine xg_startV (cc := cX5_act) (maxL := 2) (own := RX5) (by decide) rfl rfl (fun zs => Nat.le_of_ble_eq_true rfl) (fun X Q h C hnL E hw => ?_)
  unfold wp_X5_act at hw
  obtain ⟨hthis, hw⟩ := hw
  refine xg_sub (lv2 := [(0, va_rf (some this)), (1, .int x1)]) [0, 1] rfl ?_
  have hF := hw
  refine xg_iload_n (pc := 0) C dX5_act_0 1 rfl ?_
  by_cases hs0 : x1 = 1
  · have hF := hF.1 hs0
    refine xg_tabIn (pc := 1) 32 C dX5_act_1 (by rw [hs0]; decide) (by rw [hs0]; decide) (off := 31) (by rw [hs0]; rfl) (by decide) ?_
    refine xg_aload_n (pc := 32) C dX5_act_32 0 rfl ?_
    refine xg_aload_n (pc := 33) C dX5_act_33 0 rfl ?_
    refine xg_geti (pc := 34) (C1 := RX5) (T1 := TX5) (ci := 5) (ref := "SandGlasses$Glass") C inm_X5_act_5 rfl (by decide) 0 (by decide) rfl dX5_act_34 (List.mem_of_getElem? (i := 1) rfl) rfl rfl hthis ?_
    refine xg_aload_n (pc := 37) C dX5_act_37 0 rfl ?_
    refine xg_geti (pc := 38) (C1 := RX5) (T1 := TX5) (ci := 5) (ref := "SandGlasses$Glass") C inm_X5_act_5 rfl (by decide) 1 (by decide) rfl dX5_act_38 (List.mem_of_getElem? (i := 2) rfl) rfl rfl hthis ?_
    refine xg_isub (pc := 41) C dX5_act_41 ?_
    refine xg_puti (pc := 42) (C1 := RX5) (T1 := TX5) (ci := 5) (ref := "SandGlasses$Glass") C inm_X5_act_5 rfl (by decide) tyX5 tyX5_ok nmX5 1 (by decide) rfl dX5_act_42 (List.mem_of_getElem? (i := 2) rfl) rfl rfl (tyX5_ok 1 (by decide)) rfl hthis (fun h1 eh1 => ?_)
    have hF := hF h1 eh1
    refine xg_goto (pc := 45) 77 C dX5_act_45 (by decide) ?_
    exact xg_retV (pc := 77) C E dX5_act_77 hF
  have hF := hF.2
  by_cases hs1 : x1 = 2
  · have hF := hF.1 hs1
    refine xg_tabIn (pc := 1) 48 C dX5_act_1 (by rw [hs1]; decide) (by rw [hs1]; decide) (off := 47) (by rw [hs1]; rfl) (by decide) ?_
    refine xg_aload_n (pc := 48) C dX5_act_48 0 rfl ?_
    refine xg_iconst (pc := 49) (v := 1) C dX5_act_49 (by decide) ?_
    refine xg_putz (pc := 50) (C1 := RX5) (T1 := TX5) (ci := 5) (ref := "SandGlasses$Glass") C inm_X5_act_5 rfl (by decide) tyX5 tyX5_ok nmX5 2 (by decide) rfl (Or.inr rfl) dX5_act_50 (List.mem_of_getElem? (i := 3) rfl) rfl rfl (tyX5_ok 2 (by decide)) rfl hthis (fun h2 eh2 => ?_)
    have hF := hF h2 eh2
    refine xg_goto (pc := 53) 77 C dX5_act_53 (by decide) ?_
    exact xg_retV (pc := 77) C E dX5_act_77 hF
  have hF := hF.2
  by_cases hs2 : x1 = 3
  · have hF := hF.1 hs2
    refine xg_tabIn (pc := 1) 56 C dX5_act_1 (by rw [hs2]; decide) (by rw [hs2]; decide) (off := 55) (by rw [hs2]; rfl) (by decide) ?_
    refine xg_aload_n (pc := 56) C dX5_act_56 0 rfl ?_
    refine xg_iconst (pc := 57) (v := 0) C dX5_act_57 (by decide) ?_
    refine xg_putz (pc := 58) (C1 := RX5) (T1 := TX5) (ci := 5) (ref := "SandGlasses$Glass") C inm_X5_act_5 rfl (by decide) tyX5 tyX5_ok nmX5 2 (by decide) rfl (Or.inl rfl) dX5_act_58 (List.mem_of_getElem? (i := 3) rfl) rfl rfl (tyX5_ok 2 (by decide)) rfl hthis (fun h3 eh3 => ?_)
    have hF := hF h3 eh3
    refine xg_goto (pc := 61) 77 C dX5_act_61 (by decide) ?_
    exact xg_retV (pc := 77) C E dX5_act_77 hF
  have hF := hF.2
  by_cases hs3 : x1 = 4
  · have hF := hF.1 hs3
    refine xg_tabIn (pc := 1) 64 C dX5_act_1 (by rw [hs3]; decide) (by rw [hs3]; decide) (off := 63) (by rw [hs3]; rfl) (by decide) ?_
    refine xg_aload_n (pc := 64) C dX5_act_64 0 rfl ?_
    refine xg_dup (pc := 65) C dX5_act_65 (xg_rf_cat _) ?_
    refine xg_geti (pc := 66) (C1 := RX5) (T1 := TX5) (ci := 5) (ref := "SandGlasses$Glass") C inm_X5_act_5 rfl (by decide) 0 (by decide) rfl dX5_act_66 (List.mem_of_getElem? (i := 1) rfl) rfl rfl hthis ?_
    refine xg_iconst (pc := 69) (v := 1) C dX5_act_69 (by decide) ?_
    refine xg_isub (pc := 70) C dX5_act_70 ?_
    refine xg_puti (pc := 71) (C1 := RX5) (T1 := TX5) (ci := 5) (ref := "SandGlasses$Glass") C inm_X5_act_5 rfl (by decide) tyX5 tyX5_ok nmX5 0 (by decide) rfl dX5_act_71 (List.mem_of_getElem? (i := 1) rfl) rfl rfl (tyX5_ok 0 (by decide)) rfl hthis (fun h4 eh4 => ?_)
    have hF := hF h4 eh4
    refine xg_goto (pc := 74) 77 C dX5_act_74 (by decide) ?_
    exact xg_retV (pc := 77) C E dX5_act_77 hF
  have hF := hF.2
  have hF := hF hs0 hs1 hs2 hs3
  refine xg_tabOut (pc := 1) 77 C dX5_act_1 (mg_swd x1 1 4 (fun v h1 h2 => ?_)) (by decide) ?_
  · rcases (show v = 1 ∨ v = 2 ∨ v = 3 ∨ v = 4 by omega) with rfl | rfl | rfl | rfl
    · exact hs0
    · exact hs1
    · exact hs2
    · exact hs3
  exact xg_retV (pc := 77) C E dX5_act_77 hF
def rm_X0_tried : Room := { frames := 2, cells := 0, slots := 0, locals := 47 }
theorem nd_X0_tried : yX0_tried.cls = RX0 ∧ yX0_tried.cls ≠ "java/lang/invoke/MethodHandle" ∧ yX0_tried.cls ≠ "java/lang/invoke/VarHandle" ∧ (parseMethodDescriptor yX0_tried.desc).map (fun d => d.parameters.length) = some 2 := by decide +kernel
theorem inm_X0_tried_0 : ∀ w ∈ u_ws RX0 TX0 (xg_N 0), w ∈ wsX0_tried := fun _ h9 => List.mem_cons_of_mem _ (List.mem_append_left _ (List.mem_append_right _ h9))
set_option maxHeartbeats 4000000 in
set_option maxRecDepth 100000 in
theorem met_X0_tried (Y : xg_Y) (this : Nat) (x1 : Int32) (x2 : Int32) : xg_MI yX0_tried wsX0_tried rm_X0_tried Y (fun zs => [va_rf (some this), .int x1, .int x2]) (fun Q h => wp_X0_tried Y Q this x1 x2 h) := by
  refine xg_startI (cc := cX0_tried) (maxL := 4) (own := RX0) (by decide) rfl rfl (fun zs => Nat.le_of_ble_eq_true rfl) (fun X Q h C hnL E hw => ?_)
  unfold wp_X0_tried at hw
  obtain ⟨hthis, hw⟩ := hw
  refine xg_sub (lv2 := [(0, va_rf (some this)), (1, .int x1), (2, .int x2)]) [0, 1, 2] rfl ?_
  refine mg_use (hw (fun (y3 : Int32) (h : xg_H) => xg_W X 0 0 Y 19 [(0, va_rf (some this)), (2, .int x2), (3, .int y3)] [] h) ?_) (fun hF => ?_)
  · intro y3 h hF
    refine xg_iload_n (pc := 19) C dX0_tried_19 2 rfl ?_
    refine xg_iload_n (pc := 20) C dX0_tried_20 1 rfl ?_
    refine xg_icmp_ge (pc := 21) 34 C dX0_tried_21 (by decide) (fun hc => ?_) (fun hc => ?_)
    · have hF := hF.1 hc
      refine xg_iconst (pc := 34) (v := 1) C dX0_tried_34 (by decide) ?_
      exact xg_retZ (pc := 35) C E (Or.inr rfl) dX0_tried_35 hF
    · have hF := hF.2 hc
      refine xg_aload_n (pc := 24) C dX0_tried_24 0 rfl ?_
      refine xg_cvV (pc := 25) (C1 := RX0) (T1 := TX0) (ci := 0) C (fun zs => []) rfl hthis (by decide) rfl (met_X0_passMinute Y this) gX0_tried_X0_passMinute rfl ⟨rfl, rfl⟩ nd_X0_passMinute ⟨Nat.le_of_ble_eq_true rfl, Nat.le_of_ble_eq_true rfl⟩ rfl rfl (Nat.le_of_ble_eq_true rfl) ⟨Nat.zero_le _, Nat.zero_le _⟩ dX0_tried_25 hF (fun h9 hF => ?_)
      obtain ⟨z10, ez10⟩ : ∃ y : Int32, y = y3 + 1 := ⟨_, rfl⟩
      have hF := hF z10 ez10
      refine xg_iinc (pc := 28) (v := z10) (lv2 := [(3, .int z10), (0, va_rf (some this)), (2, .int x2)]) C dX0_tried_28 2 rfl (by rw [ez10]; rfl) 4 hnL (by decide) rfl ?_
      refine xg_goto (pc := 31) 19 C dX0_tried_31 (by decide) ?_
      refine xg_sub (lv2 := [(0, va_rf (some this)), (2, .int x2), (3, .int z10)]) [1, 2, 0] rfl ?_
      exact hF
  · skip
    refine xg_iload_n (pc := 0) C dX0_tried_0 1 rfl ?_
    refine xg_if_ne (pc := 1) 36 C dX0_tried_1 (by decide) (fun hc => ?_) (fun hc => ?_)
    · have hF := hF.1 hc
      refine xg_iload_n (pc := 36) C dX0_tried_36 2 rfl ?_
      refine xg_if_lt (pc := 37) 61 C dX0_tried_37 (by decide) (fun hc => ?_) (fun hc => ?_)
      · have hF := hF.1 hc
        refine xg_iconst (pc := 61) (v := 0) C dX0_tried_61 (by decide) ?_
        exact xg_retZ (pc := 62) C E (Or.inl rfl) dX0_tried_62 hF
      · have hF := hF.2 hc
        refine xg_iload_n (pc := 40) C dX0_tried_40 2 rfl ?_
        refine xg_aload_n (pc := 41) C dX0_tried_41 0 rfl ?_
        refine xg_geti (pc := 42) (C1 := RX0) (T1 := TX0) (ci := 0) (ref := "SandGlasses$Bench") C inm_X0_tried_0 rfl (by decide) 6 (by decide) rfl dX0_tried_42 (List.mem_of_getElem? (i := 2) rfl) rfl rfl hthis ?_
        refine xg_icmp_ge (pc := 45) 61 C dX0_tried_45 (by decide) (fun hc => ?_) (fun hc => ?_)
        · have hF := hF.1 hc
          refine xg_iconst (pc := 61) (v := 0) C dX0_tried_61 (by decide) ?_
          exact xg_retZ (pc := 62) C E (Or.inl rfl) dX0_tried_62 hF
        · have hF := hF.2 hc
          refine xg_aload_n (pc := 48) C dX0_tried_48 0 rfl ?_
          refine xg_getr (pc := 49) (C1 := RX0) (T1 := TX0) (ci := 0) (ref := "SandGlasses$Bench") C inm_X0_tried_0 rfl (by decide) 5 (by decide) rfl dX0_tried_49 (List.mem_of_getElem? (i := 3) rfl) rfl rfl hthis ?_
          refine xg_iload_n (pc := 52) C dX0_tried_52 2 rfl ?_
          obtain ⟨a1, ha1, hka1, hF⟩ := hF
          obtain ⟨hi, hF⟩ := hF
          refine xg_aald (pc := 53) (c9 := 26) (C9 := "SandGlasses$Glass") C ha1 hka1 (by decide) rfl hi dX0_tried_53 ?_
          refine xg_iload_n (pc := 54) C dX0_tried_54 1 rfl ?_
          obtain ⟨a2, ha2, hka2, hF⟩ := hF
          refine xg_cvI (pc := 55) (C1 := RX5) (T1 := TX5) (ci := 5) C (fun zs => [.int x1]) ha2 hka2 (by decide) rfl (met_X5_may Y a2 x1) gX0_tried_X5_may rfl ⟨rfl, rfl⟩ nd_X5_may ⟨Nat.le_of_ble_eq_true rfl, Nat.le_of_ble_eq_true rfl⟩ rfl rfl (Nat.le_of_ble_eq_true rfl) ⟨Nat.zero_le _, Nat.zero_le _⟩ dX0_tried_55 hF (fun r4 h3 hF => ?_)
          refine xg_if_ne (pc := 58) 63 C dX0_tried_58 (by decide) (fun hc => ?_) (fun hc => ?_)
          · have hF := hF.1 hc
            refine xg_aload_n (pc := 63) C dX0_tried_63 0 rfl ?_
            refine xg_getr (pc := 64) (C1 := RX0) (T1 := TX0) (ci := 0) (ref := "SandGlasses$Bench") C inm_X0_tried_0 rfl (by decide) 5 (by decide) rfl dX0_tried_64 (List.mem_of_getElem? (i := 3) rfl) rfl rfl hthis ?_
            refine xg_iload_n (pc := 67) C dX0_tried_67 2 rfl ?_
            obtain ⟨a5, ha5, hka5, hF⟩ := hF
            obtain ⟨hi, hF⟩ := hF
            refine xg_aald (pc := 68) (c9 := 26) (C9 := "SandGlasses$Glass") C ha5 hka5 (by decide) rfl hi dX0_tried_68 ?_
            refine xg_iload_n (pc := 69) C dX0_tried_69 1 rfl ?_
            obtain ⟨a6, ha6, hka6, hF⟩ := hF
            refine xg_cvV (pc := 70) (C1 := RX5) (T1 := TX5) (ci := 5) C (fun zs => [.int x1]) ha6 hka6 (by decide) rfl (met_X5_act Y a6 x1) gX0_tried_X5_act rfl ⟨rfl, rfl⟩ nd_X5_act ⟨Nat.le_of_ble_eq_true rfl, Nat.le_of_ble_eq_true rfl⟩ rfl rfl (Nat.le_of_ble_eq_true rfl) ⟨Nat.zero_le _, Nat.zero_le _⟩ dX0_tried_70 hF (fun h7 hF => ?_)
            refine xg_iload_n (pc := 73) C dX0_tried_73 1 rfl ?_
            refine xg_iconst (pc := 74) (v := 1) C dX0_tried_74 (by decide) ?_
            refine xg_icmp_ne (pc := 75) 88 C dX0_tried_75 (by decide) (fun hc => ?_) (fun hc => ?_)
            · have hF := hF.1 hc
              refine xg_iconst (pc := 88) (v := 1) C dX0_tried_88 (by decide) ?_
              exact xg_retZ (pc := 89) C E (Or.inr rfl) dX0_tried_89 hF
            · have hF := hF.2 hc
              refine xg_aload_n (pc := 78) C dX0_tried_78 0 rfl ?_
              refine xg_dup (pc := 79) C dX0_tried_79 (xg_rf_cat _) ?_
              refine xg_geti (pc := 80) (C1 := RX0) (T1 := TX0) (ci := 0) (ref := "SandGlasses$Bench") C inm_X0_tried_0 rfl (by decide) 4 (by decide) rfl dX0_tried_80 (List.mem_of_getElem? (i := 4) rfl) rfl rfl hthis ?_
              refine xg_iconst (pc := 83) (v := 1) C dX0_tried_83 (by decide) ?_
              refine xg_iadd (pc := 84) C dX0_tried_84 ?_
              refine xg_puti (pc := 85) (C1 := RX0) (T1 := TX0) (ci := 0) (ref := "SandGlasses$Bench") C inm_X0_tried_0 rfl (by decide) tyX0 tyX0_ok nmX0 4 (by decide) rfl dX0_tried_85 (List.mem_of_getElem? (i := 4) rfl) rfl rfl (tyX0_ok 4 (by decide)) rfl hthis (fun h8 eh8 => ?_)
              have hF := hF h8 eh8
              refine xg_iconst (pc := 88) (v := 1) C dX0_tried_88 (by decide) ?_
              exact xg_retZ (pc := 89) C E (Or.inr rfl) dX0_tried_89 hF
          · have hF := hF.2 hc
            refine xg_iconst (pc := 61) (v := 0) C dX0_tried_61 (by decide) ?_
            exact xg_retZ (pc := 62) C E (Or.inl rfl) dX0_tried_62 hF
    · have hF := hF.2 hc
      refine xg_aload_n (pc := 4) C dX0_tried_4 0 rfl ?_
      refine xg_geti (pc := 5) (C1 := RX0) (T1 := TX0) (ci := 0) (ref := "SandGlasses$Bench") C inm_X0_tried_0 rfl (by decide) 7 (by decide) rfl dX0_tried_5 (List.mem_of_getElem? (i := 1) rfl) rfl rfl hthis ?_
      refine xg_iload_n (pc := 8) C dX0_tried_8 2 rfl ?_
      refine xg_iadd (pc := 9) C dX0_tried_9 ?_
      refine xg_bipush (pc := 10) (v := 99) C dX0_tried_10 (by decide) ?_
      refine xg_icmp_le (pc := 12) 17 C dX0_tried_12 (by decide) (fun hc => ?_) (fun hc => ?_)
      · have hF := hF.1 hc
        refine xg_iconst (pc := 17) (v := 0) C dX0_tried_17 (by decide) ?_
        refine xg_istore_n (pc := 18) (lv2 := [(3, .int 0), (0, va_rf (some this)), (1, .int x1), (2, .int x2)]) C dX0_tried_18 4 hnL (by decide) rfl ?_
        refine xg_sub (lv2 := [(0, va_rf (some this)), (2, .int x2), (3, .int 0)]) [1, 3, 0] rfl ?_
        exact hF
      · have hF := hF.2 hc
        refine xg_iconst (pc := 15) (v := 0) C dX0_tried_15 (by decide) ?_
        exact xg_retZ (pc := 16) C E (Or.inl rfl) dX0_tried_16 hF
def rm_X0_play : Room := { frames := 3, cells := 0, slots := 0, locals := 70 }
theorem nd_X0_play : yX0_play.cls = RX0 ∧ yX0_play.cls ≠ "java/lang/invoke/MethodHandle" ∧ yX0_play.cls ≠ "java/lang/invoke/VarHandle" ∧ (parseMethodDescriptor yX0_play.desc).map (fun d => d.parameters.length) = some 2 := by decide +kernel
theorem inm_X0_play_8 : ∀ w ∈ u_ws RX8 TX8 (xg_N 8), w ∈ wsX0_play := fun _ h9 => List.mem_cons_of_mem _ (List.mem_append_left _ (List.mem_append_left _ (List.mem_append_right _ h9)))
set_option maxHeartbeats 4000000 in
set_option maxRecDepth 100000 in
theorem met_X0_play (Y : xg_Y) (this : Nat) (x1 : Option Nat) (x2 : Int32) : xg_MI yX0_play wsX0_play rm_X0_play Y (fun zs => [va_rf (some this), va_rf x1, .int x2]) (fun Q h => wp_X0_play Y Q this x1 x2 h) := by
  refine xg_startI (cc := cX0_play) (maxL := 4) (own := RX0) (by decide) rfl rfl (fun zs => by cases x1 <;> exact Nat.le_of_ble_eq_true rfl) (fun X Q h C hnL E hw => ?_)
  unfold wp_X0_play at hw
  obtain ⟨hthis, hw⟩ := hw
  refine xg_sub (lv2 := [(0, va_rf (some this)), (1, va_rf x1), (2, .int x2)]) [0, 1, 2] (by cases x1 <;> rfl) ?_
  refine mg_use (hw (fun (y3 : Int32) (h : xg_H) => xg_W X 0 0 Y 2 [(0, va_rf (some this)), (1, va_rf x1), (2, .int x2), (3, .int y3)] [] h) (fun (h : xg_H) => xg_W X 0 0 Y 42 [(1, va_rf x1), (2, .int x2)] [] h) ?_ ?_) (fun hF => ?_)
  · intro y3 h hF
    refine xg_iload_n (pc := 2) C dX0_play_2 3 rfl ?_
    refine xg_iload_n (pc := 3) C dX0_play_3 2 rfl ?_
    refine xg_icmp_ge (pc := 4) 42 C dX0_play_4 (by decide) (fun hc => ?_) (fun hc => ?_)
    · have hF := hF.1 hc
      refine xg_sub (lv2 := [(1, va_rf x1), (2, .int x2)]) [1, 2] rfl ?_
      exact hF
    · have hF := hF.2 hc
      refine xg_iload_n (pc := 7) C dX0_play_7 3 rfl ?_
      refine xg_aload_n (pc := 8) C dX0_play_8 1 rfl ?_
      obtain ⟨a1, ha1, hka1, hF⟩ := hF
      refine xg_geti (pc := 9) (C1 := RX8) (T1 := TX8) (ci := 8) (ref := "SandGlasses$Text") C inm_X0_play_8 rfl (by decide) 0 (by decide) rfl dX0_play_9 (List.mem_of_getElem? (i := 1) rfl) rfl ha1 hka1 ?_
      refine xg_icmp_ge (pc := 12) 42 C dX0_play_12 (by decide) (fun hc => ?_) (fun hc => ?_)
      · have hF := hF.1 hc
        refine xg_sub (lv2 := [(1, va_rf x1), (2, .int x2)]) [1, 2] rfl ?_
        exact hF
      · have hF := hF.2 hc
        refine xg_aload_n (pc := 15) C dX0_play_15 0 rfl ?_
        refine xg_aload_n (pc := 16) C dX0_play_16 1 rfl ?_
        refine xg_getr (pc := 17) (C1 := RX8) (T1 := TX8) (ci := 8) (ref := "SandGlasses$Text") C inm_X0_play_8 rfl (by decide) 1 (by decide) rfl dX0_play_17 (List.mem_of_getElem? (i := 2) rfl) rfl ha1 hka1 ?_
        refine xg_iload_n (pc := 20) C dX0_play_20 3 rfl ?_
        obtain ⟨a2, ha2, hka2, hF⟩ := hF
        obtain ⟨hi, hF⟩ := hF
        refine xg_iald (pc := 21) C ha2 hka2 hi dX0_play_21 ?_
        refine xg_aload_n (pc := 22) C dX0_play_22 1 rfl ?_
        refine xg_getr (pc := 23) (C1 := RX8) (T1 := TX8) (ci := 8) (ref := "SandGlasses$Text") C inm_X0_play_8 rfl (by decide) 2 (by decide) rfl dX0_play_23 (List.mem_of_getElem? (i := 3) rfl) rfl ha1 hka1 ?_
        refine xg_iload_n (pc := 26) C dX0_play_26 3 rfl ?_
        obtain ⟨a3, ha3, hka3, hF⟩ := hF
        obtain ⟨hi, hF⟩ := hF
        refine xg_iald (pc := 27) C ha3 hka3 hi dX0_play_27 ?_
        refine xg_cvI (pc := 28) (C1 := RX0) (T1 := TX0) (ci := 0) C (fun zs => [.int (xg_i h a2 y3.toNatClampNeg), .int (xg_i h a3 y3.toNatClampNeg)]) rfl hthis (by decide) rfl (met_X0_tried Y this (xg_i h a2 y3.toNatClampNeg) (xg_i h a3 y3.toNatClampNeg)) gX0_play_X0_tried rfl ⟨rfl, rfl⟩ nd_X0_tried ⟨Nat.le_of_ble_eq_true rfl, Nat.le_of_ble_eq_true rfl⟩ rfl rfl (Nat.le_of_ble_eq_true rfl) ⟨Nat.zero_le _, Nat.zero_le _⟩ dX0_play_28 hF (fun r5 h4 hF => ?_)
        refine xg_if_ne (pc := 31) 36 C dX0_play_31 (by decide) (fun hc => ?_) (fun hc => ?_)
        · have hF := hF.1 hc
          obtain ⟨z6, ez6⟩ : ∃ y : Int32, y = y3 + 1 := ⟨_, rfl⟩
          have hF := hF z6 ez6
          refine xg_iinc (pc := 36) (v := z6) (lv2 := [(3, .int z6), (0, va_rf (some this)), (1, va_rf x1), (2, .int x2)]) C dX0_play_36 3 rfl (by rw [ez6]; rfl) 4 hnL (by decide) rfl ?_
          refine xg_goto (pc := 39) 2 C dX0_play_39 (by decide) ?_
          refine xg_sub (lv2 := [(0, va_rf (some this)), (1, va_rf x1), (2, .int x2), (3, .int z6)]) [1, 2, 3, 0] rfl ?_
          exact hF
        · have hF := hF.2 hc
          refine xg_iload_n (pc := 34) C dX0_play_34 3 rfl ?_
          exact xg_retI (pc := 35) C E dX0_play_35 hF
  · intro h hF
    refine xg_iload_n (pc := 42) C dX0_play_42 1 rfl ?_
    refine xg_aload_n (pc := 43) C dX0_play_43 0 rfl ?_
    obtain ⟨a7, ha7, hka7, hF⟩ := hF
    refine xg_geti (pc := 44) (C1 := RX8) (T1 := TX8) (ci := 8) (ref := "SandGlasses$Text") C inm_X0_play_8 rfl (by decide) 0 (by decide) rfl dX0_play_44 (List.mem_of_getElem? (i := 1) rfl) rfl ha7 hka7 ?_
    refine xg_mmin (pc := 47) C (List.mem_of_getElem? (i := 4) rfl) (List.mem_of_getElem? (i := 5) rfl) (List.mem_of_getElem? (i := 6) rfl) (List.mem_of_getElem? (i := 7) rfl) (Nat.le_of_ble_eq_true rfl) (Nat.le_of_ble_eq_true rfl) (Nat.zero_le _) (Nat.zero_le _) dX0_play_47 ?_
    refine xg_topi (pc := 50) (fun z8 ez8 => ?_)
    have hF := hF z8 ez8
    exact xg_retI (pc := 50) C E dX0_play_50 hF
  · skip
    refine xg_iconst (pc := 0) (v := 0) C dX0_play_0 (by decide) ?_
    refine xg_istore_n (pc := 1) (lv2 := [(3, .int 0), (0, va_rf (some this)), (1, va_rf x1), (2, .int x2)]) C dX0_play_1 4 hnL (by decide) rfl ?_
    refine xg_sub (lv2 := [(0, va_rf (some this)), (1, va_rf x1), (2, .int x2), (3, .int 0)]) [1, 2, 3, 0] rfl ?_
    exact hF
def rm_X0_playDrawn : Room := { frames := 3, cells := 0, slots := 0, locals := 70 }
theorem nd_X0_playDrawn : yX0_playDrawn.cls = RX0 ∧ yX0_playDrawn.cls ≠ "java/lang/invoke/MethodHandle" ∧ yX0_playDrawn.cls ≠ "java/lang/invoke/VarHandle" ∧ (parseMethodDescriptor yX0_playDrawn.desc).map (fun d => d.parameters.length) = some 2 := by decide +kernel
theorem inm_X0_playDrawn_0 : ∀ w ∈ u_ws RX0 TX0 (xg_N 0), w ∈ wsX0_playDrawn := fun _ h9 => List.mem_cons_of_mem _ (List.mem_append_left _ (List.mem_append_right _ h9))
set_option maxHeartbeats 4000000 in
set_option maxRecDepth 100000 in
theorem met_X0_playDrawn (Y : xg_Y) (this : Nat) (x1 : Int32) (x2 : Int32) : xg_MV yX0_playDrawn wsX0_playDrawn rm_X0_playDrawn Y (fun zs => [va_rf (some this), .int x1, .int x2]) (fun Q h => wp_X0_playDrawn Y Q this x1 x2 h) := by
  refine xg_startV (cc := cX0_playDrawn) (maxL := 5) (own := RX0) (by decide) rfl rfl (fun zs => Nat.le_of_ble_eq_true rfl) (fun X Q h C hnL E hw => ?_)
  unfold wp_X0_playDrawn at hw
  obtain ⟨hthis, hw⟩ := hw
  refine xg_sub (lv2 := [(0, va_rf (some this)), (1, .int x1), (2, .int x2)]) [0, 1, 2] rfl ?_
  refine mg_use (hw (fun (y3 : Int32) (h : xg_H) => xg_W X 0 0 Y 7 [(0, va_rf (some this)), (2, .int x2), (3, .int y3)] [] h) (fun (y3 : Int32) (h : xg_H) => xg_W X 0 0 Y 73 [(0, va_rf (some this)), (2, .int x2), (3, .int y3)] [] h) ?_ ?_) (fun hF => ?_)
  · intro y3 h hF
    refine xg_iload_n (pc := 7) C dX0_playDrawn_7 2 rfl ?_
    refine xg_iload_n (pc := 8) C dX0_playDrawn_8 1 rfl ?_
    refine xg_icmp_ge (pc := 9) 79 C dX0_playDrawn_9 (by decide) (fun hc => ?_) (fun hc => ?_)
    · have hF := hF.1 hc
      exact xg_retV (pc := 79) C E dX0_playDrawn_79 hF
    · have hF := hF.2 hc
      refine xg_iload_n (pc := 12) C dX0_playDrawn_12 2 rfl ?_
      refine xg_bipush (pc := 13) (v := 60) C dX0_playDrawn_13 (by decide) ?_
      refine xg_icmp_ge (pc := 15) 79 C dX0_playDrawn_15 (by decide) (fun hc => ?_) (fun hc => ?_)
      · have hF := hF.1 hc
        exact xg_retV (pc := 79) C E dX0_playDrawn_79 hF
      · have hF := hF.2 hc
        refine xg_aload_n (pc := 18) C dX0_playDrawn_18 0 rfl ?_
        refine xg_bipush (pc := 19) (v := 10) C dX0_playDrawn_19 (by decide) ?_
        refine xg_cvI (pc := 21) (C1 := RX0) (T1 := TX0) (ci := 0) C (fun zs => [.int 10]) rfl hthis (by decide) rfl (met_X0_draw Y this 10) gX0_playDrawn_X0_draw rfl ⟨rfl, rfl⟩ nd_X0_draw ⟨Nat.le_of_ble_eq_true rfl, Nat.le_of_ble_eq_true rfl⟩ rfl rfl (Nat.le_of_ble_eq_true rfl) ⟨Nat.zero_le _, Nat.zero_le _⟩ dX0_playDrawn_21 hF (fun r3 h2 hF => ?_)
        refine xg_csI (pc := 24) C (fun zs => [.int r3]) (met_X0_drawnKind Y r3) gX0_playDrawn_X0_drawnKind rfl ⟨rfl, rfl⟩ nd_X0_drawnKind.2 ⟨Nat.le_of_ble_eq_true rfl, Nat.le_of_ble_eq_true rfl⟩ rfl rfl (Nat.le_of_ble_eq_true rfl) ⟨Nat.zero_le _, Nat.zero_le _⟩ dX0_playDrawn_24 hF (fun r5 h4 hF => ?_)
        refine xg_istore (pc := 27) (lv2 := [(4, .int r5), (0, va_rf (some this)), (2, .int x2), (3, .int y3)]) C dX0_playDrawn_27 5 hnL (by decide) rfl ?_
        refine xg_iload (pc := 29) C dX0_playDrawn_29 0 rfl ?_
        refine xg_if_ne (pc := 31) 51 C dX0_playDrawn_31 (by decide) (fun hc => ?_) (fun hc => ?_)
        · have hF := hF.1 hc
          refine xg_aload_n (pc := 51) C dX0_playDrawn_51 1 rfl ?_
          refine xg_geti (pc := 52) (C1 := RX0) (T1 := TX0) (ci := 0) (ref := "SandGlasses$Bench") C inm_X0_playDrawn_0 rfl (by decide) 6 (by decide) rfl dX0_playDrawn_52 (List.mem_of_getElem? (i := 2) rfl) rfl rfl hthis ?_
          refine xg_if_le (pc := 55) 73 C dX0_playDrawn_55 (by decide) (fun hc => ?_) (fun hc => ?_)
          · have hF := hF.1 hc
            refine xg_sub (lv2 := [(0, va_rf (some this)), (2, .int x2), (3, .int y3)]) [1, 2, 3] rfl ?_
            exact hF
          · have hF := hF.2 hc
            refine xg_aload_n (pc := 58) C dX0_playDrawn_58 1 rfl ?_
            refine xg_iload (pc := 59) C dX0_playDrawn_59 0 rfl ?_
            refine xg_aload_n (pc := 61) C dX0_playDrawn_61 1 rfl ?_
            refine xg_aload_n (pc := 62) C dX0_playDrawn_62 1 rfl ?_
            refine xg_geti (pc := 63) (C1 := RX0) (T1 := TX0) (ci := 0) (ref := "SandGlasses$Bench") C inm_X0_playDrawn_0 rfl (by decide) 6 (by decide) rfl dX0_playDrawn_63 (List.mem_of_getElem? (i := 2) rfl) rfl rfl hthis ?_
            refine xg_cvI (pc := 66) (C1 := RX0) (T1 := TX0) (ci := 0) C (fun zs => [.int (xg_i h4 this 6)]) rfl hthis (by decide) rfl (met_X0_draw Y this (xg_i h4 this 6)) gX0_playDrawn_X0_draw rfl ⟨rfl, rfl⟩ nd_X0_draw ⟨Nat.le_of_ble_eq_true rfl, Nat.le_of_ble_eq_true rfl⟩ rfl rfl (Nat.le_of_ble_eq_true rfl) ⟨Nat.zero_le _, Nat.zero_le _⟩ dX0_playDrawn_66 hF (fun r7 h6 hF => ?_)
            refine xg_cvI (pc := 69) (C1 := RX0) (T1 := TX0) (ci := 0) C (fun zs => [.int r5, .int r7]) rfl hthis (by decide) rfl (met_X0_tried Y this r5 r7) gX0_playDrawn_X0_tried rfl ⟨rfl, rfl⟩ nd_X0_tried ⟨Nat.le_of_ble_eq_true rfl, Nat.le_of_ble_eq_true rfl⟩ rfl rfl (Nat.le_of_ble_eq_true rfl) ⟨Nat.zero_le _, Nat.zero_le _⟩ dX0_playDrawn_69 hF (fun r9 h8 hF => ?_)
            refine xg_pop (pc := 72) C dX0_playDrawn_72 rfl ?_
            refine xg_sub (lv2 := [(0, va_rf (some this)), (2, .int x2), (3, .int y3)]) [1, 2, 3] rfl ?_
            exact hF
        · have hF := hF.2 hc
          refine xg_aload_n (pc := 34) C dX0_playDrawn_34 1 rfl ?_
          refine xg_iconst (pc := 35) (v := 0) C dX0_playDrawn_35 (by decide) ?_
          refine xg_iconst (pc := 36) (v := 1) C dX0_playDrawn_36 (by decide) ?_
          refine xg_aload_n (pc := 37) C dX0_playDrawn_37 1 rfl ?_
          refine xg_bipush (pc := 38) (v := 9) C dX0_playDrawn_38 (by decide) ?_
          refine xg_cvI (pc := 40) (C1 := RX0) (T1 := TX0) (ci := 0) C (fun zs => [.int 9]) rfl hthis (by decide) rfl (met_X0_draw Y this 9) gX0_playDrawn_X0_draw rfl ⟨rfl, rfl⟩ nd_X0_draw ⟨Nat.le_of_ble_eq_true rfl, Nat.le_of_ble_eq_true rfl⟩ rfl rfl (Nat.le_of_ble_eq_true rfl) ⟨Nat.zero_le _, Nat.zero_le _⟩ dX0_playDrawn_40 hF (fun r11 h10 hF => ?_)
          refine xg_iadd (pc := 43) C dX0_playDrawn_43 ?_
          refine xg_cvI (pc := 44) (C1 := RX0) (T1 := TX0) (ci := 0) C (fun zs => [.int 0, .int (1 + r11)]) rfl hthis (by decide) rfl (met_X0_tried Y this 0 (1 + r11)) gX0_playDrawn_X0_tried rfl ⟨rfl, rfl⟩ nd_X0_tried ⟨Nat.le_of_ble_eq_true rfl, Nat.le_of_ble_eq_true rfl⟩ rfl rfl (Nat.le_of_ble_eq_true rfl) ⟨Nat.zero_le _, Nat.zero_le _⟩ dX0_playDrawn_44 hF (fun r13 h12 hF => ?_)
          refine xg_pop (pc := 47) C dX0_playDrawn_47 rfl ?_
          refine xg_goto (pc := 48) 73 C dX0_playDrawn_48 (by decide) ?_
          refine xg_sub (lv2 := [(0, va_rf (some this)), (2, .int x2), (3, .int y3)]) [1, 2, 3] rfl ?_
          exact hF
  · intro y3 h hF
    obtain ⟨z14, ez14⟩ : ∃ y : Int32, y = y3 + 1 := ⟨_, rfl⟩
    have hF := hF z14 ez14
    refine xg_iinc (pc := 73) (v := z14) (lv2 := [(3, .int z14), (0, va_rf (some this)), (2, .int x2)]) C dX0_playDrawn_73 2 rfl (by rw [ez14]; rfl) 5 hnL (by decide) rfl ?_
    refine xg_goto (pc := 76) 7 C dX0_playDrawn_76 (by decide) ?_
    refine xg_sub (lv2 := [(0, va_rf (some this)), (2, .int x2), (3, .int z14)]) [1, 2, 0] rfl ?_
    exact hF
  · skip
    refine xg_aload_n (pc := 0) C dX0_playDrawn_0 0 rfl ?_
    refine xg_iload_n (pc := 1) C dX0_playDrawn_1 1 rfl ?_
    refine xg_puti (pc := 2) (C1 := RX0) (T1 := TX0) (ci := 0) (ref := "SandGlasses$Bench") C inm_X0_playDrawn_0 rfl (by decide) tyX0 tyX0_ok nmX0 8 (by decide) rfl dX0_playDrawn_2 (List.mem_of_getElem? (i := 1) rfl) rfl rfl (tyX0_ok 8 (by decide)) rfl hthis (fun h1 eh1 => ?_)
    have hF := hF h1 eh1
    refine xg_iconst (pc := 5) (v := 0) C dX0_playDrawn_5 (by decide) ?_
    refine xg_istore_n (pc := 6) (lv2 := [(3, .int 0), (0, va_rf (some this)), (1, .int x1), (2, .int x2)]) C dX0_playDrawn_6 5 hnL (by decide) rfl ?_
    refine xg_sub (lv2 := [(0, va_rf (some this)), (2, .int x2), (3, .int 0)]) [1, 3, 0] rfl ?_
    exact hF
def rm_X10_add : Room := { frames := 1, cells := 0, slots := 0, locals := 24 }
theorem nd_X10_add : yX10_add.cls = RX10 ∧ yX10_add.cls ≠ "java/lang/invoke/MethodHandle" ∧ yX10_add.cls ≠ "java/lang/invoke/VarHandle" ∧ (parseMethodDescriptor yX10_add.desc).map (fun d => d.parameters.length) = some 1 := by decide +kernel
theorem inm_X10_add_7 : ∀ w ∈ u_ws RX7 TX7 (xg_N 7), w ∈ wsX10_add := fun _ h9 => List.mem_cons_of_mem _ (List.mem_append_right _ h9)
theorem inm_X10_add_10 : ∀ w ∈ u_ws RX10 TX10 (xg_N 10), w ∈ wsX10_add := fun _ h9 => List.mem_cons_of_mem _ (List.mem_append_left _ (List.mem_append_right _ h9))
set_option maxHeartbeats 4000000 in
set_option maxRecDepth 100000 in
theorem met_X10_add (Y : xg_Y) (this : Nat) (x1 : Int32) : xg_MI yX10_add wsX10_add rm_X10_add Y (fun zs => [va_rf (some this), .int x1]) (fun Q h => wp_X10_add Y Q this x1 h) := by
  refine xg_startI (cc := cX10_add) (maxL := 3) (own := RX10) (by decide) rfl rfl (fun zs => Nat.le_of_ble_eq_true rfl) (fun X Q h C hnL E hw => ?_)
  unfold wp_X10_add at hw
  obtain ⟨hthis, hw⟩ := hw
  refine xg_sub (lv2 := [(0, va_rf (some this)), (1, .int x1)]) [0, 1] rfl ?_
  refine mg_use (hw (fun (y2 : Int32) (h : xg_H) => xg_W X 0 0 Y 63 [(0, va_rf (some this)), (2, .int y2)] [] h) ?_) (fun hF => ?_)
  · intro y2 h hF
    refine xg_iconst (pc := 63) (v := 0) C dX10_add_63 (by decide) ?_
    refine xg_aload_n (pc := 64) C dX10_add_64 0 rfl ?_
    refine xg_getr (pc := 65) (C1 := RX10) (T1 := TX10) (ci := 10) (ref := "SandGlasses$Walk") C inm_X10_add_10 rfl (by decide) 6 (by decide) rfl dX10_add_65 (List.mem_of_getElem? (i := 1) rfl) rfl rfl hthis ?_
    obtain ⟨a10, ha10, hka10, hF⟩ := hF
    refine xg_getr (pc := 68) (C1 := RX7) (T1 := TX7) (ci := 7) (ref := "SandGlasses$Steps") C inm_X10_add_7 rfl (by decide) 0 (by decide) rfl dX10_add_68 (List.mem_of_getElem? (i := 2) rfl) rfl ha10 hka10 ?_
    refine xg_iload_n (pc := 71) C dX10_add_71 1 rfl ?_
    obtain ⟨a11, ha11, hka11, hF⟩ := hF
    obtain ⟨hi, hF⟩ := hF
    refine xg_iald (pc := 72) C ha11 hka11 hi dX10_add_72 ?_
    refine xg_iconst (pc := 73) (v := 1) C dX10_add_73 (by decide) ?_
    refine xg_isub (pc := 74) C dX10_add_74 ?_
    refine xg_mmax (pc := 75) C (List.mem_of_getElem? (i := 5) rfl) (List.mem_of_getElem? (i := 6) rfl) (List.mem_of_getElem? (i := 7) rfl) (List.mem_of_getElem? (i := 8) rfl) (Nat.le_of_ble_eq_true rfl) (Nat.le_of_ble_eq_true rfl) (Nat.zero_le _) (Nat.zero_le _) dX10_add_75 ?_
    refine xg_topi (pc := 78) (fun z12 ez12 => ?_)
    have hF := hF z12 ez12
    exact xg_retI (pc := 78) C E dX10_add_78 hF
  · skip
    refine xg_iload_n (pc := 0) C dX10_add_0 1 rfl ?_
    refine xg_sipush (pc := 1) (v := 4095) C dX10_add_1 (by decide) ?_
    refine xg_iand (pc := 4) C dX10_add_4 ?_
    refine xg_topi (pc := 5) (fun z1 ez1 => ?_)
    have hF := hF z1 ez1
    refine xg_istore_n (pc := 5) (lv2 := [(2, .int z1), (0, va_rf (some this)), (1, .int x1)]) C dX10_add_5 3 hnL (by decide) rfl ?_
    refine xg_aload_n (pc := 6) C dX10_add_6 1 rfl ?_
    refine xg_getr (pc := 7) (C1 := RX10) (T1 := TX10) (ci := 10) (ref := "SandGlasses$Walk") C inm_X10_add_10 rfl (by decide) 6 (by decide) rfl dX10_add_7 (List.mem_of_getElem? (i := 1) rfl) rfl rfl hthis ?_
    obtain ⟨a2, ha2, hka2, hF⟩ := hF
    refine xg_getr (pc := 10) (C1 := RX7) (T1 := TX7) (ci := 7) (ref := "SandGlasses$Steps") C inm_X10_add_7 rfl (by decide) 0 (by decide) rfl dX10_add_10 (List.mem_of_getElem? (i := 2) rfl) rfl ha2 hka2 ?_
    refine xg_iload_n (pc := 13) C dX10_add_13 0 rfl ?_
    obtain ⟨a3, ha3, hka3, hF⟩ := hF
    obtain ⟨hi, hF⟩ := hF
    refine xg_iald (pc := 14) C ha3 hka3 hi dX10_add_14 ?_
    refine xg_if_ne (pc := 15) 63 C dX10_add_15 (by decide) (fun hc => ?_) (fun hc => ?_)
    · have hF := hF.1 hc
      refine xg_sub (lv2 := [(0, va_rf (some this)), (2, .int z1)]) [1, 0] rfl ?_
      exact hF
    · have hF := hF.2 hc
      refine xg_aload_n (pc := 18) C dX10_add_18 1 rfl ?_
      refine xg_geti (pc := 19) (C1 := RX10) (T1 := TX10) (ci := 10) (ref := "SandGlasses$Walk") C inm_X10_add_10 rfl (by decide) 4 (by decide) rfl dX10_add_19 (List.mem_of_getElem? (i := 3) rfl) rfl rfl hthis ?_
      refine xg_aload_n (pc := 22) C dX10_add_22 1 rfl ?_
      refine xg_getr (pc := 23) (C1 := RX10) (T1 := TX10) (ci := 10) (ref := "SandGlasses$Walk") C inm_X10_add_10 rfl (by decide) 0 (by decide) rfl dX10_add_23 (List.mem_of_getElem? (i := 4) rfl) rfl rfl hthis ?_
      obtain ⟨a4, ha4, hka4, hF⟩ := hF
      refine xg_alen (pc := 26) (c9 := 22) C ha4 hka4 (by decide) dX10_add_26 ?_
      refine xg_icmp_ge (pc := 27) 63 C dX10_add_27 (by decide) (fun hc => ?_) (fun hc => ?_)
      · have hF := hF.1 hc
        refine xg_sub (lv2 := [(0, va_rf (some this)), (2, .int z1)]) [1, 0] rfl ?_
        exact hF
      · have hF := hF.2 hc
        refine xg_aload_n (pc := 30) C dX10_add_30 1 rfl ?_
        refine xg_getr (pc := 31) (C1 := RX10) (T1 := TX10) (ci := 10) (ref := "SandGlasses$Walk") C inm_X10_add_10 rfl (by decide) 0 (by decide) rfl dX10_add_31 (List.mem_of_getElem? (i := 4) rfl) rfl rfl hthis ?_
        refine xg_aload_n (pc := 34) C dX10_add_34 1 rfl ?_
        refine xg_geti (pc := 35) (C1 := RX10) (T1 := TX10) (ci := 10) (ref := "SandGlasses$Walk") C inm_X10_add_10 rfl (by decide) 4 (by decide) rfl dX10_add_35 (List.mem_of_getElem? (i := 3) rfl) rfl rfl hthis ?_
        refine xg_iload_n (pc := 38) C dX10_add_38 0 rfl ?_
        obtain ⟨hi, hF⟩ := hF
        refine xg_iast (pc := 39) C ha4 hka4 hi dX10_add_39 (fun h5 eh5 => ?_)
        have hF := hF h5 eh5
        refine xg_aload_n (pc := 40) C dX10_add_40 1 rfl ?_
        refine xg_dup (pc := 41) C dX10_add_41 (xg_rf_cat _) ?_
        refine xg_geti (pc := 42) (C1 := RX10) (T1 := TX10) (ci := 10) (ref := "SandGlasses$Walk") C inm_X10_add_10 rfl (by decide) 4 (by decide) rfl dX10_add_42 (List.mem_of_getElem? (i := 3) rfl) rfl rfl hthis ?_
        refine xg_iconst (pc := 45) (v := 1) C dX10_add_45 (by decide) ?_
        refine xg_iadd (pc := 46) C dX10_add_46 ?_
        refine xg_puti (pc := 47) (C1 := RX10) (T1 := TX10) (ci := 10) (ref := "SandGlasses$Walk") C inm_X10_add_10 rfl (by decide) tyX10 tyX10_ok nmX10 4 (by decide) rfl dX10_add_47 (List.mem_of_getElem? (i := 3) rfl) rfl rfl (tyX10_ok 4 (by decide)) rfl hthis (fun h6 eh6 => ?_)
        have hF := hF h6 eh6
        refine xg_aload_n (pc := 50) C dX10_add_50 1 rfl ?_
        refine xg_getr (pc := 51) (C1 := RX10) (T1 := TX10) (ci := 10) (ref := "SandGlasses$Walk") C inm_X10_add_10 rfl (by decide) 6 (by decide) rfl dX10_add_51 (List.mem_of_getElem? (i := 1) rfl) rfl rfl hthis ?_
        obtain ⟨a7, ha7, hka7, hF⟩ := hF
        refine xg_getr (pc := 54) (C1 := RX7) (T1 := TX7) (ci := 7) (ref := "SandGlasses$Steps") C inm_X10_add_7 rfl (by decide) 0 (by decide) rfl dX10_add_54 (List.mem_of_getElem? (i := 2) rfl) rfl ha7 hka7 ?_
        refine xg_iload_n (pc := 57) C dX10_add_57 0 rfl ?_
        refine xg_aload_n (pc := 58) C dX10_add_58 1 rfl ?_
        refine xg_geti (pc := 59) (C1 := RX10) (T1 := TX10) (ci := 10) (ref := "SandGlasses$Walk") C inm_X10_add_10 rfl (by decide) 4 (by decide) rfl dX10_add_59 (List.mem_of_getElem? (i := 3) rfl) rfl rfl hthis ?_
        obtain ⟨a8, ha8, hka8, hF⟩ := hF
        obtain ⟨hi, hF⟩ := hF
        refine xg_iast (pc := 62) C ha8 hka8 hi dX10_add_62 (fun h9 eh9 => ?_)
        have hF := hF h9 eh9
        refine xg_sub (lv2 := [(0, va_rf (some this)), (2, .int z1)]) [1, 0] rfl ?_
        exact hF
