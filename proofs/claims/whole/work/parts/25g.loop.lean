/-! the loop of the law -/
theorem lw_31 {X : lg_X} {a : Nat} {R : Int32 → Nat → Nat → xg_Y → xg_H → mg_H → Prop} {y3 : Int32} {k n : Nat} {Y : xg_Y} {h : xg_H} {g : mg_H} {nm b : Nat → Nat} {sv : Nat → Bool} (V : IVx a k n Y h g nm b sv) (hv : vps X y3) (ih : ∀ k n Y h g, INV a k n Y h g → R (y3 + 6) k n Y h g) : wp_law_31 X a R y3 k n Y h g := by
  unfold wp_law_31
  rintro _ rfl
  exact ih _ _ _ _ _ ⟨nm, b, sv, V⟩
theorem lw_end {L y : Nat} (hL : L ≤ 3072) (hy : y ≤ 4000) : (nI L - 6 < nI y) ↔ L < y + 6 := by
  rw [Int32.lt_iff_toInt_lt, nl_6, pk_sub_toInt (by omega) (by decide), nI_toInt (by omega)]
  omega
theorem vps_of {X : lg_X} {y : Nat} (hL : lg_L X ≤ 3072) (h : y + 6 ≤ lg_L X) : vps X (nI y) := by
  have key : ∀ j, j ≤ 5 → vp_in (nI y + nI j) (lg_L X) := fun j hj => by
    rw [nI_add]
    exact vp_in_nI (by omega) (by omega)
  exact ⟨key 1 (by decide), key 2 (by decide), key 3 (by decide), key 4 (by decide), key 5 (by decide)⟩
set_option maxHeartbeats 2000000 in
theorem lw_loop {X : lg_X} (hL : lg_L X ≤ 3072) {a : Nat} {R : Int32 → Nat → Nat → xg_Y → xg_H → mg_H → Prop} (cR : ∀ (y3 : Int32) (k n : Nat) (Y : xg_Y) (h : xg_H) (g : mg_H), wp_law_round X a R y3 k n Y h g → R y3 k n Y h g) : ∀ d y, lg_L X ≤ y + d → y ≤ 4000 → ∀ k n Y h g, INV a k n Y h g → R (nI y) k n Y h g
  | 0, y, hd, hy, k, n, Y, h, g, I => by
    obtain ⟨nm, b, sv, V⟩ := I
    refine cR _ _ _ _ _ _ ⟨fun _ => IV_room V, fun c => absurd ((lw_end hL hy).mpr (by omega)) c⟩
  | d + 1, y, hd, hy, k, n, Y, h, g, I => by
    obtain ⟨nm, b, sv, V⟩ := I
    by_cases c : lg_L X < y + 6
    · exact cR _ _ _ _ _ _ ⟨fun _ => IV_room V, fun c2 => absurd ((lw_end hL hy).mpr c) c2⟩
    · have hv := vps_of (X := X) hL (show y + 6 ≤ lg_L X by omega)
      have ih : ∀ k n Y h g, INV a k n Y h g → R (nI y + 6) k n Y h g := by
        intro k n Y h g I
        rw [nl_6, nI_add]
        exact lw_loop hL cR d (y + 6) (by omega) (by omega) k n Y h g I
      refine cR _ _ _ _ _ _ ⟨fun _ => IV_room V, fun _ => ⟨vp_in_nI (by omega) (by omega), fun z _ => ⟨fun _ => lw_0 V hv ih, fun _ => lw_1 V hv ih, fun _ => lw_2 V hv ih, fun _ => lw_3 V hv ih, fun _ => lw_4 V hv ih, fun _ => lw_5 V hv ih, fun _ => lw_6 V hv ih, fun _ => lw_7 V hv ih, fun _ => lw_8 V hv ih, fun _ => lw_9 V hv ih, fun _ => lw_10 V hv ih, fun _ => lw_11 V hv ih, fun _ => lw_12 V hv ih, fun _ => lw_13 V hv ih, fun _ => lw_14 V hv ih, fun _ => lw_15 V hv ih, fun _ => lw_16 V hv ih, fun _ => lw_17 V hv ih, fun _ => lw_18 V hv ih, fun _ => lw_19 V hv ih, fun _ => lw_20 V hv ih, fun _ => lw_21 V hv ih, fun _ => lw_22 V hv ih, fun _ => lw_23 V hv ih, fun _ => lw_24 V hv ih, fun _ => lw_25 V hv ih, fun _ => lw_26 V hv ih, fun _ => lw_27 V hv ih, fun _ => lw_28 V hv ih, fun _ => lw_29 V hv ih, fun _ => lw_30 V hv ih, fun _ _ _ _ _ _ _ _ _ _ _ _ _ _ _ _ _ _ _ _ _ _ _ _ _ _ _ _ _ _ _ => lw_31 V hv ih⟩⟩⟩
theorem VAL_0 : VAL (mg_i mq_0) := by
  have z : ∀ c j, c ≠ 4 → mg_i mq_0 c j = nI 0 := fun c j hc => if_neg (fun e => hc e.1)
  have no : ∀ s k x, ¬ okN (mg_i mq_0) s x k := fun s k x hx => absurd (okN_lt (m := 0) (by decide) (z 5 s (by decide)) hx) (Nat.not_lt_zero k)
  exact ⟨fun s _ => ⟨0, by decide, z 5 s (by decide)⟩, ⟨0, by decide, z 2 0 (by decide)⟩, fun k x hx => absurd hx (no 0 k x), fun k x hx => absurd hx (no 1 k x), fun k x hx => absurd hx (no 2 k x), fun k x hx => absurd hx (no 3 k x)⟩
theorem lw_sem_all (X : lg_X) (hL : lg_L X ≤ 3072) : lw_sem X := by
  intro q
  refine ⟨77, 10914, ⟨by decide, by decide⟩, ?_⟩
  show wp_X11_init 77 10914 _ _ ((fun i => q + i) 0) _
  refine sp_X11_init (nm := fun i => q + i) (pk := pkf mq_0) (fun i j e => Nat.add_left_cancel e) is_new (by decide) (by decide) (fun nm' Y' h' C e0 => ?_)
  intro R cR
  refine lw_loop hL cR (lg_L X) 0 (by omega) (by decide) _ _ _ _ _ ⟨nm', fun _ => 0, fun _ => false, e0, C, VAL_0, fun i _ s => (by cases s), fun i _ => ?_, ⟨by decide, by decide⟩, by decide, by decide⟩
  show mg_i mq_0 60 i = 0
  have z : ∀ c j, c ≠ 4 → mg_i mq_0 c j = 0 := fun c j hc => if_neg (fun e => hc e.1)
  exact z 60 i (by decide)
