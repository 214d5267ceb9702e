/-! image, again of the reference; Text.become of the class -/
theorem sp_image {Q : Int32 → mg_H → Prop} {x : Int32} {h : mg_H} (q1 : ∀ k, k < 3 → x = nI k → Q 1 (mg_ui (mp_cpa (mg_ui h 0 0 0) 0 (k + 1)) 60 k 1)) (q0 : (x < 0 ∨ 2 < x) → Q 0 (mg_ui h 0 0 0)) : wp_image Q x h := by
  unfold wp_image
  intro h1 e1
  subst e1
  refine sp_in (fun a b => ⟨fun _ => ?_, fun c => absurd c (by decide)⟩) (fun c => ⟨fun c2 => absurd rfl c2, fun _ => q0 c⟩)
  obtain ⟨k, hk, rfl⟩ := mp_rng (m := 3) (by decide) a b
  rw [nI_1, nI_clamp (by omega)]
  refine sp_copyAll (f := 0) (t := k + 1) (by decide) (by omega) ⟨vp_in_nI hk (by decide), fun h5 e5 => ?_⟩
  subst e5
  exact q1 k hk rfl
theorem sp_again {Q : Int32 → mg_H → Prop} {x : Int32} {h : mg_H} (q1 : ∀ k, k < 3 → x = nI k → ¬ mg_i h 60 k = 0 → Q 1 (mp_cpa (mg_ui h 0 0 0) (k + 1) 0)) (q2 : ∀ k, k < 3 → x = nI k → mg_i h 60 k = 0 → Q 0 (mg_ui h 0 0 0)) (q0 : (x < 0 ∨ 2 < x) → Q 0 (mg_ui h 0 0 0)) : wp_again Q x h := by
  unfold wp_again
  intro h1 e1
  subst e1
  refine sp_in (fun a b => ⟨fun c => absurd c (by decide), fun _ => ?_⟩) (fun c => ⟨fun _ => q0 c, fun c2 => absurd rfl c2⟩)
  obtain ⟨k, hk, rfl⟩ := mp_rng (m := 3) (by decide) a b
  rw [nI_1, nI_clamp (by omega)]
  refine ⟨vp_in_nI hk (by decide), fun c => ?_, fun c => q2 k hk rfl c⟩
  exact sp_copyAll (f := k + 1) (t := 0) (by omega) (by decide) (q1 k hk rfl c)
/-- text b becomes text a -/
def xt_bec (h : xg_H) (a a1 a2 a3 b b1 b2 b3 n n3 : Nat) : xg_H := xg_cp (xg_cp (xg_cp (xg_ui h b 0 (xg_i h a 0)) a1 b1 0 0 n) a2 b2 0 0 n) a3 b3 0 0 n3
theorem sp_X8_become {Y : xg_Y} {Q : xg_H → Prop} {h : xg_H} {a a1 a2 a3 b b1 b2 b3 n n3 : Nat} (kb : xg_is Y b 8) (ka : xg_is Y a 8) (ob1 : xg_o h b 1 = some b1) (ob2 : xg_o h b 2 = some b2) (ob3 : xg_o h b 3 = some b3) (oa1 : xg_o h a 1 = some a1) (oa2 : xg_o h a 2 = some a2) (oa3 : xg_o h a 3 = some a3) (kb1 : xg_is Y b1 22) (kb2 : xg_is Y b2 22) (kb3 : xg_is Y b3 22) (ka1 : xg_is Y a1 22) (ka2 : xg_is Y a2 22) (ka3 : xg_is Y a3 22) (lb1 : xg_n Y b1 = n) (lb2 : xg_n Y b2 = n) (lb3 : xg_n Y b3 = n3) (la1 : xg_n Y a1 = n) (la2 : xg_n Y a2 = n) (la3 : xg_n Y a3 = n3) (hn : n < 2 ^ 31) (hn3 : n3 < 2 ^ 31) (q : Q (xt_bec h a a1 a2 a3 b b1 b2 b3 n n3)) : wp_X8_become Y Q b (some a) h := by
  have em : ∀ m : Nat, m < 2 ^ 31 → ∀ z : Int32, z = (if Int32.ofNat m < Int32.ofNat m then Int32.ofNat m else Int32.ofNat m) → z = nI m := fun m _ z e => by rw [e]; split <;> rfl
  unfold wp_X8_become
  refine ⟨kb, a, rfl, ka, fun h2 e2 => ⟨b1, by rw [e2]; exact ob1, kb1, a1, by rw [e2]; exact oa1, ka1, ?_⟩⟩
  rw [la1, lb1]
  intro z5 e5
  rw [em n hn z5 e5, nI_clamp hn, sb_cl0]
  refine ⟨by decide, by decide, nI_pos hn, by omega, by omega, fun h6 e6 => ⟨b2, by rw [e6, e2]; exact ob2, kb2, a2, by rw [e6, e2]; exact oa2, ka2, ?_⟩⟩
  rw [la2, lb2]
  intro z9 e9
  rw [em n hn z9 e9, nI_clamp hn]
  refine ⟨by decide, by decide, nI_pos hn, by omega, by omega, fun h10 e10 => ⟨b3, by rw [e10, e6, e2]; exact ob3, kb3, a3, by rw [e10, e6, e2]; exact oa3, ka3, ?_⟩⟩
  rw [la3, lb3]
  intro z13 e13
  rw [em n3 hn3 z13 e13, nI_clamp hn3]
  refine ⟨by decide, by decide, nI_pos hn3, by omega, by omega, fun h14 e14 => ?_⟩
  subst e14
  subst e10
  subst e6
  subst e2
  exact q
