/-! the reference's methods, read: wp_m Q .. h says that m, called at the state h, comes back and Q holds of its answer and state (what its bytecode does, block by block; R.. are what holds at the joins) -/
def wp_in (Q : Int32 → mg_H → Prop) (x0 : Int32) (x1 : Int32) (x2 : Int32) (h : mg_H) : Prop :=
  (((x0 < x1) → Q 0 h) ∧ ((¬ x0 < x1) → (((x2 < x0) → Q 0 h) ∧ ((¬ x2 < x0) → Q 1 h))))
def wp_has (Q : Int32 → mg_H → Prop) (x0 : Int32) (x1 : Int32) (h : mg_H) : Prop :=
  (((¬ ((x0 >>> (x1 &&& 31)) &&& 1) = 1) → Q 0 h) ∧ ((((x0 >>> (x1 &&& 31)) &&& 1) = 1) → Q 1 h))
def wp_greater (Q : Int32 → mg_H → Prop) (x0 : Int32) (x1 : Int32) (h : mg_H) : Prop :=
  (((x0 ≤ x1) → Q x1 h) ∧ ((¬ x0 ≤ x1) → Q x0 h))
def wp_lesser (Q : Int32 → mg_H → Prop) (x0 : Int32) (x1 : Int32) (h : mg_H) : Prop :=
  (((x1 ≤ x0) → Q x1 h) ∧ ((¬ x1 ≤ x0) → Q x0 h))
def wp_ones (Q : Int32 → mg_H → Prop) (x0 : Int32) (h : mg_H) : Prop :=
  ∀ (R4 : Int32 → Int32 → mg_H → Prop) (R23 : Int32 → Int32 → Int32 → mg_H → Prop),
  (∀ (y1 : Int32) (y2 : Int32) (h : mg_H), ((((4 ≤ y2) → Q y1 h) ∧ ((¬ 4 ≤ y2) → wp_has (fun r2 h1 => (((r2 = 0) → R23 y2 0 y1 h1) ∧ ((¬ r2 = 0) → R23 y2 1 y1 h1))) x0 y2 h))) → R4 y1 y2 h) →
  (∀ (y2 : Int32) (s0 : Int32) (s1 : Int32) (h : mg_H), (∀ z3 : Int32, z3 = s1 + s0 → ∀ z4 : Int32, z4 = y2 + 1 → R4 z3 z4 h) → R23 y2 s0 s1 h) →
  (R4 0 0 h)
def wp_copyRow (Q : mg_H → Prop) (c0 : Nat) (x1 : Int32) (x2 : Int32) (x3 : Int32) (h : mg_H) : Prop :=
  (c0 ∈ mg_cs ∧ mg_kd c0 = 2) ∧ (∀ (R3 : Int32 → mg_H → Prop),
  (∀ (y4 : Int32) (h : mg_H), ((((x1 ≤ y4) → Q h) ∧ ((¬ x1 ≤ y4) → vp_in ((x1 * x2) + y4) (mg_len c0) ∧ (vp_in ((x1 * x3) + y4) (mg_len c0) ∧ (∀ h1 : mg_H, h1 = mg_ui h c0 ((x1 * x3) + y4).toNatClampNeg (mg_i h c0 ((x1 * x2) + y4).toNatClampNeg) → ∀ z2 : Int32, z2 = y4 + 1 → R3 z2 h1))))) → R3 y4 h) →
  (R3 0 h))
def wp_copyAll (Q : mg_H → Prop) (x1 : Int32) (x2 : Int32) (h : mg_H) : Prop :=
  ∀ (R2 : Int32 → mg_H → Prop),
  (∀ (y3 : Int32) (h : mg_H), ((((600 ≤ y3) → wp_copyRow (fun h1 => wp_copyRow (fun h2 => wp_copyRow (fun h3 => wp_copyRow (fun h4 => wp_copyRow (fun h5 => wp_copyRow (fun h6 => wp_copyRow (fun h7 => wp_copyRow (fun h8 => Q h8) 9 14 x1 x2 h7) 8 34 x1 x2 h6) 7 162 x1 x2 h5) 6 26 x1 x2 h4) 5 4 x1 x2 h3) 4 1 x1 x2 h2) 3 1 x1 x2 h1) 2 1 x1 x2 h) ∧ ((¬ 600 ≤ y3) → vp_in ((600 * x1) + y3) (mg_len 1) ∧ (vp_in ((600 * x2) + y3) (mg_len 1) ∧ (∀ h9 : mg_H, h9 = mg_ui h 1 ((600 * x2) + y3).toNatClampNeg (vp_nar .byte (mg_i h 1 ((600 * x1) + y3).toNatClampNeg)) → ∀ z10 : Int32, z10 = y3 + 1 → R2 z10 h9))))) → R2 y3 h) →
  (R2 0 h)
def wp_is (Q : Int32 → mg_H → Prop) (x1 : Int32) (x2 : Int32) (h : mg_H) : Prop :=
  vp_in x1 (mg_len 5) ∧ (wp_in (fun r2 h1 => mg_b r2 ∧ Q r2 h1) x2 0 ((mg_i h 5 x1.toNatClampNeg) - 1) h)
def wp_four (Q : mg_H → Prop) (x1 : Int32) (h : mg_H) : Prop :=
  ∀ (R3 : Int32 → mg_H → Prop),
  (∀ (y2 : Int32) (h : mg_H), ((((y2 < 0) → Q h) ∧ ((¬ y2 < 0) → vp_in 0 (mg_len 2) ∧ (vp_in (mg_i h 2 (0 : Int32).toNatClampNeg) (mg_len 1) ∧ (∀ h1 : mg_H, h1 = mg_ui h 1 (mg_i h 2 (0 : Int32).toNatClampNeg).toNatClampNeg (vp_nar .byte ((x1 >>> (y2 &&& 31)).toInt8.toInt32)) → vp_in 0 (mg_len 2) ∧ (vp_in 0 (mg_len 2) ∧ (∀ h2 : mg_H, h2 = mg_ui h1 2 (0 : Int32).toNatClampNeg ((mg_i h1 2 (0 : Int32).toNatClampNeg) + 1) → ∀ z3 : Int32, z3 = y2 + (-8) → R3 z3 h2))))))) → R3 y2 h) →
  (R3 24 h)
def wp_feed (Q : Int32 → mg_H → Prop) (x1 : Int32) (x2 : Int32) (x3 : Int32) (x4 : Int32) (x5 : Int32) (h : mg_H) : Prop :=
  ∀ h1 : mg_H, h1 = mg_ui h 0 0 0 → vp_in 0 (mg_len 2) ∧ ((((((mg_i h1 2 (0 : Int32).toNatClampNeg) + 20) ≤ 600) → wp_four (fun h2 => wp_four (fun h3 => wp_four (fun h4 => wp_four (fun h5 => wp_four (fun h6 => vp_in 0 (mg_len 2) ∧ (Q (mg_i h6 2 (0 : Int32).toNatClampNeg) h6)) x5 h5) x4 h4) x3 h3) x2 h2) x1 h1) ∧ ((¬ ((mg_i h1 2 (0 : Int32).toNatClampNeg) + 20) ≤ 600) → Q (-1) h1)))
def wp_end (Q : Int32 → mg_H → Prop) (x1 : Int32) (h : mg_H) : Prop :=
  ∀ h1 : mg_H, h1 = mg_ui h 0 0 0 → vp_in 0 (mg_len 2) ∧ (wp_in (fun r3 h2 => (((¬ r3 = 0) → vp_in 0 (mg_len 2) ∧ (∀ h4 : mg_H, h4 = mg_ui h2 2 (0 : Int32).toNatClampNeg x1 → Q x1 h4)) ∧ ((r3 = 0) → Q (-1) h2))) x1 0 (mg_i h1 2 (0 : Int32).toNatClampNeg) h1)
def wp_see (Q : Int32 → mg_H → Prop) (h : mg_H) : Prop :=
  ((((mg_i h 0 11) ≤ (mg_i h 0 10)) → Q (-1) h) ∧ ((¬ (mg_i h 0 11) ≤ (mg_i h 0 10)) → vp_in (mg_i h 0 10) (mg_len 1) ∧ (Q ((mg_i h 1 (mg_i h 0 10).toNatClampNeg) &&& 255) h)))
def wp_token (Q : mg_H → Prop) (h : mg_H) : Prop :=
  ∀ (R0 : mg_H → Prop) (R18 : mg_H → Prop) (R263 : Int32 → mg_H → Prop) (R163 : Int32 → mg_H → Prop) (R74 : Int32 → mg_H → Prop) (R235 : Int32 → mg_H → Prop) (R205 : Int32 → Int32 → mg_H → Prop) (R136 : Int64 → mg_H → Prop),
  (∀ (h : mg_H), (wp_see (fun r2 h1 => (((r2 = 10) → R18 h1) ∧ ((¬ r2 = 10) → wp_see (fun r4 h3 => (((¬ r4 = 32) → ∀ h5 : mg_H, h5 = mg_ui h3 0 12 (mg_i h3 0 10) → wp_see (fun r7 h6 => ∀ h8 : mg_H, h8 = mg_ul h6 0 15 0 → (((0 ≤ r7) → wp_in (fun r10 h9 => (((r10 = 0) → wp_in (fun r12 h11 => (((r12 = 0) → ∀ h13 : mg_H, h13 = mg_ui h11 0 10 ((mg_i h11 0 10) + 1) → (((¬ r7 = 59) → R263 1 h13) ∧ ((r7 = 59) → R263 4 h13))) ∧ ((¬ r12 = 0) → ∀ h14 : mg_H, h14 = mg_ui h11 0 14 0 → R163 0 h14))) r7 48 57 h9) ∧ ((¬ r10 = 0) → R74 0 h9))) r7 97 122 h8) ∧ ((¬ 0 ≤ r7) → ∀ h15 : mg_H, h15 = mg_ui h8 0 13 0 → Q h15))) h5) ∧ ((r4 = 32) → R18 h3))) h1))) h) → R0 h) →
  (∀ (h : mg_H), (∀ h16 : mg_H, h16 = mg_ui h 0 10 ((mg_i h 0 10) + 1) → R0 h16) → R18 h) →
  (∀ (s0 : Int32) (h : mg_H), (∀ h17 : mg_H, h17 = mg_ui h 0 13 s0 → Q h17) → R263 s0 h) →
  (∀ (y2 : Int32) (h : mg_H), (wp_see (fun r19 h18 => wp_in (fun r21 h20 => (((r21 = 0) → (((y2 ≤ 2) → R235 3 h20) ∧ ((¬ y2 ≤ 2) → R235 1 h20))) ∧ ((¬ r21 = 0) → (((2 ≤ y2) → R205 y2 (mg_i h20 0 14) h20) ∧ ((¬ 2 ≤ y2) → wp_see (fun r23 h22 => R205 y2 (((10 * (mg_i h20 0 14)) + r23) - 48) h22) h20))))) r19 48 57 h18) h) → R163 y2 h) →
  (∀ (y2 : Int32) (h : mg_H), (wp_see (fun r25 h24 => wp_in (fun r27 h26 => (((r27 = 0) → (((y2 ≤ 8) → R136 (mg_l h26 0 15) h26) ∧ ((¬ y2 ≤ 8) → R136 0 h26))) ∧ ((¬ r27 = 0) → wp_see (fun r29 h28 => ∀ h30 : mg_H, h30 = mg_ul h28 0 15 (((mg_l h26 0 15) <<< ((8 : Int32).toInt64 &&& 63)) ||| (r29.toInt64)) → ∀ h31 : mg_H, h31 = mg_ui h30 0 10 ((mg_i h30 0 10) + 1) → ∀ z32 : Int32, z32 = y2 + 1 → R74 z32 h31) h26))) r25 97 122 h24) h) → R74 y2 h) →
  (∀ (s0 : Int32) (h : mg_H), (∀ h33 : mg_H, h33 = mg_ui h 0 13 s0 → Q h33) → R235 s0 h) →
  (∀ (y2 : Int32) (s0 : Int32) (h : mg_H), (∀ h34 : mg_H, h34 = mg_ui h 0 14 s0 → ∀ h35 : mg_H, h35 = mg_ui h34 0 10 ((mg_i h34 0 10) + 1) → ∀ z36 : Int32, z36 = y2 + 1 → R163 z36 h35) → R205 y2 s0 h) →
  (∀ (s0 : Int64) (h : mg_H), (∀ h37 : mg_H, h37 = mg_ul h 0 15 s0 → ∀ h38 : mg_H, h38 = mg_ui h37 0 13 2 → Q h38) → R136 s0 h) →
  (R0 h)
def wp_fails (Q : Int32 → mg_H → Prop) (h : mg_H) : Prop :=
  ∀ h1 : mg_H, h1 = mg_ui h 0 16 (mg_i h 0 12) → Q 0 h1
def wp_addsFault (Q : mg_H → Prop) (x1 : Int32) (x2 : Int32) (h : mg_H) : Prop :=
  ∀ (R31 : mg_H → Prop),
  (∀ (h : mg_H), (∀ h1 : mg_H, h1 = mg_ui h 0 17 x1 → ∀ h2 : mg_H, h2 = mg_ui h1 0 18 x2 → Q h2) → R31 h) →
  (((((mg_i h 0 17) = 0) → R31 h) ∧ ((¬ (mg_i h 0 17) = 0) → (((x2 < (mg_i h 0 18)) → R31 h) ∧ ((¬ x2 < (mg_i h 0 18)) → (((¬ x2 = (mg_i h 0 18)) → Q h) ∧ ((x2 = (mg_i h 0 18)) → ((((mg_i h 0 17) ≤ x1) → Q h) ∧ ((¬ (mg_i h 0 17) ≤ x1) → R31 h)))))))))
def wp_take (Q : Int32 → mg_H → Prop) (x1 : Int32) (x2 : Int32) (x3 : Int32) (h : mg_H) : Prop :=
  ∀ (R49 : mg_H → Prop),
  (∀ (h : mg_H), (wp_token (fun h8 => Q 1 h8) h) → R49 h) →
  (((((mg_i h 0 13) = 3) → vp_in x1 (mg_len 20) ∧ (∀ h1 : mg_H, h1 = mg_ui h 20 x1.toNatClampNeg (mg_i h 0 14) → wp_in (fun r3 h2 => (((¬ r3 = 0) → R49 h2) ∧ ((r3 = 0) → wp_addsFault (fun h4 => ∀ h5 : mg_H, h5 = mg_ui h4 0 22 0 → R49 h5) 2 (mg_i h2 0 12) h2))) (mg_i h1 0 14) x2 x3 h1)) ∧ ((¬ (mg_i h 0 13) = 3) → wp_fails (fun r7 h6 => mg_b r7 ∧ Q r7 h6) h)))
def wp_full (Q : mg_H → Prop) (x1 : Int32) (x2 : Int32) (h : mg_H) : Prop :=
  vp_in 0 (mg_len 19) ∧ ((((¬ (mg_i h 19 (0 : Int32).toNatClampNeg) = x1) → Q h) ∧ (((mg_i h 19 (0 : Int32).toNatClampNeg) = x1) → wp_addsFault (fun h1 => Q h1) 3 x2 h)))
def wp_glassLine (Q : Int32 → mg_H → Prop) (x1 : Int32) (h : mg_H) : Prop :=
  ∀ (R85 : Int32 → mg_H → Prop),
  (∀ (y2 : Int32) (h : mg_H), (wp_lesser (fun r13 h12 => vp_in 0 (mg_len 19) ∧ (∀ h14 : mg_H, h14 = mg_ui h12 19 (0 : Int32).toNatClampNeg r13 → Q 1 h14)) 4 (y2 + 1) h) → R85 y2 h) →
  (wp_full (fun h1 => wp_token (fun h2 => wp_take (fun r4 h3 => (((¬ r4 = 0) → vp_in 0 (mg_len 20) ∧ (wp_lesser (fun r6 h5 => wp_take (fun r8 h7 => (((¬ r8 = 0) → vp_in 0 (mg_len 19) ∧ (∀ z9 : Int32, z9 = mg_i h7 19 (0 : Int32).toNatClampNeg → (((4 ≤ z9) → R85 z9 h7) ∧ ((¬ 4 ≤ z9) → vp_in 0 (mg_len 20) ∧ (vp_in (1 + z9) (mg_len 19) ∧ (∀ h10 : mg_H, h10 = mg_ui h7 19 (1 + z9).toNatClampNeg (mg_i h7 20 (0 : Int32).toNatClampNeg) → vp_in 1 (mg_len 20) ∧ (vp_in (5 + z9) (mg_len 19) ∧ (∀ h11 : mg_H, h11 = mg_ui h10 19 (5 + z9).toNatClampNeg (mg_i h10 20 (1 : Int32).toNatClampNeg) → R85 z9 h11)))))))) ∧ ((r8 = 0) → Q 0 h7))) 1 0 r6 h5) 7 (mg_i h3 20 (0 : Int32).toNatClampNeg) h3)) ∧ ((r4 = 0) → Q 0 h3))) 0 1 7 h2) h1) 4 x1 h)
def wp_shelfLine (Q : Int32 → mg_H → Prop) (x1 : Int64) (x3 : Int32) (h : mg_H) : Prop :=
  (((¬ (lg_cmp x1 444199957363) = 0) → ((((lg_cmp x1 482955846501) = 0) → wp_token (fun h1 => wp_take (fun r3 h2 => (((r3 = 0) → Q 0 h2) ∧ ((¬ r3 = 0) → wp_take (fun r5 h4 => (((¬ r5 = 0) → vp_in 0 (mg_len 20) ∧ (wp_greater (fun r7 h6 => ∀ h8 : mg_H, h8 = mg_ui h6 0 21 r7 → ((((mg_i h8 0 22) = 0) → Q 1 h8) ∧ ((¬ (mg_i h8 0 22) = 0) → vp_in 0 (mg_len 20) ∧ (vp_in 1 (mg_len 20) ∧ (vp_in (9 + (mg_i h8 20 (0 : Int32).toNatClampNeg)) (mg_len 19) ∧ (∀ h9 : mg_H, h9 = mg_ui h8 19 (9 + (mg_i h8 20 (0 : Int32).toNatClampNeg)).toNatClampNeg (mg_i h8 20 (1 : Int32).toNatClampNeg) → Q 1 h9)))))) (mg_i h4 0 21) (mg_i h4 20 (0 : Int32).toNatClampNeg) h4)) ∧ ((r5 = 0) → Q 0 h4))) 1 0 9 h2))) 0 0 3 h1) h) ∧ ((¬ (lg_cmp x1 482955846501) = 0) → wp_fails (fun r11 h10 => mg_b r11 ∧ Q r11 h10) h))) ∧ (((lg_cmp x1 444199957363) = 0) → wp_glassLine (fun r13 h12 => mg_b r13 ∧ Q r13 h12) x3 h))
def wp_deedBy (Q : Int32 → mg_H → Prop) (x1 : Int64) (h : mg_H) : Prop :=
  (((¬ (lg_cmp x1 2002872692) = 0) → (((¬ (lg_cmp x1 1953854062) = 0) → (((¬ (lg_cmp x1 7102841) = 0) → (((¬ (lg_cmp x1 495873781348) = 0) → (((¬ (lg_cmp x1 1818583403) = 0) → Q (-1) h) ∧ (((lg_cmp x1 1818583403) = 0) → Q 4 h))) ∧ (((lg_cmp x1 495873781348) = 0) → Q 3 h))) ∧ (((lg_cmp x1 7102841) = 0) → Q 2 h))) ∧ (((lg_cmp x1 1953854062) = 0) → Q 1 h))) ∧ (((lg_cmp x1 2002872692) = 0) → Q 0 h))
def wp_keepTwo (Q : mg_H → Prop) (x1 : Int32) (x2 : Int32) (x3 : Int32) (h : mg_H) : Prop :=
  ∀ (R38 : Int32 → mg_H → Prop),
  (∀ (y4 : Int32) (h : mg_H), (wp_lesser (fun r5 h4 => vp_in 0 (mg_len 19) ∧ (∀ h6 : mg_H, h6 = mg_ui h4 19 (0 : Int32).toNatClampNeg r5 → Q h6)) x1 (y4 + 1) h) → R38 y4 h) →
  (vp_in 0 (mg_len 19) ∧ (∀ z1 : Int32, z1 = mg_i h 19 (0 : Int32).toNatClampNeg → (((x1 ≤ z1) → R38 z1 h) ∧ ((¬ x1 ≤ z1) → vp_in (1 + (2 * z1)) (mg_len 19) ∧ (∀ h2 : mg_H, h2 = mg_ui h 19 (1 + (2 * z1)).toNatClampNeg x2 → vp_in (2 + (2 * z1)) (mg_len 19) ∧ (∀ h3 : mg_H, h3 = mg_ui h2 19 (2 + (2 * z1)).toNatClampNeg x3 → R38 z1 h3))))))
def wp_dayLine (Q : Int32 → mg_H → Prop) (x1 : Int64) (x3 : Int32) (h : mg_H) : Prop :=
  ∀ (R41 : Int32 → Int32 → Int32 → mg_H → Prop) (R52 : Int32 → Int32 → Int32 → Int32 → mg_H → Prop),
  (∀ (y4 : Int32) (s0 : Int32) (s1 : Int32) (h : mg_H), ((((¬ y4 = 0) → R52 y4 3 s0 s1 h) ∧ ((y4 = 0) → R52 y4 9 s0 s1 h))) → R41 y4 s0 s1 h) →
  (∀ (y4 : Int32) (s0 : Int32) (s1 : Int32) (s2 : Int32) (h : mg_H), (wp_take (fun r8 h7 => (((¬ r8 = 0) → vp_in 0 (mg_len 20) ∧ (wp_keepTwo (fun h9 => Q 1 h9) 40 y4 (mg_i h7 20 (0 : Int32).toNatClampNeg) h7)) ∧ ((r8 = 0) → Q 0 h7))) s2 s1 s0 h) → R52 y4 s0 s1 s2 h) →
  (wp_deedBy (fun r2 h1 => (((¬ r2 = (-1)) → wp_full (fun h3 => wp_token (fun h4 => (((¬ r2 = 0) → R41 r2 0 0 h4) ∧ ((r2 = 0) → R41 r2 1 0 h4))) h3) 40 x3 h1) ∧ ((r2 = (-1)) → wp_fails (fun r6 h5 => mg_b r6 ∧ Q r6 h5) h1))) x1 h)
def wp_logLine (Q : Int32 → mg_H → Prop) (x1 : Int64) (x3 : Int32) (h : mg_H) : Prop :=
  ∀ (R21 : mg_H → Prop) (R57 : mg_H → Prop),
  (∀ (h : mg_H), (wp_full (fun h3 => wp_token (fun h4 => vp_in 0 (mg_len 20) ∧ (∀ h5 : mg_H, h5 = mg_ui h4 20 (0 : Int32).toNatClampNeg (-1) → (((¬ (lg_cmp x1 7496046) = 0) → R57 h5) ∧ (((lg_cmp x1 7496046) = 0) → wp_take (fun r7 h6 => (((r7 = 0) → Q 0 h6) ∧ ((¬ r7 = 0) → R57 h6))) 0 0 3 h5)))) h3) 8 x3 h) → R21 h) →
  (∀ (h : mg_H), (wp_take (fun r9 h8 => (((¬ r9 = 0) → vp_in 1 (mg_len 20) ∧ (vp_in 0 (mg_len 20) ∧ (wp_keepTwo (fun h10 => Q 1 h10) 8 (mg_i h8 20 (1 : Int32).toNatClampNeg) (mg_i h8 20 (0 : Int32).toNatClampNeg) h8))) ∧ ((r9 = 0) → Q 0 h8))) 1 1 40 h) → R57 h) →
  (((((lg_cmp x1 7496046) = 0) → R21 h) ∧ ((¬ (lg_cmp x1 7496046) = 0) → ((((lg_cmp x1 487301145972) = 0) → R21 h) ∧ ((¬ (lg_cmp x1 487301145972) = 0) → wp_fails (fun r2 h1 => mg_b r2 ∧ Q r2 h1) h)))))
def wp_orderLine (Q : Int32 → mg_H → Prop) (x1 : Int64) (x3 : Int32) (h : mg_H) : Prop :=
  ∀ (R67 : Int32 → mg_H → Prop),
  (∀ (y4 : Int32) (h : mg_H), (wp_lesser (fun r10 h9 => vp_in 0 (mg_len 19) ∧ (∀ h11 : mg_H, h11 = mg_ui h9 19 (0 : Int32).toNatClampNeg r10 → Q 1 h11)) 6 (y4 + 1) h) → R67 y4 h) →
  (((((lg_cmp x1 1936744814) = 0) → wp_full (fun h1 => wp_token (fun h2 => wp_take (fun r4 h3 => (((¬ r4 = 0) → vp_in 0 (mg_len 19) ∧ (∀ z5 : Int32, z5 = mg_i h3 19 (0 : Int32).toNatClampNeg → (((6 ≤ z5) → R67 z5 h3) ∧ ((¬ 6 ≤ z5) → vp_in 0 (mg_len 20) ∧ (vp_in (1 + z5) (mg_len 19) ∧ (∀ h6 : mg_H, h6 = mg_ui h3 19 (1 + z5).toNatClampNeg (mg_i h3 20 (0 : Int32).toNatClampNeg) → R67 z5 h6)))))) ∧ ((r4 = 0) → Q 0 h3))) 0 1 30 h2) h1) 6 x3 h) ∧ ((¬ (lg_cmp x1 1936744814) = 0) → wp_fails (fun r8 h7 => mg_b r8 ∧ Q r8 h7) h)))
def wp_lineOf (Q : Int32 → mg_H → Prop) (x1 : Int32) (x2 : Int64) (x4 : Int32) (h : mg_H) : Prop :=
  (((¬ x1 = 0) → (((¬ x1 = 1) → (((¬ x1 = 2) → wp_orderLine (fun r2 h1 => mg_b r2 ∧ Q r2 h1) x2 x4 h) ∧ ((x1 = 2) → wp_logLine (fun r4 h3 => mg_b r4 ∧ Q r4 h3) x2 x4 h))) ∧ ((x1 = 1) → wp_dayLine (fun r6 h5 => mg_b r6 ∧ Q r6 h5) x2 x4 h))) ∧ ((x1 = 0) → wp_shelfLine (fun r8 h7 => mg_b r8 ∧ Q r8 h7) x2 x4 h))
def wp_allLines (Q : Int32 → mg_H → Prop) (x1 : Int32) (h : mg_H) : Prop :=
  ∀ (R2 : Int32 → mg_H → Prop) (R34 : Int32 → Int64 → mg_H → Prop) (R67 : Int32 → mg_H → Prop) (R75 : Int32 → mg_H → Prop),
  (∀ (y2 : Int32) (h : mg_H), ((((y2 = 0) → mg_b y2 ∧ Q y2 h) ∧ ((¬ y2 = 0) → ((((mg_i h 0 13) = 0) → mg_b y2 ∧ Q y2 h) ∧ ((¬ (mg_i h 0 13) = 0) → ∀ z1 : Int32, z1 = mg_i h 0 12 → (((¬ (mg_i h 0 13) = 2) → R34 z1 0 h) ∧ (((mg_i h 0 13) = 2) → R34 z1 (mg_l h 0 15) h))))))) → R2 y2 h) →
  (∀ (y3 : Int32) (s0 : Int64) (h : mg_H), (∀ h2 : mg_H, h2 = mg_ui h 0 22 1 → wp_lineOf (fun r4 h3 => (((r4 = 0) → R67 r4 h3) ∧ ((¬ r4 = 0) → ((((mg_i h3 0 13) = 4) → R67 r4 h3) ∧ ((¬ (mg_i h3 0 13) = 4) → wp_fails (fun r6 h5 => R67 r6 h5) h3))))) x1 s0 y3 h2) → R34 y3 s0 h) →
  (∀ (y2 : Int32) (h : mg_H), ((((y2 = 0) → R75 y2 h) ∧ ((¬ y2 = 0) → wp_token (fun h7 => R75 y2 h7) h))) → R67 y2 h) →
  (∀ (y2 : Int32) (h : mg_H), (R2 y2 h) → R75 y2 h) →
  (R2 1 h)
def wp_readText (Q : Int32 → mg_H → Prop) (x1 : Int32) (h : mg_H) : Prop :=
  ∀ (R2 : Int32 → mg_H → Prop) (R102 : Int32 → mg_H → Prop) (R32 : Int32 → Int32 → mg_H → Prop) (R33 : Int32 → Int32 → Int32 → mg_H → Prop) (R119 : Int32 → Int32 → Int32 → mg_H → Prop) (R151 : Int32 → Int32 → mg_H → Prop),
  (∀ (y2 : Int32) (h : mg_H), ((((81 ≤ y2) → ∀ h1 : mg_H, h1 = mg_ui h 0 21 (-1) → ∀ h2 : mg_H, h2 = mg_ui h1 0 10 0 → ∀ h3 : mg_H, h3 = mg_ui h2 0 17 0 → wp_token (fun h4 => wp_allLines (fun r6 h5 => (((r6 = 0) → R102 r6 h5) ∧ ((¬ r6 = 0) → (((¬ x1 = 0) → R102 r6 h5) ∧ ((x1 = 0) → (((¬ (mg_i h5 0 17) = 0) → R102 r6 h5) ∧ (((mg_i h5 0 17) = 0) → vp_in 0 (mg_len 19) ∧ (((((mg_i h5 0 21) < (mg_i h5 19 (0 : Int32).toNatClampNeg)) → R102 r6 h5) ∧ ((¬ (mg_i h5 0 21) < (mg_i h5 19 (0 : Int32).toNatClampNeg)) → wp_addsFault (fun h7 => R102 r6 h7) 4 (mg_i h5 0 12) h5)))))))))) x1 h4) h3) ∧ ((¬ 81 ≤ y2) → (((¬ x1 = 0) → R32 y2 y2 h) ∧ ((x1 = 0) → wp_in (fun r9 h8 => (((r9 = 0) → R32 y2 y2 h8) ∧ ((¬ r9 = 0) → R33 y2 1 y2 h8))) y2 9 12 h))))) → R2 y2 h) →
  (∀ (y2 : Int32) (h : mg_H), ((((y2 = 0) → R119 y2 1 0 h) ∧ ((¬ y2 = 0) → R119 y2 (mg_i h 0 17) 0 h))) → R102 y2 h) →
  (∀ (y2 : Int32) (s0 : Int32) (h : mg_H), (R33 y2 0 s0 h) → R32 y2 s0 h) →
  (∀ (y2 : Int32) (s0 : Int32) (s1 : Int32) (h : mg_H), (vp_in s1 (mg_len 19) ∧ (∀ h10 : mg_H, h10 = mg_ui h 19 s1.toNatClampNeg s0 → ∀ z11 : Int32, z11 = y2 + 1 → R2 z11 h10)) → R33 y2 s0 s1 h) →
  (∀ (y2 : Int32) (s0 : Int32) (s1 : Int32) (h : mg_H), (vp_in s1 (mg_len 3) ∧ (∀ h12 : mg_H, h12 = mg_ui h 3 s1.toNatClampNeg s0 → (((¬ y2 = 0) → ((((mg_i h12 0 17) ≤ 0) → R151 (-1) 0 h12) ∧ ((¬ (mg_i h12 0 17) ≤ 0) → R151 (mg_i h12 0 18) 0 h12))) ∧ ((y2 = 0) → R151 (mg_i h12 0 16) 0 h12)))) → R119 y2 s0 s1 h) →
  (∀ (s0 : Int32) (s1 : Int32) (h : mg_H), (vp_in s1 (mg_len 4) ∧ (∀ h13 : mg_H, h13 = mg_ui h 4 s1.toNatClampNeg s0 → vp_in 0 (mg_len 3) ∧ ((((¬ (mg_i h13 3 (0 : Int32).toNatClampNeg) = 0) → Q 0 h13) ∧ (((mg_i h13 3 (0 : Int32).toNatClampNeg) = 0) → Q 1 h13))))) → R151 s0 s1 h) →
  (R2 0 h)
def wp_store (Q : mg_H → Prop) (c1 : Nat) (x2 : Int32) (x3 : Int32) (h : mg_H) : Prop :=
  (c1 ∈ mg_cs ∧ mg_kd c1 = 2) ∧ (∀ (R3 : Int32 → mg_H → Prop),
  (∀ (y4 : Int32) (h : mg_H), ((((x2 ≤ y4) → Q h) ∧ ((¬ x2 ≤ y4) → vp_in y4 (mg_len 19) ∧ (vp_in ((x2 * x3) + y4) (mg_len c1) ∧ (∀ h1 : mg_H, h1 = mg_ui h c1 ((x2 * x3) + y4).toNatClampNeg (mg_i h 19 y4.toNatClampNeg) → ∀ z2 : Int32, z2 = y4 + 1 → R3 z2 h1))))) → R3 y4 h) →
  (R3 0 h))
def wp_storeOf (Q : mg_H → Prop) (x1 : Int32) (x2 : Int32) (h : mg_H) : Prop :=
  (((¬ x1 = 0) → (((¬ x1 = 1) → (((¬ x1 = 2) → wp_store (fun h1 => Q h1) 9 7 x2 h) ∧ ((x1 = 2) → wp_store (fun h2 => Q h2) 8 17 x2 h))) ∧ ((x1 = 1) → wp_store (fun h3 => Q h3) 7 81 x2 h))) ∧ ((x1 = 0) → wp_store (fun h4 => Q h4) 6 13 x2 h))
def wp_text (Q : Int32 → mg_H → Prop) (x1 : Int32) (x2 : Int32) (h : mg_H) : Prop :=
  ∀ (R75 : mg_H → Prop) (R100 : Int32 → mg_H → Prop) (R118 : Int32 → Int32 → Int32 → Int32 → mg_H → Prop),
  (∀ (h : mg_H), (wp_readText (fun r11 h10 => (((¬ r11 = 0) → (((¬ x2 = (-1)) → R100 x2 h10) ∧ ((x2 = (-1)) → vp_in x1 (mg_len 5) ∧ (R100 (mg_i h10 5 x1.toNatClampNeg) h10)))) ∧ ((r11 = 0) → Q (-1) h10))) x1 h) → R75 h) →
  (∀ (s0 : Int32) (h : mg_H), (vp_in x1 (mg_len 5) ∧ ((((¬ x2 = (-1)) → R118 s0 0 (mg_i h 5 x1.toNatClampNeg) x1 h) ∧ ((x2 = (-1)) → R118 s0 1 (mg_i h 5 x1.toNatClampNeg) x1 h)))) → R100 s0 h) →
  (∀ (y3 : Int32) (s0 : Int32) (s1 : Int32) (s2 : Int32) (h : mg_H), (vp_in s2 (mg_len 5) ∧ (∀ h12 : mg_H, h12 = mg_ui h 5 s2.toNatClampNeg (s1 + s0) → wp_storeOf (fun h13 => Q y3 h13) x1 y3 h12)) → R118 y3 s0 s1 s2 h) →
  (∀ h1 : mg_H, h1 = mg_ui h 0 0 0 → vp_in 0 (mg_len 2) ∧ (∀ h2 : mg_H, h2 = mg_ui h1 0 11 (mg_i h1 2 (0 : Int32).toNatClampNeg) → vp_in 0 (mg_len 2) ∧ (∀ h3 : mg_H, h3 = mg_ui h2 2 (0 : Int32).toNatClampNeg 0 → vp_in 0 (mg_len 3) ∧ (∀ h4 : mg_H, h4 = mg_ui h3 3 (0 : Int32).toNatClampNeg 0 → vp_in 0 (mg_len 4) ∧ (∀ h5 : mg_H, h5 = mg_ui h4 4 (0 : Int32).toNatClampNeg (-1) → wp_in (fun r7 h6 => (((r7 = 0) → Q (-2) h6) ∧ ((¬ r7 = 0) → (((¬ x2 = (-1)) → wp_is (fun r9 h8 => (((¬ r9 = 0) → R75 h8) ∧ ((r9 = 0) → Q (-2) h8))) x1 x2 h6) ∧ ((x2 = (-1)) → vp_in x1 (mg_len 5) ∧ ((((¬ (mg_i h6 5 x1.toNatClampNeg) = 2) → R75 h6) ∧ (((mg_i h6 5 x1.toNatClampNeg) = 2) → Q (-2) h6)))))))) x1 0 3 h5)))))
def wp_fault (Q : Int32 → mg_H → Prop) (x1 : Int32) (h : mg_H) : Prop :=
  ∀ h1 : mg_H, h1 = mg_ui h 0 0 0 → (((¬ x1 = 0) → (((¬ x1 = 1) → Q (-1) h1) ∧ ((x1 = 1) → vp_in 0 (mg_len 4) ∧ (Q (mg_i h1 4 (0 : Int32).toNatClampNeg) h1)))) ∧ ((x1 = 0) → vp_in 0 (mg_len 3) ∧ (Q (mg_i h1 3 (0 : Int32).toNatClampNeg) h1)))
def wp_of (Q : Int32 → mg_H → Prop) (x1 : Int32) (h : mg_H) : Prop :=
  vp_in ((13 * (mg_i h 0 23)) + x1) (mg_len 6) ∧ (Q (mg_i h 6 ((13 * (mg_i h 0 23)) + x1).toNatClampNeg) h)
def wp_alone (Q : mg_H → Prop) (x1 : Int32) (h : mg_H) : Prop :=
  ∀ (R12 : Int32 → mg_H → Prop) (R41 : Int32 → Int32 → Int32 → mg_H → Prop) (R66 : Int32 → Int32 → Int32 → mg_H → Prop),
  (∀ (y2 : Int32) (h : mg_H), ((((4 ≤ y2) → Q h) ∧ ((¬ 4 ≤ y2) → wp_has (fun r4 h3 => (((r4 = 0) → R41 y2 0 y2 h3) ∧ ((¬ r4 = 0) → wp_of (fun r6 h5 => R41 y2 r6 y2 h5) (1 + y2) h3))) x1 y2 h))) → R12 y2 h) →
  (∀ (y2 : Int32) (s0 : Int32) (s1 : Int32) (h : mg_H), (vp_in s1 (mg_len 27) ∧ (∀ h7 : mg_H, h7 = mg_ui h 27 s1.toNatClampNeg s0 → wp_has (fun r9 h8 => (((r9 = 0) → R66 y2 0 y2 h8) ∧ ((¬ r9 = 0) → wp_of (fun r11 h10 => R66 y2 r11 y2 h10) (5 + y2) h8))) x1 y2 h7)) → R41 y2 s0 s1 h) →
  (∀ (y2 : Int32) (s0 : Int32) (s1 : Int32) (h : mg_H), (vp_in s1 (mg_len 28) ∧ (∀ h12 : mg_H, h12 = mg_ui h 28 s1.toNatClampNeg s0 → vp_in y2 (mg_len 28) ∧ (∀ h13 : mg_H, h13 = mg_ui h12 0 26 ((mg_i h12 0 26) ||| ((mg_i h12 28 y2.toNatClampNeg) <<< ((3 * y2) &&& 31))) → ∀ z14 : Int32, z14 = y2 + 1 → R12 z14 h13))) → R66 y2 s0 s1 h) →
  (∀ h1 : mg_H, h1 = mg_ui h 0 25 x1 → ∀ h2 : mg_H, h2 = mg_ui h1 0 26 0 → R12 0 h2)
def wp_hand (Q : Int32 → mg_H → Prop) (x1 : Int32) (h : mg_H) : Prop :=
  wp_is (fun r2 h1 => (((¬ r2 = 0) → ∀ h3 : mg_H, h3 = mg_ui h1 0 23 x1 → wp_of (fun r5 h4 => ∀ h6 : mg_H, h6 = mg_ui h4 0 24 r5 → wp_alone (fun h7 => Q 1 h7) ((1 <<< ((mg_i h6 0 24) &&& 31)) - 1) h6) 0 h3) ∧ ((r2 = 0) → Q 0 h1))) 0 x1 h
def wp_isGlass (Q : Int32 → mg_H → Prop) (x1 : Int32) (h : mg_H) : Prop :=
  wp_in (fun r2 h1 => mg_b r2 ∧ Q r2 h1) x1 0 ((mg_i h 0 24) - 1) h
def wp_shelf (Q : Int32 → mg_H → Prop) (x1 : Int32) (x2 : Int32) (h : mg_H) : Prop :=
  ∀ h1 : mg_H, h1 = mg_ui h 0 0 0 → wp_hand (fun r3 h2 => (((¬ r3 = 0) → ∀ z4 : Int32, z4 = x2 - x2 / 10 * 10 → (((10 ≤ x2) → (((40 ≤ x2) → Q (-1) h2) ∧ ((¬ 40 ≤ x2) → wp_isGlass (fun r6 h5 => (((r6 = 0) → Q (-1) h5) ∧ ((¬ r6 = 0) → wp_of (fun r8 h7 => Q r8 h7) ((1 + (4 * ((x2 / 10) - 1))) + z4) h5))) z4 h2))) ∧ ((¬ 10 ≤ x2) → (((¬ x2 = 0) → Q (-1) h2) ∧ ((x2 = 0) → Q (mg_i h2 0 24) h2))))) ∧ ((r3 = 0) → Q (-1) h2))) x1 h1
def wp_deeds (Q : Int32 → mg_H → Prop) (h : mg_H) : Prop :=
  vp_in (81 * (mg_i h 0 29)) (mg_len 7) ∧ (Q (mg_i h 7 (81 * (mg_i h 0 29)).toNatClampNeg) h)
def wp_deedOf (Q : Int32 → mg_H → Prop) (x1 : Int32) (x2 : Int32) (h : mg_H) : Prop :=
  vp_in ((((81 * (mg_i h 0 29)) + 1) + (2 * x1)) + x2) (mg_len 7) ∧ (Q (mg_i h 7 ((((81 * (mg_i h 0 29)) + 1) + (2 * x1)) + x2).toNatClampNeg) h)
def wp_hasDay (Q : Int32 → mg_H → Prop) (x1 : Int32) (h : mg_H) : Prop :=
  ∀ h1 : mg_H, h1 = mg_ui h 0 29 x1 → wp_is (fun r3 h2 => mg_b r3 ∧ Q r3 h2) 1 x1 h1
def wp_deed (Q : Int32 → mg_H → Prop) (x1 : Int32) (x2 : Int32) (x3 : Int32) (h : mg_H) : Prop :=
  ∀ h1 : mg_H, h1 = mg_ui h 0 0 0 → wp_hasDay (fun r3 h2 => (((¬ r3 = 0) → (((¬ x2 = (-1)) → wp_deeds (fun r5 h4 => wp_in (fun r7 h6 => (((r7 = 0) → Q (-2) h6) ∧ ((¬ r7 = 0) → wp_in (fun r9 h8 => (((r9 = 0) → Q (-2) h8) ∧ ((¬ r9 = 0) → wp_deedOf (fun r11 h10 => Q r11 h10) x2 x3 h8))) x3 0 1 h6))) x2 0 (r5 - 1) h4) h2) ∧ ((x2 = (-1)) → (((¬ x3 = 0) → Q (-2) h2) ∧ ((x3 = 0) → wp_deeds (fun r13 h12 => Q r13 h12) h2))))) ∧ ((r3 = 0) → Q (-2) h2))) x1 h1
def wp_beginDay (Q : mg_H → Prop) (h : mg_H) : Prop :=
  ∀ (R37 : Int32 → mg_H → Prop) (R57 : Int32 → mg_H → Prop),
  (∀ (y1 : Int32) (h : mg_H), ((((4 ≤ y1) → R57 0 h) ∧ ((¬ 4 ≤ y1) → vp_in y1 (mg_len 37) ∧ (∀ h8 : mg_H, h8 = mg_ui h 37 y1.toNatClampNeg 0 → ∀ z9 : Int32, z9 = y1 + 1 → R37 z9 h8)))) → R37 y1 h) →
  (∀ (y1 : Int32) (h : mg_H), ((((100 ≤ y1) → Q h) ∧ ((¬ 100 ≤ y1) → vp_in y1 (mg_len 38) ∧ (∀ h10 : mg_H, h10 = mg_ui h 38 y1.toNatClampNeg 0 → ∀ z11 : Int32, z11 = y1 + 1 → R57 z11 h10)))) → R57 y1 h) →
  (∀ h1 : mg_H, h1 = mg_ui h 0 30 0 → ∀ h2 : mg_H, h2 = mg_ui h1 0 31 0 → ∀ h3 : mg_H, h3 = mg_ui h2 0 32 0 → ∀ h4 : mg_H, h4 = mg_ui h3 0 33 0 → ∀ h5 : mg_H, h5 = mg_ui h4 0 34 (-1) → ∀ h6 : mg_H, h6 = mg_ui h5 0 35 0 → ∀ h7 : mg_H, h7 = mg_ui h6 0 36 0 → R37 0 h7)
def wp_goBy (Q : mg_H → Prop) (h : mg_H) : Prop :=
  ∀ (R14 : Int32 → Int32 → mg_H → Prop) (R166 : Int32 → mg_H → Prop) (R170 : Int32 → Int32 → mg_H → Prop) (R105 : Int32 → Int32 → mg_H → Prop) (R80 : Int32 → Int32 → Int32 → Int32 → Int32 → mg_H → Prop) (R187 : Int32 → Int32 → mg_H → Prop) (R103 : Int32 → Int32 → Int32 → Int32 → Int32 → mg_H → Prop),
  (∀ (y1 : Int32) (y2 : Int32) (h : mg_H), (((((mg_i h 0 24) ≤ y2) → vp_in (mg_i h 0 30) (mg_len 38) ∧ (wp_ones (fun r3 h2 => ∀ h4 : mg_H, h4 = mg_ui h2 0 32 ((mg_i h2 0 32) + r3) → wp_greater (fun r6 h5 => ∀ h7 : mg_H, h7 = mg_ui h5 0 35 r6 → (((¬ (mg_i h7 0 34) = (-1)) → R166 y1 h7) ∧ (((mg_i h7 0 34) = (-1)) → (((r3 ≤ 0) → R166 y1 h7) ∧ ((¬ r3 ≤ 0) → R170 y1 (mg_i h7 0 30) h7))))) (mg_i h4 0 35) r3 h4) (mg_i h 38 (mg_i h 0 30).toNatClampNeg) h)) ∧ ((¬ (mg_i h 0 24) ≤ y2) → wp_has (fun r9 h8 => (((¬ r9 = 0) → R105 y1 y2 h8) ∧ ((r9 = 0) → vp_in y2 (mg_len 28) ∧ (((((mg_i h8 28 y2.toNatClampNeg) ≤ 0) → R105 y1 y2 h8) ∧ ((¬ (mg_i h8 28 y2.toNatClampNeg) ≤ 0) → vp_in y2 (mg_len 28) ∧ (vp_in y2 (mg_len 28) ∧ (∀ h10 : mg_H, h10 = mg_ui h8 28 y2.toNatClampNeg ((mg_i h8 28 y2.toNatClampNeg) - 1) → vp_in (mg_i h10 0 30) (mg_len 38) ∧ (vp_in y2 (mg_len 28) ∧ ((((¬ (mg_i h10 28 y2.toNatClampNeg) = 0) → R80 1 y2 0 (mg_i h10 38 (mg_i h10 0 30).toNatClampNeg) (mg_i h10 0 30) h10) ∧ (((mg_i h10 28 y2.toNatClampNeg) = 0) → R80 1 y2 (1 <<< (y2 &&& 31)) (mg_i h10 38 (mg_i h10 0 30).toNatClampNeg) (mg_i h10 0 30) h10)))))))))))) (mg_i h 0 31) y2 h))) → R14 y1 y2 h) →
  (∀ (y1 : Int32) (h : mg_H), (R170 y1 (mg_i h 0 34) h) → R166 y1 h) →
  (∀ (y1 : Int32) (s0 : Int32) (h : mg_H), (∀ h11 : mg_H, h11 = mg_ui h 0 34 s0 → (((y1 = 0) → R187 1 (mg_i h11 0 36) h11) ∧ ((¬ y1 = 0) → R187 0 (mg_i h11 0 36) h11))) → R170 y1 s0 h) →
  (∀ (y1 : Int32) (y2 : Int32) (h : mg_H), (∀ z12 : Int32, z12 = y2 + 1 → R14 y1 z12 h) → R105 y1 y2 h) →
  (∀ (y1 : Int32) (y2 : Int32) (s0 : Int32) (s1 : Int32) (s2 : Int32) (h : mg_H), (vp_in s2 (mg_len 38) ∧ (∀ h13 : mg_H, h13 = mg_ui h 38 s2.toNatClampNeg (s1 ||| s0) → vp_in y2 (mg_len 37) ∧ (vp_in y2 (mg_len 28) ∧ ((((¬ (mg_i h13 28 y2.toNatClampNeg) = 0) → R103 y1 y2 0 (mg_i h13 37 y2.toNatClampNeg) y2 h13) ∧ (((mg_i h13 28 y2.toNatClampNeg) = 0) → R103 y1 y2 1 (mg_i h13 37 y2.toNatClampNeg) y2 h13)))))) → R80 y1 y2 s0 s1 s2 h) →
  (∀ (s0 : Int32) (s1 : Int32) (h : mg_H), (∀ h14 : mg_H, h14 = mg_ui h 0 36 (s1 + s0) → Q h14) → R187 s0 s1 h) →
  (∀ (y1 : Int32) (y2 : Int32) (s0 : Int32) (s1 : Int32) (s2 : Int32) (h : mg_H), (vp_in s2 (mg_len 37) ∧ (∀ h15 : mg_H, h15 = mg_ui h 37 s2.toNatClampNeg (s1 + s0) → R105 y1 y2 h15)) → R103 y1 y2 s0 s1 s2 h) →
  (∀ h1 : mg_H, h1 = mg_ui h 0 30 ((mg_i h 0 30) + 1) → R14 0 0 h1)
def wp_waits (Q : Int32 → mg_H → Prop) (x1 : Int32) (h : mg_H) : Prop :=
  ∀ (R15 : Int32 → mg_H → Prop),
  (∀ (y2 : Int32) (h : mg_H), ((((x1 ≤ y2) → Q 1 h) ∧ ((¬ x1 ≤ y2) → wp_goBy (fun h1 => ∀ z2 : Int32, z2 = y2 + 1 → R15 z2 h1) h))) → R15 y2 h) →
  ((((((mg_i h 0 30) + x1) ≤ 99) → R15 0 h) ∧ ((¬ ((mg_i h 0 30) + x1) ≤ 99) → Q 0 h)))
def wp_does (Q : Int32 → mg_H → Prop) (x1 : Int32) (x2 : Int32) (h : mg_H) : Prop :=
  ∀ (R36 : Int32 → Int32 → mg_H → Prop) (R46 : mg_H → Prop),
  (∀ (s0 : Int32) (s1 : Int32) (h : mg_H), ((((s1 = s0) → R46 h) ∧ ((¬ s1 = s0) → (((x1 = 4) → R46 h) ∧ ((¬ x1 = 4) → Q 0 h))))) → R36 s0 s1 h) →
  (∀ (h : mg_H), (((x1 = 1 → vp_in x2 (mg_len 27) ∧ (vp_in x2 (mg_len 28) ∧ (vp_in x2 (mg_len 28) ∧ (∀ h7 : mg_H, h7 = mg_ui h 28 x2.toNatClampNeg ((mg_i h 27 x2.toNatClampNeg) - (mg_i h 28 x2.toNatClampNeg)) → ∀ h8 : mg_H, h8 = mg_ui h7 0 33 ((mg_i h7 0 33) + 1) → Q 1 h8)))) ∧ (x1 = 2 → ∀ h9 : mg_H, h9 = mg_ui h 0 31 ((mg_i h 0 31) ||| (1 <<< (x2 &&& 31))) → Q 1 h9) ∧ (x1 = 3 → ∀ h10 : mg_H, h10 = mg_ui h 0 31 ((mg_i h 0 31) &&& ((1 <<< (x2 &&& 31)) ^^^ (-1))) → Q 1 h10) ∧ ((¬ x1 = 1) → (¬ x1 = 2) → (¬ x1 = 3) → vp_in x2 (mg_len 27) ∧ (((((mg_i h 27 x2.toNatClampNeg) = 1) → Q 0 h) ∧ ((¬ (mg_i h 27 x2.toNatClampNeg) = 1) → vp_in x2 (mg_len 28) ∧ (vp_in x2 (mg_len 27) ∧ ((((¬ (mg_i h 28 x2.toNatClampNeg) = (mg_i h 27 x2.toNatClampNeg)) → vp_in x2 (mg_len 27) ∧ (vp_in x2 (mg_len 27) ∧ (∀ h11 : mg_H, h11 = mg_ui h 27 x2.toNatClampNeg ((mg_i h 27 x2.toNatClampNeg) - 1) → Q 1 h11))) ∧ (((mg_i h 28 x2.toNatClampNeg) = (mg_i h 27 x2.toNatClampNeg)) → Q 0 h)))))))))) → R46 h) →
  ((((¬ x1 = 0) → wp_isGlass (fun r2 h1 => (((r2 = 0) → Q 0 h1) ∧ ((¬ r2 = 0) → wp_has (fun r4 h3 => (((¬ x1 = 3) → R36 0 r4 h3) ∧ ((x1 = 3) → R36 1 r4 h3))) (mg_i h1 0 31) x2 h1))) x2 h) ∧ ((x1 = 0) → wp_waits (fun r6 h5 => mg_b r6 ∧ Q r6 h5) x2 h)))
def wp_doesDeed (Q : Int32 → mg_H → Prop) (x1 : Int32) (h : mg_H) : Prop :=
  wp_deedOf (fun r2 h1 => wp_deedOf (fun r4 h3 => wp_does (fun r6 h5 => mg_b r6 ∧ Q r6 h5) r2 r4 h3) x1 1 h1) x1 0 h
def wp_play (Q : Int32 → mg_H → Prop) (x1 : Int32) (h : mg_H) : Prop :=
  ∀ (R2 : Int32 → mg_H → Prop),
  (∀ (y2 : Int32) (h : mg_H), ((((x1 ≤ y2) → Q y2 h) ∧ ((¬ x1 ≤ y2) → wp_doesDeed (fun r2 h1 => (((r2 = 0) → Q y2 h1) ∧ ((¬ r2 = 0) → ∀ z3 : Int32, z3 = y2 + 1 → R2 z3 h1))) y2 h))) → R2 y2 h) →
  (R2 0 h)
def wp_layAll (Q : Int32 → mg_H → Prop) (x1 : Int32) (x2 : Int32) (h : mg_H) : Prop :=
  wp_hasDay (fun r2 h1 => (((r2 = 0) → Q 0 h1) ∧ ((¬ r2 = 0) → wp_hand (fun r4 h3 => (((¬ r4 = 0) → wp_beginDay (fun h5 => Q 1 h5) h3) ∧ ((r4 = 0) → Q 0 h3))) x1 h1))) x2 h
def wp_stop (Q : Int32 → mg_H → Prop) (x1 : Int32) (x2 : Int32) (h : mg_H) : Prop :=
  ∀ h1 : mg_H, h1 = mg_ui h 0 0 0 → wp_layAll (fun r3 h2 => (((r3 = 0) → Q (-1) h2) ∧ ((¬ r3 = 0) → wp_deeds (fun r5 h4 => wp_play (fun r7 h6 => Q r7 h6) r5 h4) h2))) x1 x2 h1
def wp_ofState (Q : Int32 → mg_H → Prop) (x1 : Int32) (h : mg_H) : Prop :=
  ∀ z1 : Int32, z1 = x1 - x1 / 10 * 10 → (((x1 < 10) → (((¬ x1 = 0) → (((¬ x1 = 1) → (((¬ x1 = 2) → (((¬ x1 = 3) → Q (-1) h) ∧ ((x1 = 3) → Q (mg_i h 0 33) h))) ∧ ((x1 = 2) → Q (mg_i h 0 32) h))) ∧ ((x1 = 1) → Q (mg_i h 0 31) h))) ∧ ((x1 = 0) → Q (mg_i h 0 30) h))) ∧ ((¬ x1 < 10) → wp_isGlass (fun r3 h2 => (((r3 = 0) → Q (-1) h2) ∧ ((¬ r3 = 0) → (((x1 < 40) → (((20 ≤ x1) → (((30 ≤ x1) → vp_in z1 (mg_len 37) ∧ (Q (mg_i h2 37 z1.toNatClampNeg) h2)) ∧ ((¬ 30 ≤ x1) → vp_in z1 (mg_len 27) ∧ (vp_in z1 (mg_len 28) ∧ (Q ((mg_i h2 27 z1.toNatClampNeg) - (mg_i h2 28 z1.toNatClampNeg)) h2))))) ∧ ((¬ 20 ≤ x1) → vp_in z1 (mg_len 28) ∧ (Q (mg_i h2 28 z1.toNatClampNeg) h2)))) ∧ ((¬ x1 < 40) → Q (-1) h2))))) z1 h))
def wp_state (Q : Int32 → mg_H → Prop) (x1 : Int32) (x2 : Int32) (x3 : Int32) (x4 : Int32) (h : mg_H) : Prop :=
  ∀ h1 : mg_H, h1 = mg_ui h 0 0 0 → wp_layAll (fun r3 h2 => (((r3 = 0) → Q (-1) h2) ∧ ((¬ r3 = 0) → wp_deeds (fun r5 h4 => wp_in (fun r7 h6 => (((r7 = 0) → Q (-1) h6) ∧ ((¬ r7 = 0) → wp_play (fun r9 h8 => (((¬ r9 = x3) → Q (-1) h8) ∧ ((r9 = x3) → wp_ofState (fun r11 h10 => Q r11 h10) x4 h8))) x3 h6))) x3 0 r5 h4) h2))) x1 x2 h1
def wp_next (Q : Int32 → mg_H → Prop) (x1 : Int32) (x2 : Int32) (h : mg_H) : Prop :=
  ∀ (R10 : Int32 → Int32 → Int32 → mg_H → Prop) (R106 : Int32 → Int32 → Int32 → mg_H → Prop) (R51 : Int32 → Int32 → Int32 → Int32 → mg_H → Prop) (R69 : Int32 → Int32 → Int32 → Int32 → mg_H → Prop) (R70 : Int32 → Int32 → Int32 → Int32 → mg_H → Prop),
  (∀ (y3 : Int32) (y4 : Int32) (y5 : Int32) (h : mg_H), ((((4 ≤ y5) → (((¬ y3 = 1000000) → ∀ h1 : mg_H, h1 = mg_ui h 0 39 0 → R106 y3 y4 0 h1) ∧ ((y3 = 1000000) → Q 0 h))) ∧ ((¬ 4 ≤ y5) → ∀ z2 : Int32, z2 = (x1 >>> ((3 * y5) &&& 31)) &&& 7 → wp_has (fun r4 h3 => (((r4 = 0) → R51 y3 y4 y5 z2 h3) ∧ ((¬ r4 = 0) → vp_in y5 (mg_len 27) ∧ (R51 y3 y4 y5 ((mg_i h3 27 y5.toNatClampNeg) - z2) h3)))) x2 y5 h))) → R10 y3 y4 y5 h) →
  (∀ (y3 : Int32) (y4 : Int32) (y5 : Int32) (h : mg_H), ((((4 ≤ y5) → Q y3 h) ∧ ((¬ 4 ≤ y5) → ∀ z5 : Int32, z5 = (y4 >>> ((3 * y5) &&& 31)) &&& 7 → wp_greater (fun r7 h6 => ∀ h8 : mg_H, h8 = mg_ui h6 0 39 ((mg_i h 0 39) ||| (r7 <<< ((3 * y5) &&& 31))) → ∀ z9 : Int32, z9 = y5 + 1 → R106 y3 y4 z9 h8) 0 (z5 - y3) h))) → R106 y3 y4 y5 h) →
  (∀ (y3 : Int32) (y4 : Int32) (y5 : Int32) (s0 : Int32) (h : mg_H), ((((s0 ≤ 0) → R69 y3 y4 y5 s0 h) ∧ ((¬ s0 ≤ 0) → (((y3 ≤ s0) → R69 y3 y4 y5 s0 h) ∧ ((¬ y3 ≤ s0) → R70 y4 y5 s0 s0 h))))) → R51 y3 y4 y5 s0 h) →
  (∀ (y3 : Int32) (y4 : Int32) (y5 : Int32) (y6 : Int32) (h : mg_H), (R70 y4 y5 y6 y3 h) → R69 y3 y4 y5 y6 h) →
  (∀ (y4 : Int32) (y5 : Int32) (y6 : Int32) (s0 : Int32) (h : mg_H), (∀ z10 : Int32, z10 = y4 ||| (y6 <<< ((3 * y5) &&& 31)) → ∀ z11 : Int32, z11 = y5 + 1 → R10 s0 z10 z11 h) → R70 y4 y5 y6 s0 h) →
  (R10 1000000 0 0 h)
def wp_costOf (Q : Int32 → mg_H → Prop) (x1 : Int32) (x2 : Int32) (h : mg_H) : Prop :=
  ∀ (R12 : Int32 → Int32 → mg_H → Prop) (R49 : Int32 → Int32 → Int32 → mg_H → Prop),
  (∀ (y3 : Int32) (y4 : Int32) (h : mg_H), ((((4 ≤ y4) → Q y3 h) ∧ ((¬ 4 ≤ y4) → wp_has (fun r2 h1 => (((r2 = 0) → R49 y4 0 y3 h1) ∧ ((¬ r2 = 0) → (((¬ x2 = 0) → wp_of (fun r4 h3 => R49 y4 r4 y3 h3) (9 + y4) h1) ∧ ((x2 = 0) → R49 y4 1 y3 h1))))) x1 y4 h))) → R12 y3 y4 h) →
  (∀ (y4 : Int32) (s0 : Int32) (s1 : Int32) (h : mg_H), (∀ z5 : Int32, z5 = s1 + s0 → ∀ z6 : Int32, z6 = y4 + 1 → R12 z5 z6 h) → R49 y4 s0 s1 h) →
  ((((¬ x2 = 1) → R12 0 0 h) ∧ ((x2 = 1) → Q 1 h)))
def wp_clear (Q : mg_H → Prop) (x1 : Int32) (x2 : Int32) (h : mg_H) : Prop :=
  ∀ (R6 : Int32 → mg_H → Prop),
  (∀ (y3 : Int32) (h : mg_H), (((((4096 * (x2 + 1)) ≤ y3) → Q h) ∧ ((¬ (4096 * (x2 + 1)) ≤ y3) → vp_in y3 (mg_len 40) ∧ (∀ h2 : mg_H, h2 = mg_ui h 40 y3.toNatClampNeg (-1) → ∀ z3 : Int32, z3 = y3 + 1 → R6 z3 h2)))) → R6 y3 h) →
  (∀ z1 : Int32, z1 = 4096 * x1 → R6 z1 h)
def wp_offer (Q : mg_H → Prop) (x1 : Int32) (x2 : Int32) (h : mg_H) : Prop :=
  ∀ (R25 : Int32 → mg_H → Prop) (R35 : Int32 → Int32 → mg_H → Prop),
  (∀ (s0 : Int32) (h : mg_H), (R35 x2 s0 h) → R25 s0 h) →
  (∀ (s0 : Int32) (s1 : Int32) (h : mg_H), (vp_in s1 (mg_len 40) ∧ (∀ h1 : mg_H, h1 = mg_ui h 40 s1.toNatClampNeg s0 → Q h1)) → R35 s0 s1 h) →
  (vp_in x1 (mg_len 40) ∧ (((((mg_i h 40 x1.toNatClampNeg) = (-1)) → R25 x1 h) ∧ ((¬ (mg_i h 40 x1.toNatClampNeg) = (-1)) → vp_in x1 (mg_len 40) ∧ (((((mg_i h 40 x1.toNatClampNeg) ≤ x2) → vp_in x1 (mg_len 40) ∧ (R35 (mg_i h 40 x1.toNatClampNeg) x1 h)) ∧ ((¬ (mg_i h 40 x1.toNatClampNeg) ≤ x2) → R25 x1 h)))))))
def wp_goOn (Q : mg_H → Prop) (x1 : Int32) (x2 : Int32) (x3 : Int32) (h : mg_H) : Prop :=
  ∀ (R3 : Int32 → mg_H → Prop) (R12 : Int32 → Int32 → mg_H → Prop) (R39 : Int32 → Int32 → Int32 → Int32 → mg_H → Prop) (R128 : Int32 → Int32 → mg_H → Prop) (R78 : Int32 → Int32 → Int32 → Int32 → Int32 → mg_H → Prop) (R122 : Int32 → Int32 → Int32 → Int32 → mg_H → Prop),
  (∀ (y4 : Int32) (h : mg_H), ((((x2 ≤ y4) → Q h) ∧ ((¬ x2 ≤ y4) → R12 y4 0 h))) → R3 y4 h) →
  (∀ (y4 : Int32) (y5 : Int32) (h : mg_H), ((((4096 ≤ y5) → ∀ z1 : Int32, z1 = y4 + 1 → R3 z1 h) ∧ ((¬ 4096 ≤ y5) → vp_in ((4096 * y4) + y5) (mg_len 40) ∧ (∀ z2 : Int32, z2 = mg_i h 40 ((4096 * y4) + y5).toNatClampNeg → R39 y4 y5 z2 0 h)))) → R12 y4 y5 h) →
  (∀ (y4 : Int32) (y5 : Int32) (y6 : Int32) (y7 : Int32) (h : mg_H), (((((mg_i h 0 25) < y7) → R128 y4 y5 h) ∧ ((¬ (mg_i h 0 25) < y7) → (((y6 = (-1)) → R128 y4 y5 h) ∧ ((¬ y6 = (-1)) → (((¬ (y7 &&& ((mg_i h 0 25) ^^^ (-1))) = 0) → R78 y4 y5 y6 y7 0 h) ∧ (((y7 &&& ((mg_i h 0 25) ^^^ (-1))) = 0) → wp_next (fun r4 h3 => R78 y4 y5 y6 y7 r4 h3) y5 y7 h))))))) → R39 y4 y5 y6 y7 h) →
  (∀ (y4 : Int32) (y5 : Int32) (h : mg_H), (∀ z5 : Int32, z5 = y5 + 1 → R12 y4 z5 h) → R128 y4 y5 h) →
  (∀ (y4 : Int32) (y5 : Int32) (y6 : Int32) (y7 : Int32) (s0 : Int32) (h : mg_H), ((((s0 ≤ 0) → R122 y4 y5 y6 y7 h) ∧ ((¬ s0 ≤ 0) → (((x2 < (y4 + s0)) → R122 y4 y5 y6 y7 h) ∧ ((¬ x2 < (y4 + s0)) → wp_costOf (fun r7 h6 => wp_offer (fun h8 => R122 y4 y5 y6 y7 h8) ((4096 * (y4 + s0)) + (mg_i h 0 39)) (y6 + r7) h6) y7 x3 h))))) → R78 y4 y5 y6 y7 s0 h) →
  (∀ (y4 : Int32) (y5 : Int32) (y6 : Int32) (y7 : Int32) (h : mg_H), (∀ z9 : Int32, z9 = y7 + 1 → R39 y4 y5 y6 z9 h) → R122 y4 y5 y6 y7 h) →
  (R3 x1 h)
def wp_layOut (Q : mg_H → Prop) (x1 : Int32) (h : mg_H) : Prop :=
  wp_clear (fun h1 => vp_in (mg_i h1 0 26) (mg_len 40) ∧ (∀ h2 : mg_H, h2 = mg_ui h1 40 (mg_i h1 0 26).toNatClampNeg 0 → wp_goOn (fun h3 => Q h3) 0 30 x1 h2)) 0 30 h
def wp_leastAt (Q : Int32 → mg_H → Prop) (x1 : Int32) (h : mg_H) : Prop :=
  ∀ (R4 : Int32 → Int32 → mg_H → Prop) (R47 : Int32 → Int32 → mg_H → Prop) (R42 : Int32 → Int32 → mg_H → Prop) (R48 : Int32 → Int32 → mg_H → Prop),
  (∀ (y2 : Int32) (y3 : Int32) (h : mg_H), ((((4096 ≤ y3) → Q y2 h) ∧ ((¬ 4096 ≤ y3) → vp_in ((4096 * x1) + y3) (mg_len 40) ∧ (∀ z1 : Int32, z1 = mg_i h 40 ((4096 * x1) + y3).toNatClampNeg → (((z1 = (-1)) → R47 y2 y3 h) ∧ ((¬ z1 = (-1)) → (((y2 = (-1)) → R42 y3 z1 h) ∧ ((¬ y2 = (-1)) → (((y2 ≤ z1) → R47 y2 y3 h) ∧ ((¬ y2 ≤ z1) → R42 y3 z1 h)))))))))) → R4 y2 y3 h) →
  (∀ (y2 : Int32) (y3 : Int32) (h : mg_H), (R48 y3 y2 h) → R47 y2 y3 h) →
  (∀ (y3 : Int32) (y4 : Int32) (h : mg_H), (R48 y3 y4 h) → R42 y3 y4 h) →
  (∀ (y3 : Int32) (s0 : Int32) (h : mg_H), (∀ z2 : Int32, z2 = y3 + 1 → R4 s0 z2 h) → R48 y3 s0 h) →
  (R4 (-1) 0 h)
def wp_bitsOf (Q : Int32 → mg_H → Prop) (x1 : Int32) (h : mg_H) : Prop :=
  ∀ (R4 : Int32 → Int32 → mg_H → Prop) (R31 : Int32 → Int32 → Int32 → mg_H → Prop),
  (∀ (y2 : Int32) (y3 : Int32) (h : mg_H), ((((30 < y3) → Q y2 h) ∧ ((¬ 30 < y3) → wp_leastAt (fun r2 h1 => wp_in (fun r4 h3 => (((r4 = 0) → R31 y3 0 y2 h3) ∧ ((¬ r4 = 0) → R31 y3 (1 <<< (y3 &&& 31)) y2 h3))) r2 0 x1 h1) y3 h))) → R4 y2 y3 h) →
  (∀ (y3 : Int32) (s0 : Int32) (s1 : Int32) (h : mg_H), (∀ z5 : Int32, z5 = s1 ||| s0 → ∀ z6 : Int32, z6 = y3 + 1 → R4 z5 z6 h) → R31 y3 s0 s1 h) →
  (R4 0 1 h)
def wp_timesOf (Q : Int32 → mg_H → Prop) (x1 : Int32) (h : mg_H) : Prop :=
  wp_alone (fun h1 => wp_layOut (fun h2 => wp_bitsOf (fun r4 h3 => Q r4 h3) 1000000 h2) 0 h1) x1 h
def wp_leftBy (Q : Int32 → mg_H → Prop) (x1 : Int32) (x2 : Int32) (x3 : Int32) (x4 : Int32) (h : mg_H) : Prop :=
  wp_next (fun r2 h1 => (((r2 = 0) → Q (-1) h1) ∧ ((¬ r2 = 0) → ((((x2 + r2) ≤ x1) → vp_in ((4096 * (x2 + r2)) + (mg_i h1 0 39)) (mg_len 40) ∧ (∀ z3 : Int32, z3 = mg_i h1 40 ((4096 * (x2 + r2)) + (mg_i h1 0 39)).toNatClampNeg → (((¬ z3 = (-1)) → wp_costOf (fun r5 h4 => Q (z3 + r5) h4) x4 0 h1) ∧ ((z3 = (-1)) → Q (-1) h1)))) ∧ ((¬ (x2 + r2) ≤ x1) → Q (-1) h1))))) x3 x4 h
def wp_keepAll (Q : mg_H → Prop) (h : mg_H) : Prop :=
  ∀ (R2 : Int32 → mg_H → Prop),
  (∀ (y1 : Int32) (h : mg_H), ((((126976 ≤ y1) → Q h) ∧ ((¬ 126976 ≤ y1) → vp_in y1 (mg_len 40) ∧ (vp_in y1 (mg_len 44) ∧ (∀ h1 : mg_H, h1 = mg_ui h 44 y1.toNatClampNeg (mg_i h 40 y1.toNatClampNeg) → ∀ z2 : Int32, z2 = y1 + 1 → R2 z2 h1))))) → R2 y1 h) →
  (R2 0 h)
def wp_layBack (Q : mg_H → Prop) (x1 : Int32) (h : mg_H) : Prop :=
  ∀ (R17 : Int32 → mg_H → Prop) (R71 : Int32 → mg_H → Prop) (R56 : Int32 → Int32 → Int32 → mg_H → Prop) (R77 : Int32 → Int32 → mg_H → Prop) (R132 : Int32 → mg_H → Prop) (R126 : Int32 → Int32 → mg_H → Prop),
  (∀ (y2 : Int32) (h : mg_H), ((((4096 ≤ y2) → ∀ z4 : Int32, z4 = (4096 * x1) - 1 → R71 z4 h) ∧ ((¬ 4096 ≤ y2) → vp_in ((4096 * x1) + y2) (mg_len 44) ∧ ((((¬ (mg_i h 44 ((4096 * x1) + y2).toNatClampNeg) = (-1)) → R56 y2 0 ((4096 * x1) + y2) h) ∧ (((mg_i h 44 ((4096 * x1) + y2).toNatClampNeg) = (-1)) → R56 y2 (-1) ((4096 * x1) + y2) h)))))) → R17 y2 h) →
  (∀ (y2 : Int32) (h : mg_H), ((((y2 < 0) → Q h) ∧ ((¬ y2 < 0) → R77 y2 0 h))) → R71 y2 h) →
  (∀ (y2 : Int32) (s0 : Int32) (s1 : Int32) (h : mg_H), (vp_in s1 (mg_len 40) ∧ (∀ h5 : mg_H, h5 = mg_ui h 40 s1.toNatClampNeg s0 → ∀ z6 : Int32, z6 = y2 + 1 → R17 z6 h5)) → R56 y2 s0 s1 h) →
  (∀ (y2 : Int32) (y3 : Int32) (h : mg_H), (((((mg_i h 0 25) < y3) → R132 y2 h) ∧ ((¬ (mg_i h 0 25) < y3) → vp_in y2 (mg_len 44) ∧ (((((mg_i h 44 y2.toNatClampNeg) = (-1)) → R132 y2 h) ∧ ((¬ (mg_i h 44 y2.toNatClampNeg) = (-1)) → wp_leftBy (fun r8 h7 => (((r8 = (-1)) → R126 y2 y3 h7) ∧ ((¬ r8 = (-1)) → wp_offer (fun h9 => R126 y2 y3 h9) y2 r8 h7))) x1 (y2 / 4096) (y2 - y2 / 4096 * 4096) y3 h)))))) → R77 y2 y3 h) →
  (∀ (y2 : Int32) (h : mg_H), (∀ z10 : Int32, z10 = y2 + (-1) → R71 z10 h) → R132 y2 h) →
  (∀ (y2 : Int32) (y3 : Int32) (h : mg_H), (∀ z11 : Int32, z11 = y3 + 1 → R77 y2 z11 h) → R126 y2 y3 h) →
  (wp_layOut (fun h1 => wp_keepAll (fun h2 => wp_clear (fun h3 => R17 0 h3) 0 x1 h2) h1) 0 h)
def wp_layRow (Q : mg_H → Prop) (x1 : Int32) (h : mg_H) : Prop :=
  ∀ (R12 : Int32 → Int32 → mg_H → Prop) (R20 : Int32 → Int32 → Int32 → mg_H → Prop),
  (∀ (y2 : Int32) (y3 : Int32) (h : mg_H), ((((x1 ≤ y2) → Q h) ∧ ((¬ x1 ≤ y2) → R20 y2 y3 0 h))) → R12 y2 y3 h) →
  (∀ (y2 : Int32) (y3 : Int32) (y4 : Int32) (h : mg_H), (wp_leftBy (fun r4 h3 => vp_in ((4096 * y2) + y3) (mg_len 40) ∧ ((((r4 = (mg_i h3 40 ((4096 * y2) + y3).toNatClampNeg)) → vp_in (mg_i h3 0 43) (mg_len 41) ∧ (∀ h5 : mg_H, h5 = mg_ui h3 41 (mg_i h3 0 43).toNatClampNeg y4 → vp_in (mg_i h5 0 43) (mg_len 42) ∧ (∀ h6 : mg_H, h6 = mg_ui h5 42 (mg_i h5 0 43).toNatClampNeg y2 → ∀ h7 : mg_H, h7 = mg_ui h6 0 43 ((mg_i h6 0 43) + 1) → wp_next (fun r9 h8 => ∀ z10 : Int32, z10 = y2 + r9 → ∀ z11 : Int32, z11 = mg_i h8 0 39 → R12 z10 z11 h8) y3 y4 h7))) ∧ ((¬ r4 = (mg_i h3 40 ((4096 * y2) + y3).toNatClampNeg)) → ∀ z12 : Int32, z12 = y4 + 1 → R20 y2 y3 z12 h3)))) x1 y2 y3 y4 h) → R20 y2 y3 y4 h) →
  (∀ h1 : mg_H, h1 = mg_ui h 0 43 0 → ∀ z2 : Int32, z2 = mg_i h1 0 26 → R12 0 z2 h1)
def wp_ofRow (Q : Int32 → mg_H → Prop) (x1 : Int32) (x2 : Int32) (h : mg_H) : Prop :=
  ∀ (R94 : Int32 → Int32 → mg_H → Prop) (R48 : Int32 → mg_H → Prop) (R125 : Int32 → Int32 → Int32 → mg_H → Prop),
  (∀ (y3 : Int32) (y4 : Int32) (h : mg_H), (((((mg_i h 0 43) ≤ y4) → Q y3 h) ∧ ((¬ (mg_i h 0 43) ≤ y4) → vp_in y4 (mg_len 41) ∧ (wp_has (fun r4 h3 => (((r4 = 0) → R125 y4 0 y3 h3) ∧ ((¬ r4 = 0) → R125 y4 1 y3 h3))) (mg_i h 41 y4.toNatClampNeg) (x2 - 3) h)))) → R94 y3 y4 h) →
  (∀ (s0 : Int32) (h : mg_H), (wp_in (fun r6 h5 => (((¬ r6 = 0) → (((50 ≤ x2) → vp_in s0 (mg_len 42) ∧ (Q (mg_i h5 42 s0.toNatClampNeg) h5)) ∧ ((¬ 50 ≤ x2) → vp_in s0 (mg_len 41) ∧ (Q (mg_i h5 41 s0.toNatClampNeg) h5)))) ∧ ((r6 = 0) → Q (-1) h5))) s0 0 ((mg_i h 0 43) - 1) h) → R48 s0 h) →
  (∀ (y4 : Int32) (s0 : Int32) (s1 : Int32) (h : mg_H), (∀ z7 : Int32, z7 = s1 + s0 → ∀ z8 : Int32, z8 = y4 + 1 → R94 z7 z8 h) → R125 y4 s0 s1 h) →
  (wp_layBack (fun h1 => vp_in (mg_i h1 0 26) (mg_len 40) ∧ ((((¬ (mg_i h1 40 (mg_i h1 0 26).toNatClampNeg) = (-1)) → wp_layRow (fun h2 => (((x2 < 10) → R94 0 0 h2) ∧ ((¬ x2 < 10) → (((50 ≤ x2) → R48 (x2 - 50) h2) ∧ ((¬ 50 ≤ x2) → R48 (x2 - 10) h2))))) x1 h1) ∧ (((mg_i h1 40 (mg_i h1 0 26).toNatClampNeg) = (-1)) → Q (-1) h1)))) x1 h)
def wp_tell (Q : Int32 → mg_H → Prop) (x1 : Int32) (x2 : Int32) (x3 : Int32) (h : mg_H) : Prop :=
  ∀ (R67 : mg_H → Prop) (R72 : Int32 → mg_H → Prop) (R99 : mg_H → Prop),
  (∀ (h : mg_H), (R72 1 h) → R67 h) →
  (∀ (s0 : Int32) (h : mg_H), ((((¬ s0 = 0) → R99 h) ∧ ((s0 = 0) → wp_in (fun r16 h15 => (((r16 = 0) → Q (-1) h15) ∧ ((¬ r16 = 0) → wp_isGlass (fun r18 h17 => (((r18 = 0) → Q (-1) h17) ∧ ((¬ r18 = 0) → R99 h17))) (x3 - 3) h15))) x3 3 6 h))) → R72 s0 h) →
  (∀ (h : mg_H), (wp_ofRow (fun r20 h19 => Q r20 h19) x2 x3 h) → R99 h) →
  (∀ h1 : mg_H, h1 = mg_ui h 0 0 0 → wp_in (fun r3 h2 => (((r3 = 0) → Q (-1) h2) ∧ ((¬ r3 = 0) → wp_hand (fun r5 h4 => (((¬ r5 = 0) → wp_in (fun r7 h6 => (((r7 = 0) → wp_in (fun r9 h8 => (((¬ r9 = 0) → R67 h8) ∧ ((r9 = 0) → wp_in (fun r11 h10 => (((r11 = 0) → R72 0 h10) ∧ ((¬ r11 = 0) → R67 h10))) x3 50 79 h8))) x3 10 39 h6) ∧ ((¬ r7 = 0) → wp_layOut (fun h12 => wp_leastAt (fun r14 h13 => Q r14 h13) x2 h12) x3 h6))) x3 0 2 h4) ∧ ((r5 = 0) → Q (-1) h4))) x1 h2))) x2 1 30 h1)
def wp_purse (Q : Int32 → mg_H → Prop) (x1 : Int32) (x2 : Int32) (h : mg_H) : Prop :=
  ∀ h1 : mg_H, h1 = mg_ui h 0 0 0 → wp_in (fun r3 h2 => (((r3 = 0) → Q (-1) h2) ∧ ((¬ r3 = 0) → wp_hand (fun r5 h4 => (((¬ r5 = 0) → wp_layOut (fun h6 => wp_bitsOf (fun r8 h7 => Q r8 h7) x2 h6) 2 h4) ∧ ((r5 = 0) → Q (-1) h4))) x1 h2))) x2 0 99 h1
def wp_apart (Q : Int32 → mg_H → Prop) (x1 : Int32) (x2 : Int32) (h : mg_H) : Prop :=
  ∀ h1 : mg_H, h1 = mg_ui h 0 0 0 → wp_is (fun r3 h2 => (((r3 = 0) → Q (-1) h2) ∧ ((¬ r3 = 0) → wp_hand (fun r5 h4 => (((¬ r5 = 0) → wp_timesOf (fun r7 h6 => wp_hand (fun r9 h8 => wp_timesOf (fun r11 h10 => Q (r7 &&& (r11 ^^^ (-1))) h10) (mg_i h8 0 25) h8) x2 h6) (mg_i h4 0 25) h4) ∧ ((r5 = 0) → Q (-1) h4))) x1 h2))) 0 x2 h1
def wp_span (Q : Int32 → mg_H → Prop) (x1 : Int32) (x2 : Int32) (h : mg_H) : Prop :=
  ∀ (R36 : Int32 → mg_H → Prop) (R55 : Int32 → Int32 → mg_H → Prop) (R97 : Int32 → Int32 → Int32 → Int32 → mg_H → Prop),
  (∀ (y3 : Int32) (h : mg_H), ((((30 < (y3 + x2)) → Q (-1) h) ∧ ((¬ 30 < (y3 + x2)) → wp_clear (fun h8 => R55 y3 0 h8) y3 (y3 + x2) h))) → R36 y3 h) →
  (∀ (y3 : Int32) (y4 : Int32) (h : mg_H), ((((4096 ≤ y4) → wp_goOn (fun h9 => wp_leastAt (fun r11 h10 => (((r11 = (-1)) → ∀ z12 : Int32, z12 = y3 + 1 → R36 z12 h10) ∧ ((¬ r11 = (-1)) → Q (y3 + x2) h10))) (y3 + x2) h9) y3 (y3 + x2) 0 h) ∧ ((¬ 4096 ≤ y4) → vp_in ((4096 * y3) + y4) (mg_len 44) ∧ ((((¬ (mg_i h 44 ((4096 * y3) + y4).toNatClampNeg) = (-1)) → R97 y3 y4 0 ((4096 * y3) + y4) h) ∧ (((mg_i h 44 ((4096 * y3) + y4).toNatClampNeg) = (-1)) → R97 y3 y4 (-1) ((4096 * y3) + y4) h)))))) → R55 y3 y4 h) →
  (∀ (y3 : Int32) (y4 : Int32) (s0 : Int32) (s1 : Int32) (h : mg_H), (vp_in s1 (mg_len 40) ∧ (∀ h13 : mg_H, h13 = mg_ui h 40 s1.toNatClampNeg s0 → ∀ z14 : Int32, z14 = y4 + 1 → R55 y3 z14 h13)) → R97 y3 y4 s0 s1 h) →
  (∀ h1 : mg_H, h1 = mg_ui h 0 0 0 → wp_in (fun r3 h2 => (((r3 = 0) → Q (-1) h2) ∧ ((¬ r3 = 0) → wp_hand (fun r5 h4 => (((¬ r5 = 0) → wp_layOut (fun h6 => wp_keepAll (fun h7 => R36 0 h7) h6) 0 h4) ∧ ((r5 = 0) → Q (-1) h4))) x1 h2))) x2 1 30 h1)
def wp_fewest (Q : Int32 → mg_H → Prop) (x1 : Int32) (h : mg_H) : Prop :=
  ∀ (R10 : Int32 → Int32 → Int32 → mg_H → Prop) (R33 : Int32 → Int32 → Int32 → mg_H → Prop) (R38 : Int32 → Int32 → Int32 → Int32 → mg_H → Prop) (R63 : Int32 → Int32 → Int32 → mg_H → Prop) (R64 : Int32 → Int32 → Int32 → mg_H → Prop),
  (∀ (y2 : Int32) (y3 : Int32) (y4 : Int32) (h : mg_H), ((((y3 < y4) → Q y2 h) ∧ ((¬ y3 < y4) → (((y2 = (-1)) → R33 y2 y3 y4 h) ∧ ((¬ y2 = (-1)) → wp_ones (fun r3 h2 => wp_ones (fun r5 h4 => (((r5 ≤ r3) → R38 y2 y3 y4 0 h4) ∧ ((¬ r5 ≤ r3) → R33 y2 y3 y4 h4))) y2 h2) y4 h))))) → R10 y2 y3 y4 h) →
  (∀ (y2 : Int32) (y3 : Int32) (y4 : Int32) (h : mg_H), (R38 y2 y3 y4 1 h) → R33 y2 y3 y4 h) →
  (∀ (y2 : Int32) (y3 : Int32) (y4 : Int32) (s0 : Int32) (h : mg_H), ((((s0 = 0) → R63 y2 y3 y4 h) ∧ ((¬ s0 = 0) → wp_timesOf (fun r7 h6 => wp_has (fun r9 h8 => (((r9 = 0) → R63 y2 y3 y4 h8) ∧ ((¬ r9 = 0) → R64 y3 y4 y4 h8))) r7 x1 h6) y4 h))) → R38 y2 y3 y4 s0 h) →
  (∀ (y2 : Int32) (y3 : Int32) (y4 : Int32) (h : mg_H), (R64 y3 y4 y2 h) → R63 y2 y3 y4 h) →
  (∀ (y3 : Int32) (y4 : Int32) (s0 : Int32) (h : mg_H), (∀ z10 : Int32, z10 = y4 + 1 → R10 s0 y3 z10 h) → R64 y3 y4 s0 h) →
  (∀ z1 : Int32, z1 = mg_i h 0 25 → R10 (-1) z1 0 h)
def wp_need (Q : Int32 → mg_H → Prop) (x1 : Int32) (x2 : Int32) (x3 : Int32) (h : mg_H) : Prop :=
  ∀ (R42 : Int32 → mg_H → Prop),
  (∀ (y4 : Int32) (h : mg_H), (Q y4 h) → R42 y4 h) →
  (∀ h1 : mg_H, h1 = mg_ui h 0 0 0 → wp_in (fun r3 h2 => (((r3 = 0) → Q (-1) h2) ∧ ((¬ r3 = 0) → wp_hand (fun r5 h4 => (((¬ r5 = 0) → wp_fewest (fun r7 h6 => (((r7 = (-1)) → R42 r7 h6) ∧ ((¬ r7 = (-1)) → (((x3 = 0) → wp_ones (fun r9 h8 => Q r9 h8) r7 h6) ∧ ((¬ x3 = 0) → R42 r7 h6))))) x2 h4) ∧ ((r5 = 0) → Q (-1) h4))) x1 h2))) x2 1 30 h1)
def wp_spans (Q : Int32 → mg_H → Prop) (h : mg_H) : Prop :=
  vp_in (7 * (mg_i h 0 45)) (mg_len 9) ∧ (Q (mg_i h 9 (7 * (mg_i h 0 45)).toNatClampNeg) h)
def wp_hasOrder (Q : Int32 → mg_H → Prop) (x1 : Int32) (h : mg_H) : Prop :=
  ∀ h1 : mg_H, h1 = mg_ui h 0 45 x1 → wp_is (fun r3 h2 => mg_b r3 ∧ Q r3 h2) 3 x1 h1
def wp_order (Q : Int32 → mg_H → Prop) (x1 : Int32) (x2 : Int32) (h : mg_H) : Prop :=
  ∀ h1 : mg_H, h1 = mg_ui h 0 0 0 → wp_hasOrder (fun r3 h2 => (((¬ r3 = 0) → (((¬ x2 = (-1)) → wp_spans (fun r5 h4 => wp_in (fun r7 h6 => (((r7 = 0) → Q (-1) h6) ∧ ((¬ r7 = 0) → vp_in (((7 * x1) + 1) + x2) (mg_len 9) ∧ (Q (mg_i h6 9 (((7 * x1) + 1) + x2).toNatClampNeg) h6)))) x2 0 (r5 - 1) h4) h2) ∧ ((x2 = (-1)) → wp_spans (fun r9 h8 => Q r9 h8) h2))) ∧ ((r3 = 0) → Q (-1) h2))) x1 h1
def wp_keepIdle (Q : mg_H → Prop) (x1 : Int32) (h : mg_H) : Prop :=
  ∀ (R2 : Int32 → mg_H → Prop) (R11 : Int32 → Int32 → mg_H → Prop) (R96 : Int32 → mg_H → Prop) (R90 : Int32 → Int32 → mg_H → Prop),
  (∀ (y2 : Int32) (h : mg_H), ((((368640 ≤ y2) → Q h) ∧ ((¬ 368640 ≤ y2) → R11 y2 0 h))) → R2 y2 h) →
  (∀ (y2 : Int32) (y3 : Int32) (h : mg_H), (((((mg_i h 0 25) < y3) → R96 y2 h) ∧ ((¬ (mg_i h 0 25) < y3) → vp_in y2 (mg_len 46) ∧ (wp_has (fun r2 h1 => (((r2 = 0) → R96 y2 h1) ∧ ((¬ r2 = 0) → wp_next (fun r4 h3 => (((r4 ≤ 0) → R90 y2 y3 h3) ∧ ((¬ r4 ≤ 0) → (((90 < ((y2 / 4096) + r4)) → R90 y2 y3 h3) ∧ ((¬ 90 < ((y2 / 4096) + r4)) → vp_in ((4096 * ((y2 / 4096) + r4)) + (mg_i h3 0 39)) (mg_len 46) ∧ (vp_in ((4096 * ((y2 / 4096) + r4)) + (mg_i h3 0 39)) (mg_len 46) ∧ (∀ h5 : mg_H, h5 = mg_ui h3 46 ((4096 * ((y2 / 4096) + r4)) + (mg_i h3 0 39)).toNatClampNeg ((mg_i h3 46 ((4096 * ((y2 / 4096) + r4)) + (mg_i h3 0 39)).toNatClampNeg) ||| (1 <<< (x1 &&& 31))) → R90 y2 y3 h5))))))) (y2 - y2 / 4096 * 4096) y3 h1))) (mg_i h 46 y2.toNatClampNeg) x1 h)))) → R11 y2 y3 h) →
  (∀ (y2 : Int32) (h : mg_H), (∀ z6 : Int32, z6 = y2 + 1 → R2 z6 h) → R96 y2 h) →
  (∀ (y2 : Int32) (y3 : Int32) (h : mg_H), (∀ z7 : Int32, z7 = y3 + 1 → R11 y2 z7 h) → R90 y2 y3 h) →
  (R2 0 h)
def wp_tellFrom (Q : mg_H → Prop) (x1 : Int32) (x2 : Int32) (x3 : Int32) (h : mg_H) : Prop :=
  ∀ (R12 : Int32 → Int32 → mg_H → Prop) (R95 : Int32 → mg_H → Prop) (R55 : Int32 → Int32 → Int32 → Int32 → Int32 → mg_H → Prop) (R143 : Int32 → Int32 → Int32 → Int32 → mg_H → Prop) (R66 : Int32 → mg_H → Prop) (R71 : Int32 → Int32 → mg_H → Prop),
  (∀ (y4 : Int32) (y5 : Int32) (h : mg_H), ((((4096 ≤ y5) → (((¬ y4 = 0) → wp_goOn (fun h2 => R95 0 h2) 0 x2 0 h) ∧ ((y4 = 0) → Q h))) ∧ ((¬ 4096 ≤ y5) → vp_in ((4096 * x1) + y5) (mg_len 46) ∧ (wp_has (fun r4 h3 => (((r4 = 0) → R55 y4 y5 r4 (-1) y5 h3) ∧ ((¬ r4 = 0) → R55 y4 y5 r4 0 y5 h3))) (mg_i h 46 ((4096 * x1) + y5).toNatClampNeg) x3 h)))) → R12 y4 y5 h) →
  (∀ (y5 : Int32) (h : mg_H), ((((4096 ≤ y5) → Q h) ∧ ((¬ 4096 ≤ y5) → vp_in ((4096 * (x1 + x2)) + y5) (mg_len 46) ∧ (vp_in ((4096 * x2) + y5) (mg_len 40) ∧ ((((¬ (mg_i h 40 ((4096 * x2) + y5).toNatClampNeg) = (-1)) → R143 y5 (2 <<< (x3 &&& 31)) (mg_i h 46 ((4096 * (x1 + x2)) + y5).toNatClampNeg) ((4096 * (x1 + x2)) + y5) h) ∧ (((mg_i h 40 ((4096 * x2) + y5).toNatClampNeg) = (-1)) → R143 y5 0 (mg_i h 46 ((4096 * (x1 + x2)) + y5).toNatClampNeg) ((4096 * (x1 + x2)) + y5) h))))))) → R95 y5 h) →
  (∀ (y4 : Int32) (y5 : Int32) (y6 : Int32) (s0 : Int32) (s1 : Int32) (h : mg_H), (vp_in s1 (mg_len 40) ∧ (∀ h5 : mg_H, h5 = mg_ui h 40 s1.toNatClampNeg s0 → (((¬ y4 = 0) → R66 y5 h5) ∧ ((y4 = 0) → (((y6 = 0) → R71 y5 0 h5) ∧ ((¬ y6 = 0) → R66 y5 h5)))))) → R55 y4 y5 y6 s0 s1 h) →
  (∀ (y5 : Int32) (s0 : Int32) (s1 : Int32) (s2 : Int32) (h : mg_H), (vp_in s2 (mg_len 46) ∧ (∀ h6 : mg_H, h6 = mg_ui h 46 s2.toNatClampNeg (s1 ||| s0) → ∀ z7 : Int32, z7 = y5 + 1 → R95 z7 h6)) → R143 y5 s0 s1 s2 h) →
  (∀ (y5 : Int32) (h : mg_H), (R71 y5 1 h) → R66 y5 h) →
  (∀ (y5 : Int32) (s0 : Int32) (h : mg_H), (∀ z8 : Int32, z8 = y5 + 1 → R12 s0 z8 h) → R71 y5 s0 h) →
  (wp_clear (fun h1 => R12 0 0 h1) 0 x2 h)
def wp_firstIdle (Q : Int32 → mg_H → Prop) (x1 : Int32) (h : mg_H) : Prop :=
  ∀ (R2 : Int32 → mg_H → Prop),
  (∀ (y2 : Int32) (h : mg_H), ((((372736 ≤ y2) → Q (-1) h) ∧ ((¬ 372736 ≤ y2) → vp_in y2 (mg_len 46) ∧ (wp_has (fun r2 h1 => (((r2 = 0) → ∀ z3 : Int32, z3 = y2 + 1 → R2 z3 h1) ∧ ((¬ r2 = 0) → Q (y2 / 4096) h1))) (mg_i h 46 y2.toNatClampNeg) x1 h)))) → R2 y2 h) →
  (R2 0 h)
def wp_plan (Q : Int32 → mg_H → Prop) (x1 : Int32) (x2 : Int32) (x3 : Int32) (h : mg_H) : Prop :=
  ∀ (R38 : Int32 → mg_H → Prop) (R76 : Int32 → Int32 → mg_H → Prop) (R114 : Int32 → Int32 → Int32 → mg_H → Prop),
  (∀ (y4 : Int32) (h : mg_H), ((((372736 ≤ y4) → vp_in (mg_i h 0 26) (mg_len 46) ∧ (∀ h10 : mg_H, h10 = mg_ui h 46 (mg_i h 0 26).toNatClampNeg 1 → R76 0 0 h10)) ∧ ((¬ 372736 ≤ y4) → vp_in y4 (mg_len 46) ∧ (∀ h11 : mg_H, h11 = mg_ui h 46 y4.toNatClampNeg 0 → ∀ z12 : Int32, z12 = y4 + 1 → R38 z12 h11)))) → R38 y4 h) →
  (∀ (y4 : Int32) (y5 : Int32) (h : mg_H), ((((x3 ≤ y5) → Q y4 h) ∧ ((¬ x3 ≤ y5) → (((y4 = (-1)) → Q y4 h) ∧ ((¬ y4 = (-1)) → vp_in (((7 * x2) + 1) + y5) (mg_len 9) ∧ (∀ z13 : Int32, z13 = mg_i h 9 (((7 * x2) + 1) + y5).toNatClampNeg → wp_keepIdle (fun h14 => R114 y5 z13 y4 h14) y5 h)))))) → R76 y4 y5 h) →
  (∀ (y5 : Int32) (y6 : Int32) (y7 : Int32) (h : mg_H), ((((90 < (y7 + y6)) → wp_firstIdle (fun r16 h15 => ∀ z17 : Int32, z17 = y5 + 1 → R76 r16 z17 h15) (y5 + 1) h) ∧ ((¬ 90 < (y7 + y6)) → wp_tellFrom (fun h18 => ∀ z19 : Int32, z19 = y7 + 1 → R114 y5 y6 z19 h18) y7 y6 y5 h))) → R114 y5 y6 y7 h) →
  (∀ h1 : mg_H, h1 = mg_ui h 0 0 0 → wp_hasOrder (fun r3 h2 => (((r3 = 0) → Q (-1) h2) ∧ ((¬ r3 = 0) → wp_spans (fun r5 h4 => wp_in (fun r7 h6 => (((r7 = 0) → Q (-1) h6) ∧ ((¬ r7 = 0) → wp_hand (fun r9 h8 => (((¬ r9 = 0) → R38 0 h8) ∧ ((r9 = 0) → Q (-1) h8))) x1 h6))) x3 0 r5 h4) h2))) x2 h1)
def wp_atOnce (Q : Int32 → mg_H → Prop) (h : mg_H) : Prop :=
  ∀ (R9 : Int32 → Int32 → mg_H → Prop) (R18 : Int32 → Int32 → Int32 → mg_H → Prop) (R182 : Int32 → Int32 → mg_H → Prop) (R64 : Int32 → Int32 → Int32 → Int32 → mg_H → Prop) (R65 : Int32 → Int32 → Int32 → Int32 → Int32 → mg_H → Prop) (R70 : Int32 → Int32 → Int32 → Int32 → Int32 → Int32 → mg_H → Prop) (R173 : Int32 → Int32 → Int32 → mg_H → Prop) (R174 : Int32 → Int32 → Int32 → Int32 → mg_H → Prop) (R132 : Int32 → Int32 → Int32 → Int32 → Int32 → mg_H → Prop) (R123 : Int32 → Int32 → Int32 → Int32 → Int32 → Int32 → mg_H → Prop) (R133 : Int32 → Int32 → Int32 → Int32 → Int32 → Int32 → mg_H → Prop),
  (∀ (y1 : Int32) (y2 : Int32) (h : mg_H), ((((122880 ≤ y2) → Q y1 h) ∧ ((¬ 122880 ≤ y2) → R18 y1 y2 0 h))) → R9 y1 y2 h) →
  (∀ (y1 : Int32) (y2 : Int32) (y3 : Int32) (h : mg_H), (((((mg_i h 0 25) < y3) → R182 y1 y2 h) ∧ ((¬ (mg_i h 0 25) < y3) → vp_in y2 (mg_len 40) ∧ (((((mg_i h 40 y2.toNatClampNeg) = (-1)) → R182 y1 y2 h) ∧ ((¬ (mg_i h 40 y2.toNatClampNeg) = (-1)) → wp_next (fun r3 h2 => (((r3 ≤ 0) → R64 y1 y2 y3 r3 h2) ∧ ((¬ r3 ≤ 0) → ((((mg_i h2 0 24) ≤ 0) → R64 y1 y2 y3 r3 h2) ∧ ((¬ (mg_i h2 0 24) ≤ 0) → R65 y1 y2 y3 r3 1 h2))))) (y2 - y2 / 4096 * 4096) y3 h)))))) → R18 y1 y2 y3 h) →
  (∀ (y1 : Int32) (y2 : Int32) (h : mg_H), (∀ z4 : Int32, z4 = y2 + 1 → R9 y1 z4 h) → R182 y1 y2 h) →
  (∀ (y1 : Int32) (y2 : Int32) (y3 : Int32) (y4 : Int32) (h : mg_H), (R65 y1 y2 y3 y4 0 h) → R64 y1 y2 y3 y4 h) →
  (∀ (y1 : Int32) (y2 : Int32) (y3 : Int32) (y4 : Int32) (s0 : Int32) (h : mg_H), (R70 y1 y2 y3 y4 s0 0 h) → R65 y1 y2 y3 y4 s0 h) →
  (∀ (y1 : Int32) (y2 : Int32) (y3 : Int32) (y4 : Int32) (y5 : Int32) (y6 : Int32) (h : mg_H), (((((mg_i h 0 24) ≤ y6) → (((y5 = 0) → R173 y2 y3 y1 h) ∧ ((¬ y5 = 0) → (((30 < ((y2 / 4096) + y4)) → R173 y2 y3 y1 h) ∧ ((¬ 30 < ((y2 / 4096) + y4)) → R174 y2 y3 (1 <<< (((y2 / 4096) + y4) &&& 31)) y1 h))))) ∧ ((¬ (mg_i h 0 24) ≤ y6) → ∀ z5 : Int32, z5 = ((y2 - y2 / 4096 * 4096) >>> ((3 * y6) &&& 31)) &&& 7 → (((y5 = 0) → R132 y1 y2 y3 y4 y6 h) ∧ ((¬ y5 = 0) → wp_has (fun r7 h6 => (((r7 = 0) → R123 y1 y2 y3 y4 y6 z5 h6) ∧ ((¬ r7 = 0) → vp_in y6 (mg_len 27) ∧ (R123 y1 y2 y3 y4 y6 ((mg_i h6 27 y6.toNatClampNeg) - z5) h6)))) y3 y6 h))))) → R70 y1 y2 y3 y4 y5 y6 h) →
  (∀ (y2 : Int32) (y3 : Int32) (s0 : Int32) (h : mg_H), (R174 y2 y3 0 s0 h) → R173 y2 y3 s0 h) →
  (∀ (y2 : Int32) (y3 : Int32) (s0 : Int32) (s1 : Int32) (h : mg_H), (∀ z8 : Int32, z8 = s1 ||| s0 → ∀ z9 : Int32, z9 = y3 + 1 → R18 z8 y2 z9 h) → R174 y2 y3 s0 s1 h) →
  (∀ (y1 : Int32) (y2 : Int32) (y3 : Int32) (y4 : Int32) (y6 : Int32) (h : mg_H), (R133 y1 y2 y3 y4 y6 0 h) → R132 y1 y2 y3 y4 y6 h) →
  (∀ (y1 : Int32) (y2 : Int32) (y3 : Int32) (y4 : Int32) (y6 : Int32) (s0 : Int32) (h : mg_H), ((((¬ s0 = y4) → R132 y1 y2 y3 y4 y6 h) ∧ ((s0 = y4) → R133 y1 y2 y3 y4 y6 1 h))) → R123 y1 y2 y3 y4 y6 s0 h) →
  (∀ (y1 : Int32) (y2 : Int32) (y3 : Int32) (y4 : Int32) (y6 : Int32) (s0 : Int32) (h : mg_H), (∀ z10 : Int32, z10 = y6 + 1 → R70 y1 y2 y3 y4 s0 z10 h) → R133 y1 y2 y3 y4 y6 s0 h) →
  (wp_layOut (fun h1 => R9 0 0 h1) 0 h)
def wp_wheelBy (Q : Int32 → mg_H → Prop) (x1 : Int32) (h : mg_H) : Prop :=
  ∀ (R2 : Int32 → mg_H → Prop) (R32 : Int32 → Int32 → Int32 → mg_H → Prop),
  (∀ (y2 : Int32) (h : mg_H), ((((4096 ≤ y2) → ∀ z1 : Int32, z1 = mg_i h 0 26 → R32 0 z1 0 h) ∧ ((¬ 4096 ≤ y2) → vp_in y2 (mg_len 47) ∧ (∀ h2 : mg_H, h2 = mg_ui h 47 y2.toNatClampNeg (-1) → ∀ z3 : Int32, z3 = y2 + 1 → R2 z3 h2)))) → R2 y2 h) →
  (∀ (y2 : Int32) (y3 : Int32) (y4 : Int32) (h : mg_H), (vp_in y3 (mg_len 47) ∧ ((((¬ (mg_i h 47 y3.toNatClampNeg) = (-1)) → vp_in y3 (mg_len 47) ∧ (∀ z4 : Int32, z4 = mg_i h 47 y3.toNatClampNeg → (((¬ x1 = 1) → (((¬ x1 = 2) → vp_in z4 (mg_len 48) ∧ (Q (y4 - (mg_i h 48 z4.toNatClampNeg)) h)) ∧ ((x1 = 2) → Q (y2 - z4) h))) ∧ ((x1 = 1) → Q z4 h)))) ∧ (((mg_i h 47 y3.toNatClampNeg) = (-1)) → vp_in y3 (mg_len 47) ∧ (∀ h5 : mg_H, h5 = mg_ui h 47 y3.toNatClampNeg y2 → vp_in y2 (mg_len 48) ∧ (∀ h6 : mg_H, h6 = mg_ui h5 48 y2.toNatClampNeg y4 → ∀ z7 : Int32, z7 = y2 + 1 → wp_next (fun r9 h8 => (((¬ r9 = 0) → ∀ z10 : Int32, z10 = y4 + r9 → ∀ z11 : Int32, z11 = mg_i h8 0 39 → R32 z7 z11 z10 h8) ∧ ((r9 = 0) → Q (-1) h8))) y3 (mg_i h6 0 25) h6)))))) → R32 y2 y3 y4 h) →
  (R2 0 h)
def wp_wheel (Q : Int32 → mg_H → Prop) (x1 : Int32) (x2 : Int32) (h : mg_H) : Prop :=
  ∀ h1 : mg_H, h1 = mg_ui h 0 0 0 → wp_hand (fun r3 h2 => (((r3 = 0) → Q (-2) h2) ∧ ((¬ r3 = 0) → wp_in (fun r5 h4 => (((¬ r5 = 0) → (((¬ x2 = 0) → wp_wheelBy (fun r7 h6 => Q r7 h6) x2 h4) ∧ ((x2 = 0) → wp_atOnce (fun r9 h8 => Q r9 h8) h4))) ∧ ((r5 = 0) → Q (-2) h4))) x2 0 3 h2))) x1 h1
def wp_commonL (Q : Int64 → mg_H → Prop) (x0 : Int64) (x2 : Int64) (h : mg_H) : Prop :=
  ∀ (R6 : Int64 → Int64 → mg_H → Prop),
  (∀ (y4 : Int64) (y6 : Int64) (h : mg_H), (((((lg_cmp y6 0) = 0) → Q y4 h) ∧ ((¬ (lg_cmp y6 0) = 0) → (¬ y6 = 0) ∧ (∀ z1 : Int64, z1 = y4 - y4 / y6 * y6 → R6 y6 z1 h)))) → R6 y4 y6 h) →
  (R6 x0 x2 h)
def wp_partL (Q : Int64 → mg_H → Prop) (x0 : Int64) (x2 : Int64) (x4 : Int32) (h : mg_H) : Prop :=
  ∀ (R10 : Int64 → mg_H → Prop),
  (∀ (s0 : Int64) (h : mg_H), (wp_commonL (fun r2 h1 => (¬ r2 = 0) ∧ (Q (s0 / r2) h1)) x2 x0 h) → R10 s0 h) →
  ((((x4 = 0) → R10 x0 h) ∧ ((¬ x4 = 0) → R10 x2 h)))
def wp_luck (Q : Int64 → mg_H → Prop) (x1 : Int32) (x2 : Int32) (x3 : Int32) (h : mg_H) : Prop :=
  ∀ (R30 : Int32 → mg_H → Prop) (R69 : Int32 → mg_H → Prop) (R193 : Int64 → Int32 → mg_H → Prop) (R82 : Int32 → Int32 → mg_H → Prop) (R181 : Int32 → mg_H → Prop) (R175 : Int32 → Int32 → mg_H → Prop),
  (∀ (y4 : Int32) (h : mg_H), (((((4096 * (x2 + 1)) ≤ y4) → vp_in (mg_i h 0 26) (mg_len 49) ∧ (∀ h6 : mg_H, h6 = mg_ul h 49 (mg_i h 0 26).toNatClampNeg 1 → R69 0 h6)) ∧ ((¬ (4096 * (x2 + 1)) ≤ y4) → vp_in y4 (mg_len 49) ∧ (∀ h7 : mg_H, h7 = mg_ul h 49 y4.toNatClampNeg 0 → ∀ z8 : Int32, z8 = y4 + 1 → R30 z8 h7)))) → R30 y4 h) →
  (∀ (y4 : Int32) (h : mg_H), (((((4096 * x2) ≤ y4) → R193 0 0 h) ∧ ((¬ (4096 * x2) ≤ y4) → R82 y4 0 h))) → R69 y4 h) →
  (∀ (y4 : Int64) (y6 : Int32) (h : mg_H), ((((4096 ≤ y6) → wp_partL (fun r10 h9 => Q r10 h9) y4 (1 <<< (((mg_i h 0 24) * x2).toInt64 &&& 63)) x3 h) ∧ ((¬ 4096 ≤ y6) → vp_in ((4096 * x2) + y6) (mg_len 49) ∧ (∀ z11 : Int64, z11 = y4 + (mg_l h 49 ((4096 * x2) + y6).toNatClampNeg) → ∀ z12 : Int32, z12 = y6 + 1 → R193 z11 z12 h)))) → R193 y4 y6 h) →
  (∀ (y4 : Int32) (y5 : Int32) (h : mg_H), (((((mg_i h 0 25) < y5) → R181 y4 h) ∧ ((¬ (mg_i h 0 25) < y5) → vp_in y4 (mg_len 49) ∧ (((((lg_cmp (mg_l h 49 y4.toNatClampNeg) 0) ≤ 0) → R181 y4 h) ∧ ((¬ (lg_cmp (mg_l h 49 y4.toNatClampNeg) 0) ≤ 0) → wp_next (fun r14 h13 => ∀ z15 : Int32, z15 = (y4 / 4096) + r14 → (((r14 ≤ 0) → R175 y4 y5 h13) ∧ ((¬ r14 ≤ 0) → (((x2 < z15) → R175 y4 y5 h13) ∧ ((¬ x2 < z15) → vp_in ((4096 * z15) + (mg_i h13 0 39)) (mg_len 49) ∧ (vp_in y4 (mg_len 49) ∧ (vp_in ((4096 * z15) + (mg_i h13 0 39)) (mg_len 49) ∧ (∀ h16 : mg_H, h16 = mg_ul h13 49 ((4096 * z15) + (mg_i h13 0 39)).toNatClampNeg ((mg_l h13 49 ((4096 * z15) + (mg_i h13 0 39)).toNatClampNeg) + ((mg_l h13 49 y4.toNatClampNeg) <<< (((mg_i h13 0 24) * (r14 - 1)).toInt64 &&& 63))) → R175 y4 y5 h16)))))))) (y4 - y4 / 4096 * 4096) y5 h)))))) → R82 y4 y5 h) →
  (∀ (y4 : Int32) (h : mg_H), (∀ z17 : Int32, z17 = y4 + 1 → R69 z17 h) → R181 y4 h) →
  (∀ (y4 : Int32) (y5 : Int32) (h : mg_H), (∀ z18 : Int32, z18 = y5 + 1 → R82 y4 z18 h) → R175 y4 y5 h) →
  (∀ h1 : mg_H, h1 = mg_ui h 0 0 0 → wp_in (fun r3 h2 => (((r3 = 0) → Q (-1) h2) ∧ ((¬ r3 = 0) → wp_hand (fun r5 h4 => (((¬ r5 = 0) → R30 0 h4) ∧ ((r5 = 0) → Q (-1) h4))) x1 h2))) x2 1 10 h1)
def wp_sixteens (Q : Int32 → mg_H → Prop) (x0 : Int32) (h : mg_H) : Prop :=
  Q (1 <<< ((4 * x0) &&& 31)) h
def wp_endOf (Q : Int32 → mg_H → Prop) (x1 : Int32) (x2 : Int32) (h : mg_H) : Prop :=
  ∀ (R14 : Int32 → Int32 → Int32 → Int32 → mg_H → Prop) (R65 : Int32 → Int32 → Int32 → Int32 → mg_H → Prop) (R77 : Int32 → Int32 → Int32 → Int32 → Int32 → mg_H → Prop) (R99 : Int32 → Int32 → Int32 → Int32 → mg_H → Prop),
  (∀ (y3 : Int32) (y4 : Int32) (y5 : Int32) (y6 : Int32) (h : mg_H), ((((x1 ≤ y6) → Q y4 h) ∧ ((¬ x1 ≤ y6) → ∀ z2 : Int32, z2 = (x2 >>> ((4 * ((x1 - 1) - y6)) &&& 31)) &&& 15 → ((((z2 &&& ((mg_i h 0 25) ^^^ (-1))) = 0) → (((y5 = 0) → R65 y3 y4 y6 0 h) ∧ ((¬ y5 = 0) → wp_next (fun r4 h3 => R65 y3 y4 y6 r4 h3) y3 z2 h))) ∧ ((¬ (z2 &&& ((mg_i h 0 25) ^^^ (-1))) = 0) → Q (-1) h))))) → R14 y3 y4 y5 y6 h) →
  (∀ (y3 : Int32) (y4 : Int32) (y6 : Int32) (s0 : Int32) (h : mg_H), ((((s0 ≤ 0) → R77 y3 y4 y6 s0 0 h) ∧ ((¬ s0 ≤ 0) → R77 y3 y4 y6 s0 1 h))) → R65 y3 y4 y6 s0 h) →
  (∀ (y3 : Int32) (y4 : Int32) (y6 : Int32) (y8 : Int32) (s0 : Int32) (h : mg_H), (∀ z5 : Int32, z5 = y4 + y8 → (((s0 = 0) → R99 z5 s0 y6 y3 h) ∧ ((¬ s0 = 0) → R99 z5 s0 y6 (mg_i h 0 39) h))) → R77 y3 y4 y6 y8 s0 h) →
  (∀ (y4 : Int32) (y5 : Int32) (y6 : Int32) (s0 : Int32) (h : mg_H), (∀ z6 : Int32, z6 = y6 + 1 → R14 s0 y4 y5 z6 h) → R99 y4 y5 y6 s0 h) →
  (∀ z1 : Int32, z1 = mg_i h 0 26 → R14 z1 0 1 0 h)
def wp_fold (Q : Int32 → mg_H → Prop) (x1 : Int32) (x2 : Int32) (h : mg_H) : Prop :=
  ∀ (R10 : Int32 → Int32 → mg_H → Prop) (R67 : Int32 → Int32 → mg_H → Prop) (R58 : Int32 → Int32 → mg_H → Prop),
  (∀ (y3 : Int32) (y4 : Int32) (h : mg_H), ((((16 ≤ y4) → Q y3 h) ∧ ((¬ 16 ≤ y4) → vp_in (x1 + y4) (mg_len 50) ∧ (∀ z2 : Int32, z2 = mg_i h 50 (x1 + y4).toNatClampNeg → (((z2 = (-1)) → R67 y3 y4 h) ∧ ((¬ z2 = (-1)) → (((y3 = (-1)) → R58 y4 z2 h) ∧ ((¬ y3 = (-1)) → (((x2 = 0) → (((y3 ≤ z2) → R67 y3 y4 h) ∧ ((¬ y3 ≤ z2) → R58 y4 z2 h))) ∧ ((¬ x2 = 0) → (((z2 ≤ y3) → R67 y3 y4 h) ∧ ((¬ z2 ≤ y3) → R58 y4 z2 h)))))))))))) → R10 y3 y4 h) →
  (∀ (y3 : Int32) (y4 : Int32) (h : mg_H), (∀ z3 : Int32, z3 = y4 + 1 → R10 y3 z3 h) → R67 y3 y4 h) →
  (∀ (y4 : Int32) (y5 : Int32) (h : mg_H), (∀ h4 : mg_H, h4 = mg_ui h 0 51 y4 → R67 y5 y4 h4) → R58 y4 y5 h) →
  (∀ h1 : mg_H, h1 = mg_ui h 0 51 (-1) → R10 (-1) 0 h1)
def wp_duel (Q : Int32 → mg_H → Prop) (x1 : Int32) (x2 : Int32) (x3 : Int32) (h : mg_H) : Prop :=
  ∀ (R34 : Int32 → Int32 → mg_H → Prop) (R71 : Int32 → Int32 → mg_H → Prop) (R86 : Int32 → Int32 → Int32 → mg_H → Prop) (R117 : Int32 → Int32 → Int32 → Int32 → Int32 → Int32 → mg_H → Prop),
  (∀ (y4 : Int32) (y5 : Int32) (h : mg_H), ((((y4 ≤ y5) → ∀ h8 : mg_H, h8 = mg_ui h 0 51 (-1) → ∀ z9 : Int32, z9 = x2 - 1 → R71 y4 z9 h8) ∧ ((¬ y4 ≤ y5) → wp_endOf (fun r11 h10 => vp_in y5 (mg_len 50) ∧ (∀ h12 : mg_H, h12 = mg_ui h10 50 y5.toNatClampNeg r11 → ∀ z13 : Int32, z13 = y5 + 1 → R34 y4 z13 h12)) x2 y5 h))) → R34 y4 y5 h) →
  (∀ (y4 : Int32) (y5 : Int32) (h : mg_H), ((((y5 < 0) → (((x3 = 0) → vp_in 0 (mg_len 50) ∧ (Q (mg_i h 50 (0 : Int32).toNatClampNeg) h)) ∧ ((¬ x3 = 0) → Q (mg_i h 0 51) h))) ∧ ((¬ y5 < 0) → ∀ z14 : Int32, z14 = y4 / 16 → R86 z14 y5 0 h))) → R71 y4 y5 h) →
  (∀ (y4 : Int32) (y5 : Int32) (y6 : Int32) (h : mg_H), ((((y4 ≤ y6) → ∀ z15 : Int32, z15 = y5 + (-1) → R71 y4 z15 h) ∧ ((¬ y4 ≤ y6) → (((¬ (y5 - y5 / 2 * 2) = 0) → R117 y4 y5 y6 0 (16 * y6) y6 h) ∧ (((y5 - y5 / 2 * 2) = 0) → R117 y4 y5 y6 1 (16 * y6) y6 h))))) → R86 y4 y5 y6 h) →
  (∀ (y4 : Int32) (y5 : Int32) (y6 : Int32) (s0 : Int32) (s1 : Int32) (s3 : Int32) (h : mg_H), (wp_fold (fun r17 h16 => vp_in s3 (mg_len 50) ∧ (∀ h18 : mg_H, h18 = mg_ui h16 50 s3.toNatClampNeg r17 → ∀ z19 : Int32, z19 = y6 + 1 → R86 y4 y5 z19 h18)) s1 s0 h) → R117 y4 y5 y6 s0 s1 s3 h) →
  (∀ h1 : mg_H, h1 = mg_ui h 0 0 0 → wp_in (fun r3 h2 => (((r3 = 0) → Q (-9) h2) ∧ ((¬ r3 = 0) → wp_hand (fun r5 h4 => (((¬ r5 = 0) → wp_sixteens (fun r7 h6 => R34 r7 0 h6) x2 h4) ∧ ((r5 = 0) → Q (-9) h4))) x1 h2))) x2 0 4 h1)
def wp_chance (Q : Int32 → mg_H → Prop) (x1 : Int32) (x2 : Int32) (x3 : Int32) (x4 : Int32) (h : mg_H) : Prop :=
  ∀ (R44 : Int32 → Int32 → Int32 → mg_H → Prop) (R62 : Int32 → Int32 → Int32 → Int32 → Int32 → mg_H → Prop) (R129 : Int32 → Int32 → Int32 → Int32 → mg_H → Prop) (R91 : Int32 → Int32 → Int32 → Int32 → Int32 → Int32 → mg_H → Prop),
  (∀ (y5 : Int32) (y6 : Int32) (y7 : Int32) (h : mg_H), (((((mg_i h 0 25) < y7) → wp_partL (fun r9 h8 => Q (r9.toInt32) h8) (y5.toInt64) (y6.toInt64) x4 h) ∧ ((¬ (mg_i h 0 25) < y7) → R62 y5 1 y7 1 0 h))) → R44 y5 y6 y7 h) →
  (∀ (y5 : Int32) (y6 : Int32) (y7 : Int32) (y8 : Int32) (y9 : Int32) (h : mg_H), (((((mg_i h 0 24) ≤ y9) → wp_next (fun r11 h10 => (((¬ r11 = x3) → R129 y6 y7 0 y5 h10) ∧ ((r11 = x3) → R129 y6 y7 y8 y5 h10))) (mg_i h 0 26) y7 h) ∧ ((¬ (mg_i h 0 24) ≤ y9) → wp_has (fun r13 h12 => (((r13 = 0) → R91 y5 y6 y7 y9 (10 - x2) y8 h12) ∧ ((¬ r13 = 0) → R91 y5 y6 y7 y9 x2 y8 h12))) y7 y9 h))) → R62 y5 y6 y7 y8 y9 h) →
  (∀ (y6 : Int32) (y7 : Int32) (s0 : Int32) (s1 : Int32) (h : mg_H), (∀ z14 : Int32, z14 = s1 + s0 → ∀ z15 : Int32, z15 = y7 + 1 → R44 z14 y6 z15 h) → R129 y6 y7 s0 s1 h) →
  (∀ (y5 : Int32) (y6 : Int32) (y7 : Int32) (y9 : Int32) (s0 : Int32) (s1 : Int32) (h : mg_H), (∀ z16 : Int32, z16 = s1 * s0 → ∀ z17 : Int32, z17 = y6 * 10 → ∀ z18 : Int32, z18 = y9 + 1 → R62 y5 z17 y7 z16 z18 h) → R91 y5 y6 y7 y9 s0 s1 h) →
  (∀ h1 : mg_H, h1 = mg_ui h 0 0 0 → wp_in (fun r3 h2 => (((r3 = 0) → Q (-1) h2) ∧ ((¬ r3 = 0) → wp_in (fun r5 h4 => (((r5 = 0) → Q (-1) h4) ∧ ((¬ r5 = 0) → wp_hand (fun r7 h6 => (((¬ r7 = 0) → R44 0 1 0 h6) ∧ ((r7 = 0) → Q (-1) h6))) x1 h4))) x3 0 7 h2))) x2 0 10 h1)
def wp_facts (Q : Int32 → mg_H → Prop) (h : mg_H) : Prop :=
  vp_in (17 * (mg_i h 0 52)) (mg_len 8) ∧ (Q (mg_i h 8 (17 * (mg_i h 0 52)).toNatClampNeg) h)
def wp_factOf (Q : Int32 → mg_H → Prop) (x1 : Int32) (x2 : Int32) (h : mg_H) : Prop :=
  vp_in ((((17 * (mg_i h 0 52)) + 1) + (2 * x1)) + x2) (mg_len 8) ∧ (Q (mg_i h 8 ((((17 * (mg_i h 0 52)) + 1) + (2 * x1)) + x2).toNatClampNeg) h)
def wp_hasLog (Q : Int32 → mg_H → Prop) (x1 : Int32) (h : mg_H) : Prop :=
  ∀ h1 : mg_H, h1 = mg_ui h 0 52 x1 → wp_is (fun r3 h2 => mg_b r3 ∧ Q r3 h2) 2 x1 h1
def wp_fact (Q : Int32 → mg_H → Prop) (x1 : Int32) (x2 : Int32) (x3 : Int32) (h : mg_H) : Prop :=
  ∀ h1 : mg_H, h1 = mg_ui h 0 0 0 → wp_hasLog (fun r3 h2 => (((¬ r3 = 0) → (((¬ x2 = (-1)) → wp_facts (fun r5 h4 => wp_in (fun r7 h6 => (((r7 = 0) → Q (-2) h6) ∧ ((¬ r7 = 0) → wp_in (fun r9 h8 => (((r9 = 0) → Q (-2) h8) ∧ ((¬ r9 = 0) → wp_factOf (fun r11 h10 => Q r11 h10) x2 x3 h8))) x3 0 1 h6))) x2 0 (r5 - 1) h4) h2) ∧ ((x2 = (-1)) → (((¬ x3 = 0) → Q (-2) h2) ∧ ((x3 = 0) → wp_facts (fun r13 h12 => Q r13 h12) h2))))) ∧ ((r3 = 0) → Q (-2) h2))) x1 h1
def wp_isSo (Q : Int32 → mg_H → Prop) (h : mg_H) : Prop :=
  ∀ (R2 : Int32 → mg_H → Prop) (R51 : Int32 → mg_H → Prop),
  (∀ (y1 : Int32) (h : mg_H), (wp_facts (fun r2 h1 => (((r2 ≤ y1) → Q 1 h1) ∧ ((¬ r2 ≤ y1) → wp_factOf (fun r4 h3 => vp_in r4 (mg_len 38) ∧ (∀ z5 : Int32, z5 = mg_i h3 38 r4.toNatClampNeg → wp_factOf (fun r7 h6 => (((¬ r7 = (-1)) → wp_has (fun r9 h8 => (((¬ r9 = 0) → R51 y1 h8) ∧ ((r9 = 0) → Q 0 h8))) z5 r7 h6) ∧ ((r7 = (-1)) → (((z5 = 0) → R51 y1 h6) ∧ ((¬ z5 = 0) → Q 0 h6))))) y1 1 h3)) y1 0 h1))) h) → R2 y1 h) →
  (∀ (y1 : Int32) (h : mg_H), (∀ z10 : Int32, z10 = y1 + 1 → R2 z10 h) → R51 y1 h) →
  (R2 0 h)
def wp_playBy (Q : mg_H → Prop) (x1 : Int32) (h : mg_H) : Prop :=
  ∀ (R14 : Int32 → mg_H → Prop) (R48 : mg_H → Prop),
  (∀ (y2 : Int32) (h : mg_H), ((((4 ≤ y2) → wp_deeds (fun r4 h3 => wp_play (fun r6 h5 => R48 h5) r4 h3) h) ∧ ((¬ 4 ≤ y2) → vp_in y2 (mg_len 28) ∧ (∀ h7 : mg_H, h7 = mg_ui h 28 y2.toNatClampNeg ((x1 >>> ((3 * y2) &&& 31)) &&& 7) → ∀ z8 : Int32, z8 = y2 + 1 → R14 z8 h7)))) → R14 y2 h) →
  (∀ (h : mg_H), ((((99 ≤ (mg_i h 0 30)) → Q h) ∧ ((¬ 99 ≤ (mg_i h 0 30)) → wp_goBy (fun h9 => R48 h9) h))) → R48 h) →
  (wp_alone (fun h1 => wp_beginDay (fun h2 => R14 0 h2) h1) (mg_i h 0 25) h)
def wp_topIn (Q : Int32 → mg_H → Prop) (x0 : Int32) (x1 : Int32) (h : mg_H) : Prop :=
  Q ((x0 >>> ((3 * x1) &&& 31)) &&& 7) h
def wp_noteFit (Q : mg_H → Prop) (x1 : Int32) (x2 : Int32) (h : mg_H) : Prop :=
  ∀ (R5 : Int32 → Int32 → mg_H → Prop) (R127 : Int32 → mg_H → Prop) (R74 : Int32 → Int32 → Int32 → Int32 → mg_H → Prop) (R143 : Int32 → mg_H → Prop) (R100 : Int32 → Int32 → Int32 → Int32 → mg_H → Prop) (R173 : Int32 → Int32 → Int32 → Int32 → mg_H → Prop),
  (∀ (y3 : Int32) (y4 : Int32) (h : mg_H), (((((mg_i h 0 24) ≤ y4) → (((¬ (mg_i h 0 53) = x2) → R127 (mg_i h 0 54) h) ∧ (((mg_i h 0 53) = x2) → R127 y3 h))) ∧ ((¬ (mg_i h 0 24) ≤ y4) → wp_topIn (fun r2 h1 => ∀ z3 : Int32, z3 = (10 * y3) + r2 → vp_in y4 (mg_len 57) ∧ (wp_topIn (fun r5 h4 => vp_in y4 (mg_len 57) ∧ (∀ h6 : mg_H, h6 = mg_ui h4 57 y4.toNatClampNeg ((mg_i h1 57 y4.toNatClampNeg) ||| (1 <<< (r5 &&& 31))) → wp_topIn (fun r8 h7 => wp_of (fun r10 h9 => (((¬ r8 = r10) → R74 z3 y4 0 (mg_i h6 0 55) h9) ∧ ((r8 = r10) → R74 z3 y4 (1 <<< (y4 &&& 31)) (mg_i h6 0 55) h9))) (1 + y4) h7) x1 y4 h6)) x1 y4 h1)) x1 y4 h))) → R5 y3 y4 h) →
  (∀ (s0 : Int32) (h : mg_H), (∀ h11 : mg_H, h11 = mg_ui h 0 54 s0 → ∀ h12 : mg_H, h12 = mg_ui h11 0 53 ((mg_i h11 0 53) + 1) → R143 1 h12) → R127 s0 h) →
  (∀ (y3 : Int32) (y4 : Int32) (s0 : Int32) (s1 : Int32) (h : mg_H), (∀ h13 : mg_H, h13 = mg_ui h 0 55 (s1 ||| s0) → wp_topIn (fun r15 h14 => (((¬ r15 = 0) → R100 y3 y4 0 (mg_i h13 0 56) h14) ∧ ((r15 = 0) → R100 y3 y4 (1 <<< (y4 &&& 31)) (mg_i h13 0 56) h14))) x1 y4 h13) → R74 y3 y4 s0 s1 h) →
  (∀ (y4 : Int32) (h : mg_H), ((((41 ≤ y4) → Q h) ∧ ((¬ 41 ≤ y4) → vp_in y4 (mg_len 58) ∧ (vp_in y4 (mg_len 38) ∧ (((((mg_i h 38 y4.toNatClampNeg) = 0) → R173 y4 0 (mg_i h 58 y4.toNatClampNeg) y4 h) ∧ ((¬ (mg_i h 38 y4.toNatClampNeg) = 0) → R173 y4 1 (mg_i h 58 y4.toNatClampNeg) y4 h))))))) → R143 y4 h) →
  (∀ (y3 : Int32) (y4 : Int32) (s0 : Int32) (s1 : Int32) (h : mg_H), (∀ h16 : mg_H, h16 = mg_ui h 0 56 (s1 ||| s0) → ∀ z17 : Int32, z17 = y4 + 1 → R5 y3 z17 h16) → R100 y3 y4 s0 s1 h) →
  (∀ (y4 : Int32) (s0 : Int32) (s1 : Int32) (s2 : Int32) (h : mg_H), (vp_in s2 (mg_len 58) ∧ (∀ h18 : mg_H, h18 = mg_ui h 58 s2.toNatClampNeg (s1 + s0) → ∀ z19 : Int32, z19 = y4 + 1 → R143 z19 h18)) → R173 y4 s0 s1 s2 h) →
  (R5 1 0 h)
def wp_nextTops (Q : Int32 → mg_H → Prop) (x1 : Int32) (h : mg_H) : Prop :=
  ∀ (R9 : Int32 → Int32 → mg_H → Prop),
  (∀ (y2 : Int32) (y3 : Int32) (h : mg_H), ((((y3 < 0) → Q (-1) h) ∧ ((¬ y3 < 0) → wp_topIn (fun r3 h2 => wp_of (fun r5 h4 => (((r5 ≤ r3) → ∀ z6 : Int32, z6 = y2 &&& ((7 <<< ((3 * y3) &&& 31)) ^^^ (-1)) → ∀ z7 : Int32, z7 = y3 + (-1) → R9 z6 z7 h4) ∧ ((¬ r5 ≤ r3) → Q (y2 + (1 <<< ((3 * y3) &&& 31))) h4))) (1 + y3) h2) y2 y3 h))) → R9 y2 y3 h) →
  (∀ z1 : Int32, z1 = (mg_i h 0 24) - 1 → R9 x1 z1 h)
def wp_findTops (Q : mg_H → Prop) (x1 : Int32) (h : mg_H) : Prop :=
  ∀ (R23 : Int32 → mg_H → Prop) (R43 : Int32 → mg_H → Prop) (R64 : Int32 → mg_H → Prop) (R87 : Int32 → mg_H → Prop),
  (∀ (y2 : Int32) (h : mg_H), ((((4 ≤ y2) → R43 0 h) ∧ ((¬ 4 ≤ y2) → vp_in y2 (mg_len 57) ∧ (∀ h5 : mg_H, h5 = mg_ui h 57 y2.toNatClampNeg 0 → ∀ z6 : Int32, z6 = y2 + 1 → R23 z6 h5)))) → R23 y2 h) →
  (∀ (y2 : Int32) (h : mg_H), ((((41 ≤ y2) → R64 0 h) ∧ ((¬ 41 ≤ y2) → vp_in y2 (mg_len 58) ∧ (∀ h7 : mg_H, h7 = mg_ui h 58 y2.toNatClampNeg 0 → ∀ z8 : Int32, z8 = y2 + 1 → R43 z8 h7)))) → R43 y2 h) →
  (∀ (y2 : Int32) (h : mg_H), ((((y2 = (-1)) → Q h) ∧ ((¬ y2 = (-1)) → wp_playBy (fun h9 => wp_isSo (fun r11 h10 => (((r11 = 0) → R87 y2 h10) ∧ ((¬ r11 = 0) → wp_noteFit (fun h12 => R87 y2 h12) y2 x1 h10))) h9) y2 h))) → R64 y2 h) →
  (∀ (y2 : Int32) (h : mg_H), (wp_nextTops (fun r14 h13 => R64 r14 h13) y2 h) → R87 y2 h) →
  (∀ h1 : mg_H, h1 = mg_ui h 0 53 0 → ∀ h2 : mg_H, h2 = mg_ui h1 0 54 (-2) → ∀ h3 : mg_H, h3 = mg_ui h2 0 55 0 → ∀ h4 : mg_H, h4 = mg_ui h3 0 56 0 → R23 0 h4)
def wp_askWhen (Q : Int32 → mg_H → Prop) (h : mg_H) : Prop :=
  ∀ (R4 : Int32 → Int32 → mg_H → Prop) (R65 : Int32 → Int32 → mg_H → Prop) (R70 : Int32 → Int32 → Int32 → mg_H → Prop) (R80 : Int32 → Int32 → mg_H → Prop),
  (∀ (y1 : Int32) (y2 : Int32) (h : mg_H), ((((41 ≤ y2) → Q y1 h) ∧ ((¬ 41 ≤ y2) → ((((mg_i h 0 53) ≤ 0) → Q y1 h) ∧ ((¬ (mg_i h 0 53) ≤ 0) → (((y1 = (-1)) → R65 y1 y2 h) ∧ ((¬ y1 = (-1)) → vp_in y2 (mg_len 58) ∧ (vp_in y2 (mg_len 58) ∧ (wp_greater (fun r2 h1 => vp_in y1 (mg_len 58) ∧ (vp_in y1 (mg_len 58) ∧ (wp_greater (fun r4 h3 => (((r4 ≤ r2) → R70 y1 y2 0 h3) ∧ ((¬ r4 ≤ r2) → R65 y1 y2 h3))) (mg_i h1 58 y1.toNatClampNeg) ((mg_i h1 0 53) - (mg_i h1 58 y1.toNatClampNeg)) h1))) (mg_i h 58 y2.toNatClampNeg) ((mg_i h 0 53) - (mg_i h 58 y2.toNatClampNeg)) h))))))))) → R4 y1 y2 h) →
  (∀ (y1 : Int32) (y2 : Int32) (h : mg_H), (R70 y1 y2 1 h) → R65 y1 y2 h) →
  (∀ (y1 : Int32) (y2 : Int32) (s0 : Int32) (h : mg_H), ((((s0 = 0) → R80 y2 y1 h) ∧ ((¬ s0 = 0) → R80 y2 y2 h))) → R70 y1 y2 s0 h) →
  (∀ (y2 : Int32) (s0 : Int32) (h : mg_H), (∀ z5 : Int32, z5 = y2 + 1 → R4 s0 z5 h) → R80 y2 s0 h) →
  (R4 (-1) 1 h)
def wp_sure (Q : Int32 → mg_H → Prop) (x1 : Int32) (h : mg_H) : Prop :=
  ∀ (R2 : Int32 → mg_H → Prop),
  (∀ (y2 : Int32) (h : mg_H), ((((8 ≤ y2) → Q (-1) h) ∧ ((¬ 8 ≤ y2) → vp_in x1 (mg_len 57) ∧ ((((¬ (mg_i h 57 x1.toNatClampNeg) = (1 <<< (y2 &&& 31))) → ∀ z1 : Int32, z1 = y2 + 1 → R2 z1 h) ∧ (((mg_i h 57 x1.toNatClampNeg) = (1 <<< (y2 &&& 31))) → Q y2 h)))))) → R2 y2 h) →
  (R2 0 h)
def wp_fits (Q : Int32 → mg_H → Prop) (x1 : Int32) (x2 : Int32) (x3 : Int32) (x4 : Int32) (h : mg_H) : Prop :=
  ∀ h1 : mg_H, h1 = mg_ui h 0 0 0 → wp_hasDay (fun r3 h2 => (((r3 = 0) → Q (-2) h2) ∧ ((¬ r3 = 0) → wp_hasLog (fun r5 h4 => (((r5 = 0) → Q (-2) h4) ∧ ((¬ r5 = 0) → wp_hand (fun r7 h6 => (((¬ r7 = 0) → wp_findTops (fun h8 => (((x4 < 10) → wp_in (fun r10 h9 => (((r10 = 0) → ((x4 = 0 → Q (mg_i h9 0 53) h9) ∧ (x4 = 1 → wp_askWhen (fun r12 h11 => Q r12 h11) h9) ∧ (x4 = 2 → Q (mg_i h9 0 55) h9) ∧ (x4 = 3 → Q (mg_i h9 0 56) h9) ∧ ((¬ x4 = 0) → (¬ x4 = 1) → (¬ x4 = 2) → (¬ x4 = 3) → Q (-2) h9))) ∧ ((¬ r10 = 0) → wp_sure (fun r14 h13 => Q r14 h13) (x4 - 4) h9))) x4 4 7 h8) ∧ ((¬ x4 < 10) → Q (mg_i h8 0 54) h8))) (x4 - 10) h6) ∧ ((r7 = 0) → Q (-2) h6))) x1 h4))) x3 h2))) x2 h1
def wp_draw (Q : Int32 → mg_H → Prop) (x1 : Int32) (h : mg_H) : Prop :=
  ∀ h1 : mg_H, h1 = mg_ui h 0 59 (((mg_i h 0 59) * 1103515245) + 12345) → (¬ x1 = 0) ∧ (Q ((((mg_i h1 0 59).toUInt32 >>> ((16 : Int32).toUInt32 &&& Int32.toUInt32 31)).toInt32) - (((mg_i h1 0 59).toUInt32 >>> ((16 : Int32).toUInt32 &&& Int32.toUInt32 31)).toInt32) / x1 * x1) h1)
def wp_drawDeed (Q : mg_H → Prop) (h : mg_H) : Prop :=
  ∀ (R68 : Int32 → mg_H → Prop),
  (∀ (s0 : Int32) (h : mg_H), (wp_draw (fun r8 h7 => wp_does (fun r10 h9 => Q h9) s0 r8 h7) (mg_i h 0 24) h) → R68 s0 h) →
  (wp_draw (fun r2 h1 => (((3 ≤ r2) → ((((mg_i h1 0 24) ≤ 0) → Q h1) ∧ ((¬ (mg_i h1 0 24) ≤ 0) → (((6 ≤ r2) → (((¬ r2 = 6) → (((9 ≤ r2) → R68 4 h1) ∧ ((¬ 9 ≤ r2) → R68 3 h1))) ∧ ((r2 = 6) → R68 2 h1))) ∧ ((¬ 6 ≤ r2) → R68 1 h1))))) ∧ ((¬ 3 ≤ r2) → wp_draw (fun r4 h3 => wp_does (fun r6 h5 => Q h5) 0 (1 + r4) h3) 9 h1))) 10 h)
def wp_drawn (Q : Int32 → mg_H → Prop) (x1 : Int32) (x2 : Int32) (x3 : Int32) (x4 : Int32) (h : mg_H) : Prop :=
  ∀ (R37 : Int32 → mg_H → Prop),
  (∀ (y5 : Int32) (h : mg_H), ((((x3 ≤ y5) → wp_ofState (fun r9 h8 => Q r9 h8) x4 h) ∧ ((¬ x3 ≤ y5) → wp_drawDeed (fun h10 => ∀ z11 : Int32, z11 = y5 + 1 → R37 z11 h10) h))) → R37 y5 h) →
  (∀ h1 : mg_H, h1 = mg_ui h 0 0 0 → wp_in (fun r3 h2 => (((r3 = 0) → Q (-1) h2) ∧ ((¬ r3 = 0) → wp_hand (fun r5 h4 => (((¬ r5 = 0) → wp_beginDay (fun h6 => ∀ h7 : mg_H, h7 = mg_ui h6 0 59 x2 → R37 0 h7) h4) ∧ ((r5 = 0) → Q (-1) h4))) x1 h2))) x3 0 60 h1)
def wp_reachedTops (Q : Int32 → mg_H → Prop) (h : mg_H) : Prop :=
  ∀ (R4 : Int32 → Int32 → mg_H → Prop) (R16 : Int32 → Int32 → Int32 → Int32 → mg_H → Prop) (R56 : Int32 → Int32 → Int32 → mg_H → Prop) (R49 : Int32 → Int32 → Int32 → Int32 → mg_H → Prop) (R66 : Int32 → Int32 → Int32 → mg_H → Prop),
  (∀ (y1 : Int32) (y2 : Int32) (h : mg_H), ((((4096 ≤ y2) → Q y1 h) ∧ ((¬ 4096 ≤ y2) → R16 y1 y2 0 0 h))) → R4 y1 y2 h) →
  (∀ (y1 : Int32) (y2 : Int32) (y3 : Int32) (y4 : Int32) (h : mg_H), ((((30 < y4) → R56 y1 y2 y3 h) ∧ ((¬ 30 < y4) → (((¬ y3 = 0) → R56 y1 y2 y3 h) ∧ ((y3 = 0) → vp_in ((4096 * y4) + y2) (mg_len 40) ∧ (((((mg_i h 40 ((4096 * y4) + y2).toNatClampNeg) = (-1)) → R49 y1 y2 y4 0 h) ∧ ((¬ (mg_i h 40 ((4096 * y4) + y2).toNatClampNeg) = (-1)) → R49 y1 y2 y4 1 h)))))))) → R16 y1 y2 y3 y4 h) →
  (∀ (y1 : Int32) (y2 : Int32) (y3 : Int32) (h : mg_H), ((((y3 = 0) → R66 y2 0 y1 h) ∧ ((¬ y3 = 0) → R66 y2 1 y1 h))) → R56 y1 y2 y3 h) →
  (∀ (y1 : Int32) (y2 : Int32) (y4 : Int32) (s0 : Int32) (h : mg_H), (∀ z1 : Int32, z1 = y4 + 1 → R16 y1 y2 s0 z1 h) → R49 y1 y2 y4 s0 h) →
  (∀ (y2 : Int32) (s0 : Int32) (s1 : Int32) (h : mg_H), (∀ z2 : Int32, z2 = s1 + s0 → ∀ z3 : Int32, z3 = y2 + 1 → R4 z2 z3 h) → R66 y2 s0 s1 h) →
  (R4 0 0 h)
def wp_edge (Q : Int32 → mg_H → Prop) (x0 : Int32) (x1 : Int32) (h : mg_H) : Prop :=
  ∀ (R4 : Int32 → Int32 → mg_H → Prop) (R31 : Int32 → Int32 → mg_H → Prop) (R27 : Int32 → mg_H → Prop) (R32 : Int32 → Int32 → mg_H → Prop),
  (∀ (y2 : Int32) (y3 : Int32) (h : mg_H), ((((30 < y3) → Q y2 h) ∧ ((¬ 30 < y3) → wp_has (fun r2 h1 => (((r2 = 0) → R31 y2 y3 h1) ∧ ((¬ r2 = 0) → (((¬ x1 = 0) → R27 y3 h1) ∧ ((x1 = 0) → (((¬ y2 = (-1)) → R31 y2 y3 h1) ∧ ((y2 = (-1)) → R27 y3 h1))))))) x0 y3 h))) → R4 y2 y3 h) →
  (∀ (y2 : Int32) (y3 : Int32) (h : mg_H), (R32 y3 y2 h) → R31 y2 y3 h) →
  (∀ (y3 : Int32) (h : mg_H), (R32 y3 y3 h) → R27 y3 h) →
  (∀ (y3 : Int32) (s0 : Int32) (h : mg_H), (∀ z3 : Int32, z3 = y3 + 1 → R4 s0 z3 h) → R32 y3 s0 h) →
  (R4 (-1) 1 h)
def wp_longestRow (Q : Int32 → mg_H → Prop) (x0 : Int32) (h : mg_H) : Prop :=
  ∀ (R6 : Int32 → Int32 → Int32 → mg_H → Prop) (R27 : Int32 → Int32 → Int32 → mg_H → Prop),
  (∀ (y1 : Int32) (y2 : Int32) (y3 : Int32) (h : mg_H), ((((30 < y3) → Q y1 h) ∧ ((¬ 30 < y3) → wp_has (fun r2 h1 => (((r2 = 0) → R27 y1 y3 0 h1) ∧ ((¬ r2 = 0) → R27 y1 y3 (y2 + 1) h1))) x0 y3 h))) → R6 y1 y2 y3 h) →
  (∀ (y1 : Int32) (y3 : Int32) (s0 : Int32) (h : mg_H), (wp_greater (fun r4 h3 => ∀ z5 : Int32, z5 = y3 + 1 → R6 r4 s0 z5 h3) y1 s0 h) → R27 y1 y3 s0 h) →
  (R6 0 0 1 h)
def wp_dearest (Q : Int32 → mg_H → Prop) (h : mg_H) : Prop :=
  ∀ (R6 : Int32 → Int32 → Int32 → mg_H → Prop) (R26 : Int32 → Int32 → Int32 → mg_H → Prop),
  (∀ (y1 : Int32) (y2 : Int32) (y3 : Int32) (h : mg_H), ((((30 < y3) → Q y1 h) ∧ ((¬ 30 < y3) → wp_leastAt (fun r2 h1 => (((r2 ≤ y2) → R26 y2 y3 y1 h1) ∧ ((¬ r2 ≤ y2) → R26 y2 y3 y3 h1))) y3 h))) → R6 y1 y2 y3 h) →
  (∀ (y2 : Int32) (y3 : Int32) (s0 : Int32) (h : mg_H), (wp_leastAt (fun r4 h3 => wp_greater (fun r6 h5 => ∀ z7 : Int32, z7 = y3 + 1 → R6 s0 r6 z7 h5) y2 r4 h3) y3 h) → R26 y2 y3 s0 h) →
  (R6 (-1) (-1) 1 h)
def wp_common (Q : Int32 → mg_H → Prop) (x0 : Int32) (x1 : Int32) (h : mg_H) : Prop :=
  ∀ (R4 : Int32 → Int32 → mg_H → Prop),
  (∀ (y2 : Int32) (y3 : Int32) (h : mg_H), ((((y3 = 0) → Q y2 h) ∧ ((¬ y3 = 0) → (¬ y3 = 0) ∧ (∀ z1 : Int32, z1 = y2 - y2 / y3 * y3 → R4 y3 z1 h)))) → R4 y2 y3 h) →
  (R4 x0 x1 h)
def wp_commonSize (Q : Int32 → mg_H → Prop) (h : mg_H) : Prop :=
  ∀ (R4 : Int32 → Int32 → mg_H → Prop),
  (∀ (y1 : Int32) (y2 : Int32) (h : mg_H), (((((mg_i h 0 24) ≤ y2) → Q y1 h) ∧ ((¬ (mg_i h 0 24) ≤ y2) → vp_in y2 (mg_len 27) ∧ (wp_common (fun r2 h1 => ∀ z3 : Int32, z3 = y2 + 1 → R4 r2 z3 h1) y1 (mg_i h 27 y2.toNatClampNeg) h)))) → R4 y1 y2 h) →
  (R4 0 0 h)
def wp_sand (Q : Int32 → mg_H → Prop) (h : mg_H) : Prop :=
  ∀ (R4 : Int32 → Int32 → mg_H → Prop),
  (∀ (y1 : Int32) (y2 : Int32) (h : mg_H), (((((mg_i h 0 24) ≤ y2) → Q y1 h) ∧ ((¬ (mg_i h 0 24) ≤ y2) → vp_in y2 (mg_len 28) ∧ (∀ z1 : Int32, z1 = y1 + (mg_i h 28 y2.toNatClampNeg) → ∀ z2 : Int32, z2 = y2 + 1 → R4 z1 z2 h)))) → R4 y1 y2 h) →
  (R4 0 0 h)
def wp_even (Q : Int32 → mg_H → Prop) (h : mg_H) : Prop :=
  ∀ (R4 : Int32 → Int32 → mg_H → Prop) (R37 : Int32 → Int32 → Int32 → mg_H → Prop),
  (∀ (y1 : Int32) (y2 : Int32) (h : mg_H), (((((mg_i h 0 24) ≤ y2) → Q y1 h) ∧ ((¬ (mg_i h 0 24) ≤ y2) → vp_in y2 (mg_len 28) ∧ (vp_in y2 (mg_len 27) ∧ ((((¬ (2 * (mg_i h 28 y2.toNatClampNeg)) = (mg_i h 27 y2.toNatClampNeg)) → R37 y2 0 y1 h) ∧ (((2 * (mg_i h 28 y2.toNatClampNeg)) = (mg_i h 27 y2.toNatClampNeg)) → R37 y2 (1 <<< (y2 &&& 31)) y1 h))))))) → R4 y1 y2 h) →
  (∀ (y2 : Int32) (s0 : Int32) (s1 : Int32) (h : mg_H), (∀ z1 : Int32, z1 = s1 ||| s0 → ∀ z2 : Int32, z2 = y2 + 1 → R4 z1 z2 h) → R37 y2 s0 s1 h) →
  (R4 0 0 h)
def wp_dry (Q : Int32 → mg_H → Prop) (h : mg_H) : Prop :=
  ∀ (R4 : Int32 → Int32 → mg_H → Prop),
  (∀ (y1 : Int32) (y2 : Int32) (h : mg_H), (((((mg_i h 0 24) ≤ y2) → Q y1 h) ∧ ((¬ (mg_i h 0 24) ≤ y2) → vp_in y2 (mg_len 28) ∧ (wp_greater (fun r2 h1 => ∀ z3 : Int32, z3 = y2 + 1 → R4 r2 z3 h1) y1 (mg_i h 28 y2.toNatClampNeg) h)))) → R4 y1 y2 h) →
  (R4 0 0 h)
def wp_like (Q : Int32 → mg_H → Prop) (h : mg_H) : Prop :=
  ∀ (R4 : Int32 → Int32 → mg_H → Prop) (R14 : Int32 → Int32 → Int32 → mg_H → Prop) (R54 : Int32 → Int32 → Int32 → mg_H → Prop) (R55 : Int32 → Int32 → Int32 → Int32 → mg_H → Prop),
  (∀ (y1 : Int32) (y2 : Int32) (h : mg_H), (((((mg_i h 0 24) ≤ y2) → Q y1 h) ∧ ((¬ (mg_i h 0 24) ≤ y2) → R14 y1 y2 0 h))) → R4 y1 y2 h) →
  (∀ (y1 : Int32) (y2 : Int32) (y3 : Int32) (h : mg_H), ((((y2 ≤ y3) → ∀ z1 : Int32, z1 = y2 + 1 → R4 y1 z1 h) ∧ ((¬ y2 ≤ y3) → vp_in y2 (mg_len 27) ∧ (vp_in y3 (mg_len 27) ∧ ((((¬ (mg_i h 27 y2.toNatClampNeg) = (mg_i h 27 y3.toNatClampNeg)) → R54 y2 y3 y1 h) ∧ (((mg_i h 27 y2.toNatClampNeg) = (mg_i h 27 y3.toNatClampNeg)) → vp_in y2 (mg_len 28) ∧ (vp_in y3 (mg_len 28) ∧ ((((¬ (mg_i h 28 y2.toNatClampNeg) = (mg_i h 28 y3.toNatClampNeg)) → R54 y2 y3 y1 h) ∧ (((mg_i h 28 y2.toNatClampNeg) = (mg_i h 28 y3.toNatClampNeg)) → R55 y2 y3 1 y1 h))))))))))) → R14 y1 y2 y3 h) →
  (∀ (y2 : Int32) (y3 : Int32) (s0 : Int32) (h : mg_H), (R55 y2 y3 0 s0 h) → R54 y2 y3 s0 h) →
  (∀ (y2 : Int32) (y3 : Int32) (s0 : Int32) (s1 : Int32) (h : mg_H), (∀ z2 : Int32, z2 = s1 + s0 → ∀ z3 : Int32, z3 = y3 + 1 → R14 z2 y2 z3 h) → R55 y2 y3 s0 s1 h) →
  (R4 0 0 h)
def wp_still (Q : Int32 → mg_H → Prop) (h : mg_H) : Prop :=
  ∀ (R4 : Int32 → Int32 → mg_H → Prop) (R12 : Int32 → Int32 → Int32 → mg_H → Prop) (R51 : Int32 → Int32 → mg_H → Prop),
  (∀ (y1 : Int32) (y2 : Int32) (h : mg_H), ((((126976 ≤ y2) → Q y1 h) ∧ ((¬ 126976 ≤ y2) → R12 y1 y2 0 h))) → R4 y1 y2 h) →
  (∀ (y1 : Int32) (y2 : Int32) (y3 : Int32) (h : mg_H), (((((mg_i h 0 25) < y3) → R51 y1 y2 h) ∧ ((¬ (mg_i h 0 25) < y3) → vp_in y2 (mg_len 40) ∧ (((((mg_i h 40 y2.toNatClampNeg) = (-1)) → R51 y1 y2 h) ∧ ((¬ (mg_i h 40 y2.toNatClampNeg) = (-1)) → wp_next (fun r2 h1 => wp_greater (fun r4 h3 => ∀ z5 : Int32, z5 = y3 + 1 → R12 r4 y2 z5 h3) y1 r2 h1) (y2 - y2 / 4096 * 4096) y3 h)))))) → R12 y1 y2 y3 h) →
  (∀ (y1 : Int32) (y2 : Int32) (h : mg_H), (∀ z6 : Int32, z6 = y2 + 1 → R4 y1 z6 h) → R51 y1 y2 h) →
  (R4 0 0 h)
def wp_laidOut (Q : Int32 → mg_H → Prop) (x1 : Int32) (h : mg_H) : Prop :=
  ∀ (R63 : Int32 → mg_H → Prop) (R74 : Int32 → Int32 → mg_H → Prop),
  (∀ (y2 : Int32) (h : mg_H), ((((¬ x1 = 3) → R74 0 y2 h) ∧ ((x1 = 3) → R74 1 y2 h))) → R63 y2 h) →
  (∀ (s0 : Int32) (s1 : Int32) (h : mg_H), (wp_edge (fun r20 h19 => Q r20 h19) s1 s0 h) → R74 s0 s1 h) →
  (wp_bitsOf (fun r2 h1 => ((x1 = 0 → Q r2 h1) ∧ (x1 = 1 → wp_reachedTops (fun r4 h3 => Q r4 h3) h1) ∧ (x1 = 2 → R63 r2 h1) ∧ (x1 = 3 → R63 r2 h1) ∧ (x1 = 4 → wp_edge (fun r6 h5 => Q r6 h5) (r2 ^^^ (-1)) 0 h1) ∧ (x1 = 5 → wp_longestRow (fun r8 h7 => Q r8 h7) r2 h1) ∧ (x1 = 6 → wp_dearest (fun r10 h9 => Q r10 h9) h1) ∧ (x1 = 7 → wp_dearest (fun r12 h11 => (((¬ r12 = (-1)) → wp_dearest (fun r14 h13 => wp_leastAt (fun r16 h15 => Q r16 h15) r14 h13) h11) ∧ ((r12 = (-1)) → Q 0 h11))) h1) ∧ ((¬ x1 = 0) → (¬ x1 = 1) → (¬ x1 = 2) → (¬ x1 = 3) → (¬ x1 = 4) → (¬ x1 = 5) → (¬ x1 = 6) → (¬ x1 = 7) → wp_bitsOf (fun r18 h17 => Q r18 h17) 0 h1))) 1000000 h)
def wp_times (Q : Int32 → mg_H → Prop) (x1 : Int32) (x2 : Int32) (h : mg_H) : Prop :=
  ∀ h1 : mg_H, h1 = mg_ui h 0 0 0 → wp_hand (fun r3 h2 => (((¬ r3 = 0) → wp_in (fun r5 h4 => (((r5 = 0) → wp_in (fun r7 h6 => (((r7 = 0) → ((x2 = 9 → wp_commonSize (fun r9 h8 => Q r9 h8) h6) ∧ (x2 = 10 → wp_sand (fun r11 h10 => Q r11 h10) h6) ∧ (x2 = 11 → wp_even (fun r13 h12 => Q r13 h12) h6) ∧ (x2 = 12 → wp_dry (fun r15 h14 => Q r15 h14) h6) ∧ (x2 = 13 → wp_like (fun r17 h16 => Q r17 h16) h6) ∧ (x2 = 14 → wp_layOut (fun h18 => wp_still (fun r20 h19 => Q r20 h19) h18) 0 h6) ∧ ((¬ x2 = 9) → (¬ x2 = 10) → (¬ x2 = 11) → (¬ x2 = 12) → (¬ x2 = 13) → (¬ x2 = 14) → Q (-2) h6))) ∧ ((¬ r7 = 0) → wp_layOut (fun h21 => wp_laidOut (fun r23 h22 => Q r23 h22) x2 h21) 0 h6))) x2 0 8 h4) ∧ ((¬ r5 = 0) → wp_isGlass (fun r25 h24 => (((r25 = 0) → Q (-2) h24) ∧ ((¬ r25 = 0) → wp_timesOf (fun r27 h26 => Q r27 h26) (1 <<< ((x2 - 20) &&& 31)) h24))) (x2 - 20) h4))) x2 20 23 h2) ∧ ((r3 = 0) → Q (-2) h2))) x1 h1
def wp_couples (Q : Int32 → mg_H → Prop) (x1 : Int32) (x2 : Int32) (h : mg_H) : Prop :=
  ∀ (R30 : Int32 → Int32 → mg_H → Prop) (R42 : Int32 → Int32 → Int32 → mg_H → Prop) (R75 : Int32 → Int32 → Int32 → Int32 → mg_H → Prop),
  (∀ (y3 : Int32) (y4 : Int32) (h : mg_H), (((((mg_i h 0 24) ≤ y4) → Q y3 h) ∧ ((¬ (mg_i h 0 24) ≤ y4) → R42 y3 y4 0 h))) → R30 y3 y4 h) →
  (∀ (y3 : Int32) (y4 : Int32) (y5 : Int32) (h : mg_H), ((((y4 ≤ y5) → ∀ z6 : Int32, z6 = y4 + 1 → R30 y3 z6 h) ∧ ((¬ y4 ≤ y5) → wp_timesOf (fun r8 h7 => wp_has (fun r10 h9 => (((r10 = 0) → R75 y4 y5 0 y3 h9) ∧ ((¬ r10 = 0) → R75 y4 y5 1 y3 h9))) r8 x2 h7) ((1 <<< (y4 &&& 31)) ||| (1 <<< (y5 &&& 31))) h))) → R42 y3 y4 y5 h) →
  (∀ (y4 : Int32) (y5 : Int32) (s0 : Int32) (s1 : Int32) (h : mg_H), (∀ z11 : Int32, z11 = s1 + s0 → ∀ z12 : Int32, z12 = y5 + 1 → R42 z11 y4 z12 h) → R75 y4 y5 s0 s1 h) →
  (∀ h1 : mg_H, h1 = mg_ui h 0 0 0 → wp_in (fun r3 h2 => (((r3 = 0) → Q (-1) h2) ∧ ((¬ r3 = 0) → wp_hand (fun r5 h4 => (((¬ r5 = 0) → R30 0 0 h4) ∧ ((r5 = 0) → Q (-1) h4))) x1 h2))) x2 1 30 h1)
def wp_crowd (Q : Int32 → mg_H → Prop) (x1 : Int32) (x2 : Int32) (h : mg_H) : Prop :=
  ∀ (R35 : Int32 → Int32 → mg_H → Prop) (R66 : Int32 → Int32 → Int32 → mg_H → Prop),
  (∀ (y3 : Int32) (y4 : Int32) (h : mg_H), ((((4096 ≤ y4) → Q y3 h) ∧ ((¬ 4096 ≤ y4) → vp_in ((4096 * x2) + y4) (mg_len 40) ∧ (((((mg_i h 40 ((4096 * x2) + y4).toNatClampNeg) = (-1)) → R66 y4 0 y3 h) ∧ ((¬ (mg_i h 40 ((4096 * x2) + y4).toNatClampNeg) = (-1)) → R66 y4 1 y3 h)))))) → R35 y3 y4 h) →
  (∀ (y4 : Int32) (s0 : Int32) (s1 : Int32) (h : mg_H), (∀ z7 : Int32, z7 = s1 + s0 → ∀ z8 : Int32, z8 = y4 + 1 → R35 z7 z8 h) → R66 y4 s0 s1 h) →
  (∀ h1 : mg_H, h1 = mg_ui h 0 0 0 → wp_in (fun r3 h2 => (((r3 = 0) → Q (-1) h2) ∧ ((¬ r3 = 0) → wp_hand (fun r5 h4 => (((¬ r5 = 0) → wp_layOut (fun h6 => R35 0 0 h6) 0 h4) ∧ ((r5 = 0) → Q (-1) h4))) x1 h2))) x2 0 30 h1)
def wp_same (Q : Int32 → mg_H → Prop) (x1 : Int32) (x2 : Int32) (h : mg_H) : Prop :=
  ∀ (R33 : Int32 → Int32 → mg_H → Prop),
  (∀ (y3 : Int32) (y4 : Int32) (h : mg_H), ((((x2 ≤ y3) → (((¬ y3 = x2) → Q 0 h) ∧ ((y3 = x2) → Q 1 h))) ∧ ((¬ x2 ≤ y3) → wp_next (fun r8 h7 => (((¬ r8 = 0) → ∀ z9 : Int32, z9 = y3 + r8 → ∀ z10 : Int32, z10 = mg_i h7 0 39 → R33 z9 z10 h7) ∧ ((r8 = 0) → Q 0 h7))) y4 (mg_i h 0 25) h))) → R33 y3 y4 h) →
  (∀ h1 : mg_H, h1 = mg_ui h 0 0 0 → wp_in (fun r3 h2 => (((r3 = 0) → Q (-1) h2) ∧ ((¬ r3 = 0) → wp_hand (fun r5 h4 => (((¬ r5 = 0) → ∀ z6 : Int32, z6 = mg_i h4 0 26 → R33 0 z6 h4) ∧ ((r5 = 0) → Q (-1) h4))) x1 h2))) x2 1 30 h1)
def wp_early (Q : Int32 → mg_H → Prop) (x1 : Int32) (x2 : Int32) (x3 : Int32) (h : mg_H) : Prop :=
  ∀ (R28 : Int32 → mg_H → Prop) (R62 : Int32 → mg_H → Prop) (R178 : Int32 → Int32 → mg_H → Prop) (R73 : Int32 → Int32 → mg_H → Prop) (R218 : Int32 → Int32 → mg_H → Prop) (R209 : Int32 → mg_H → Prop) (R166 : Int32 → mg_H → Prop) (R160 : Int32 → Int32 → mg_H → Prop) (R220 : Int32 → Int32 → mg_H → Prop),
  (∀ (y4 : Int32) (h : mg_H), ((((126976 ≤ y4) → vp_in (mg_i h 0 26) (mg_len 44) ∧ (∀ h6 : mg_H, h6 = mg_ui h 44 (mg_i h 0 26).toNatClampNeg 1 → R62 0 h6)) ∧ ((¬ 126976 ≤ y4) → vp_in y4 (mg_len 44) ∧ (∀ h7 : mg_H, h7 = mg_ui h 44 y4.toNatClampNeg 0 → ∀ z8 : Int32, z8 = y4 + 1 → R28 z8 h7)))) → R28 y4 h) →
  (∀ (y4 : Int32) (h : mg_H), ((((122880 ≤ y4) → R178 (-1) 0 h) ∧ ((¬ 122880 ≤ y4) → R73 y4 0 h))) → R62 y4 h) →
  (∀ (y4 : Int32) (y5 : Int32) (h : mg_H), ((((126976 ≤ y5) → Q y4 h) ∧ ((¬ 126976 ≤ y5) → vp_in y5 (mg_len 44) ∧ (wp_has (fun r10 h9 => (((r10 = 0) → R218 y4 y5 h9) ∧ ((¬ r10 = 0) → (((¬ x3 = 0) → R209 y5 h9) ∧ ((x3 = 0) → (((¬ y4 = (-1)) → R218 y4 y5 h9) ∧ ((y4 = (-1)) → R209 y5 h9))))))) (mg_i h 44 y5.toNatClampNeg) x2 h)))) → R178 y4 y5 h) →
  (∀ (y4 : Int32) (y5 : Int32) (h : mg_H), (((((mg_i h 0 25) < y5) → R166 y4 h) ∧ ((¬ (mg_i h 0 25) < y5) → vp_in y4 (mg_len 44) ∧ (((((mg_i h 44 y4.toNatClampNeg) = 0) → R166 y4 h) ∧ ((¬ (mg_i h 44 y4.toNatClampNeg) = 0) → wp_next (fun r12 h11 => (((r12 ≤ 0) → R160 y4 y5 h11) ∧ ((¬ r12 ≤ 0) → (((30 < ((y4 / 4096) + r12)) → R160 y4 y5 h11) ∧ ((¬ 30 < ((y4 / 4096) + r12)) → vp_in ((4096 * ((y4 / 4096) + r12)) + (mg_i h11 0 39)) (mg_len 44) ∧ (vp_in y4 (mg_len 44) ∧ (vp_in ((4096 * ((y4 / 4096) + r12)) + (mg_i h11 0 39)) (mg_len 44) ∧ (∀ h13 : mg_H, h13 = mg_ui h11 44 ((4096 * ((y4 / 4096) + r12)) + (mg_i h11 0 39)).toNatClampNeg ((mg_i h11 44 ((4096 * ((y4 / 4096) + r12)) + (mg_i h11 0 39)).toNatClampNeg) ||| ((mg_i h11 44 y4.toNatClampNeg) <<< (1 &&& 31))) → R160 y4 y5 h13)))))))) (y4 - y4 / 4096 * 4096) y5 h)))))) → R73 y4 y5 h) →
  (∀ (y4 : Int32) (y5 : Int32) (h : mg_H), (R220 y5 y4 h) → R218 y4 y5 h) →
  (∀ (y5 : Int32) (h : mg_H), (R220 y5 (y5 / 4096) h) → R209 y5 h) →
  (∀ (y4 : Int32) (h : mg_H), (∀ z14 : Int32, z14 = y4 + 1 → R62 z14 h) → R166 y4 h) →
  (∀ (y4 : Int32) (y5 : Int32) (h : mg_H), (∀ z15 : Int32, z15 = y5 + 1 → R73 y4 z15 h) → R160 y4 y5 h) →
  (∀ (y5 : Int32) (s0 : Int32) (h : mg_H), (∀ z16 : Int32, z16 = y5 + 1 → R178 s0 z16 h) → R220 y5 s0 h) →
  (∀ h1 : mg_H, h1 = mg_ui h 0 0 0 → wp_in (fun r3 h2 => (((r3 = 0) → Q (-1) h2) ∧ ((¬ r3 = 0) → wp_hand (fun r5 h4 => (((¬ r5 = 0) → R28 0 h4) ∧ ((r5 = 0) → Q (-1) h4))) x1 h2))) x2 0 20 h1)
def wp_after (Q : Int32 → mg_H → Prop) (x1 : Int32) (x2 : Int32) (x3 : Int32) (h : mg_H) : Prop :=
  ∀ (R41 : Int32 → Int32 → mg_H → Prop) (R74 : Int32 → Int32 → Int32 → Int32 → mg_H → Prop) (R84 : Int32 → Int32 → mg_H → Prop),
  (∀ (y4 : Int32) (y5 : Int32) (h : mg_H), (((((mg_i h 0 24) ≤ y5) → ((x3 = 0 → Q (mg_i h 0 32) h) ∧ (x3 = 1 → Q (mg_i h 0 34) h) ∧ (x3 = 2 → Q (mg_i h 0 35) h) ∧ (x3 = 3 → Q (mg_i h 0 36) h) ∧ (x3 = 4 → Q (mg_i h 0 33) h) ∧ ((¬ x3 = 0) → (¬ x3 = 1) → (¬ x3 = 2) → (¬ x3 = 3) → (¬ x3 = 4) → Q y4 h))) ∧ ((¬ (mg_i h 0 24) ≤ y5) → vp_in y5 (mg_len 37) ∧ ((((¬ y4 = (-1)) → vp_in y4 (mg_len 37) ∧ (R74 y4 y5 (mg_i h 37 y4.toNatClampNeg) (mg_i h 37 y5.toNatClampNeg) h)) ∧ ((y4 = (-1)) → R74 y4 y5 0 (mg_i h 37 y5.toNatClampNeg) h)))))) → R41 y4 y5 h) →
  (∀ (y4 : Int32) (y5 : Int32) (s0 : Int32) (s1 : Int32) (h : mg_H), ((((s1 ≤ s0) → R84 y5 y4 h) ∧ ((¬ s1 ≤ s0) → R84 y5 y5 h))) → R74 y4 y5 s0 s1 h) →
  (∀ (y5 : Int32) (s0 : Int32) (h : mg_H), (∀ z10 : Int32, z10 = y5 + 1 → R41 s0 z10 h) → R84 y5 s0 h) →
  (∀ h1 : mg_H, h1 = mg_ui h 0 0 0 → wp_layAll (fun r3 h2 => (((r3 = 0) → Q (-2) h2) ∧ ((¬ r3 = 0) → wp_in (fun r5 h4 => (((¬ r5 = 0) → wp_deeds (fun r7 h6 => wp_play (fun r9 h8 => R41 (-1) 0 h8) r7 h6) h4) ∧ ((r5 = 0) → Q (-2) h4))) x3 0 5 h2))) x1 x2 h1)
def wp_count (Q : Int32 → mg_H → Prop) (x1 : Int32) (h : mg_H) : Prop :=
  ∀ h1 : mg_H, h1 = mg_ui h 0 0 0 → wp_in (fun r3 h2 => (((r3 = 0) → Q (-2) h2) ∧ ((¬ r3 = 0) → vp_in x1 (mg_len 5) ∧ (Q (mg_i h2 5 x1.toNatClampNeg) h2)))) x1 0 3 h1
def wp_image (Q : Int32 → mg_H → Prop) (x1 : Int32) (h : mg_H) : Prop :=
  ∀ h1 : mg_H, h1 = mg_ui h 0 0 0 → wp_in (fun r3 h2 => (((¬ r3 = 0) → wp_copyAll (fun h4 => vp_in x1 (mg_len 60) ∧ (∀ h5 : mg_H, h5 = mg_ui h4 60 x1.toNatClampNeg (vp_nar .boolean 1) → Q 1 h5)) 0 (x1 + 1) h2) ∧ ((r3 = 0) → Q 0 h2))) x1 0 2 h1
def wp_again (Q : Int32 → mg_H → Prop) (x1 : Int32) (h : mg_H) : Prop :=
  ∀ h1 : mg_H, h1 = mg_ui h 0 0 0 → wp_in (fun r3 h2 => (((r3 = 0) → Q 0 h2) ∧ ((¬ r3 = 0) → vp_in x1 (mg_len 60) ∧ ((((¬ (mg_i h2 60 x1.toNatClampNeg) = 0) → wp_copyAll (fun h4 => Q 1 h4) (x1 + 1) 0 h2) ∧ (((mg_i h2 60 x1.toNatClampNeg) = 0) → Q 0 h2)))))) x1 0 2 h1
