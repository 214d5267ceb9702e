/-! the law's loop, read: a round of it for each of its calls; R: what holds at its head -/
def wp_law_0 (X : lg_X) (a : Nat) (R : Int32 → Nat → Nat → xg_Y → xg_H → mg_H → Prop) (y3 : Int32) (k n : Nat) (Y : xg_Y) (h : xg_H) (g : mg_H) : Prop :=
  vp_in (y3 + 1) (lg_L X) ∧ (vp_in (y3 + 2) (lg_L X) ∧ (vp_in (y3 + 3) (lg_L X) ∧ (vp_in (y3 + 4) (lg_L X) ∧ (vp_in (y3 + 5) (lg_L X) ∧ (xg_is Y a 11 ∧ (k ≤ 600000 ∧ n ≤ 7302250) ∧ wp_X11_feed Y (fun r1 h2 => vp_in (y3 + 1) (lg_L X) ∧ (vp_in (y3 + 2) (lg_L X) ∧ (vp_in (y3 + 3) (lg_L X) ∧ (vp_in (y3 + 4) (lg_L X) ∧ (vp_in (y3 + 5) (lg_L X) ∧ ((k ≤ 600000 ∧ n ≤ 7302250) ∧ wp_feed (fun r3 g4 => (((r1 = r3) → ∀ z5 : Int32, z5 = y3 + 6 → R z5 k n Y h2 g4) ∧ ((¬ r1 = r3) → False))) (lg_xs X (y3 + 1).toNatClampNeg) (lg_xs X (y3 + 2).toNatClampNeg) (lg_xs X (y3 + 3).toNatClampNeg) (lg_xs X (y3 + 4).toNatClampNeg) (lg_xs X (y3 + 5).toNatClampNeg) g)))))) a (lg_xs X (y3 + 1).toNatClampNeg) (lg_xs X (y3 + 2).toNatClampNeg) (lg_xs X (y3 + 3).toNatClampNeg) (lg_xs X (y3 + 4).toNatClampNeg) (lg_xs X (y3 + 5).toNatClampNeg) h)))))
set_option maxHeartbeats 4000000 in
set_option maxRecDepth 100000 in
theorem met_law_0 (X : lg_X) (C : lg_ok X) (a a2 : Nat) (y3 : Int32) (k n : Nat) (Y : xg_Y) (h : xg_H) (g : mg_H) (hF : wp_law_0 X a (fun (y3 : Int32) (k n : Nat) (Y : xg_Y) (h : xg_H) (g : mg_H) => lg_W X a2 k n 18 [(0, .ref (lg_b X)), (1, .ref a), (2, .ref a2), (3, .int y3)] [] (Y, h, g)) y3 k n Y h g) : lg_W X a2 k n 172 [(0, .ref (lg_b X)), (1, .ref a), (2, .ref a2), (3, .int y3)] [] (Y, h, g) := by
  unfold wp_law_0 at hF
  refine lg_aload_n (pc := 172) C dL_law_172 1 rfl ?_
  refine lg_aload_n (pc := 173) C dL_law_173 0 rfl ?_
  refine lg_iload_n (pc := 174) C dL_law_174 3 rfl ?_
  refine lg_iconst (pc := 175) (v := 1) C dL_law_175 (by decide) ?_
  refine lg_iadd (pc := 176) C dL_law_176 ?_
  obtain ⟨hi, hF⟩ := hF
  refine lg_sld (pc := 177) C hi dL_law_177 ?_
  refine lg_aload_n (pc := 178) C dL_law_178 0 rfl ?_
  refine lg_iload_n (pc := 179) C dL_law_179 3 rfl ?_
  refine lg_iconst (pc := 180) (v := 2) C dL_law_180 (by decide) ?_
  refine lg_iadd (pc := 181) C dL_law_181 ?_
  obtain ⟨hi, hF⟩ := hF
  refine lg_sld (pc := 182) C hi dL_law_182 ?_
  refine lg_aload_n (pc := 183) C dL_law_183 0 rfl ?_
  refine lg_iload_n (pc := 184) C dL_law_184 3 rfl ?_
  refine lg_iconst (pc := 185) (v := 3) C dL_law_185 (by decide) ?_
  refine lg_iadd (pc := 186) C dL_law_186 ?_
  obtain ⟨hi, hF⟩ := hF
  refine lg_sld (pc := 187) C hi dL_law_187 ?_
  refine lg_aload_n (pc := 188) C dL_law_188 0 rfl ?_
  refine lg_iload_n (pc := 189) C dL_law_189 3 rfl ?_
  refine lg_iconst (pc := 190) (v := 4) C dL_law_190 (by decide) ?_
  refine lg_iadd (pc := 191) C dL_law_191 ?_
  obtain ⟨hi, hF⟩ := hF
  refine lg_sld (pc := 192) C hi dL_law_192 ?_
  refine lg_aload_n (pc := 193) C dL_law_193 0 rfl ?_
  refine lg_iload_n (pc := 194) C dL_law_194 3 rfl ?_
  refine lg_iconst (pc := 195) (v := 5) C dL_law_195 (by decide) ?_
  refine lg_iadd (pc := 196) C dL_law_196 ?_
  obtain ⟨hi, hF⟩ := hF
  refine lg_sld (pc := 197) C hi dL_law_197 ?_
  obtain ⟨hk, hfit, hF⟩ := hF
  refine lg_xfI (pc := 198) C [.int (lg_xs X (y3 + 1).toNatClampNeg), .int (lg_xs X (y3 + 2).toNatClampNeg), .int (lg_xs X (y3 + 3).toNatClampNeg), .int (lg_xs X (y3 + 4).toNatClampNeg), .int (lg_xs X (y3 + 5).toNatClampNeg)] hk (met_X11_feed Y a (lg_xs X (y3 + 1).toNatClampNeg) (lg_xs X (y3 + 2).toNatClampNeg) (lg_xs X (y3 + 3).toNatClampNeg) (lg_xs X (y3 + 4).toNatClampNeg) (lg_xs X (y3 + 5).toNatClampNeg) ) gL_law_X11_feed rfl ⟨rfl, rfl⟩ nd_X11_feed ⟨Nat.le_of_ble_eq_true rfl, Nat.le_of_ble_eq_true rfl⟩ rfl rfl (Nat.le_of_ble_eq_true rfl) hfit dL_law_198 hF (fun r1 h2 hF => ?_)
  refine lg_aload_n (pc := 201) C dL_law_201 2 rfl ?_
  refine lg_aload_n (pc := 202) C dL_law_202 0 rfl ?_
  refine lg_iload_n (pc := 203) C dL_law_203 3 rfl ?_
  refine lg_iconst (pc := 204) (v := 1) C dL_law_204 (by decide) ?_
  refine lg_iadd (pc := 205) C dL_law_205 ?_
  obtain ⟨hi, hF⟩ := hF
  refine lg_sld (pc := 206) C hi dL_law_206 ?_
  refine lg_aload_n (pc := 207) C dL_law_207 0 rfl ?_
  refine lg_iload_n (pc := 208) C dL_law_208 3 rfl ?_
  refine lg_iconst (pc := 209) (v := 2) C dL_law_209 (by decide) ?_
  refine lg_iadd (pc := 210) C dL_law_210 ?_
  obtain ⟨hi, hF⟩ := hF
  refine lg_sld (pc := 211) C hi dL_law_211 ?_
  refine lg_aload_n (pc := 212) C dL_law_212 0 rfl ?_
  refine lg_iload_n (pc := 213) C dL_law_213 3 rfl ?_
  refine lg_iconst (pc := 214) (v := 3) C dL_law_214 (by decide) ?_
  refine lg_iadd (pc := 215) C dL_law_215 ?_
  obtain ⟨hi, hF⟩ := hF
  refine lg_sld (pc := 216) C hi dL_law_216 ?_
  refine lg_aload_n (pc := 217) C dL_law_217 0 rfl ?_
  refine lg_iload_n (pc := 218) C dL_law_218 3 rfl ?_
  refine lg_iconst (pc := 219) (v := 4) C dL_law_219 (by decide) ?_
  refine lg_iadd (pc := 220) C dL_law_220 ?_
  obtain ⟨hi, hF⟩ := hF
  refine lg_sld (pc := 221) C hi dL_law_221 ?_
  refine lg_aload_n (pc := 222) C dL_law_222 0 rfl ?_
  refine lg_iload_n (pc := 223) C dL_law_223 3 rfl ?_
  refine lg_iconst (pc := 224) (v := 5) C dL_law_224 (by decide) ?_
  refine lg_iadd (pc := 225) C dL_law_225 ?_
  obtain ⟨hi, hF⟩ := hF
  refine lg_sld (pc := 226) C hi dL_law_226 ?_
  obtain ⟨hfit, hF⟩ := hF
  refine lg_mI (pc := 227) C [.int (lg_xs X (y3 + 1).toNatClampNeg), .int (lg_xs X (y3 + 2).toNatClampNeg), .int (lg_xs X (y3 + 3).toNatClampNeg), .int (lg_xs X (y3 + 4).toNatClampNeg), .int (lg_xs X (y3 + 5).toNatClampNeg)] (met_feed (lg_xs X (y3 + 1).toNatClampNeg) (lg_xs X (y3 + 2).toNatClampNeg) (lg_xs X (y3 + 3).toNatClampNeg) (lg_xs X (y3 + 4).toNatClampNeg) (lg_xs X (y3 + 5).toNatClampNeg) ) gL_law_X12_feed rfl ⟨rfl, rfl⟩ nd_feed ⟨Nat.le_of_ble_eq_true rfl, Nat.le_of_ble_eq_true rfl⟩ rfl rfl (Nat.le_of_ble_eq_true rfl) hfit dL_law_227 hF (fun r3 g4 hF => ?_)
  refine lg_icmp_eq (pc := 230) 1426 C dL_law_230 (by decide) (fun hc => ?_) (fun hc => ?_)
  · have hF := hF.1 hc
    obtain ⟨z5, ez5⟩ : ∃ y : Int32, y = y3 + 6 := ⟨_, rfl⟩
    have hF := hF z5 ez5
    refine lg_iinc (pc := 1426) (v := z5) (lv2 := [(3, .int z5), (0, .ref (lg_b X)), (1, .ref a), (2, .ref a2)]) C dL_law_1426 3 rfl (by rw [ez5]; rfl) (by decide) rfl ?_
    refine lg_sub (lv2 := [(0, .ref (lg_b X)), (1, .ref a), (2, .ref a2), (3, .int z5)]) [1, 2, 3, 0] rfl ?_
    refine lg_goto (pc := 1429) 18 C dL_law_1429 (by decide) ?_
    exact hF
  · have hF := hF.2 hc
    exact hF.elim
def wp_law_1 (X : lg_X) (a : Nat) (R : Int32 → Nat → Nat → xg_Y → xg_H → mg_H → Prop) (y3 : Int32) (k n : Nat) (Y : xg_Y) (h : xg_H) (g : mg_H) : Prop :=
  vp_in (y3 + 1) (lg_L X) ∧ (xg_is Y a 11 ∧ (k ≤ 600000 ∧ n ≤ 7302250) ∧ wp_X11_end Y (fun r1 h2 => vp_in (y3 + 1) (lg_L X) ∧ ((k ≤ 600000 ∧ n ≤ 7302250) ∧ wp_end (fun r3 g4 => (((r1 = r3) → ∀ z5 : Int32, z5 = y3 + 6 → R z5 k n Y h2 g4) ∧ ((¬ r1 = r3) → False))) (lg_xs X (y3 + 1).toNatClampNeg) g)) a (lg_xs X (y3 + 1).toNatClampNeg) h)
set_option maxHeartbeats 4000000 in
set_option maxRecDepth 100000 in
theorem met_law_1 (X : lg_X) (C : lg_ok X) (a a2 : Nat) (y3 : Int32) (k n : Nat) (Y : xg_Y) (h : xg_H) (g : mg_H) (hF : wp_law_1 X a (fun (y3 : Int32) (k n : Nat) (Y : xg_Y) (h : xg_H) (g : mg_H) => lg_W X a2 k n 18 [(0, .ref (lg_b X)), (1, .ref a), (2, .ref a2), (3, .int y3)] [] (Y, h, g)) y3 k n Y h g) : lg_W X a2 k n 235 [(0, .ref (lg_b X)), (1, .ref a), (2, .ref a2), (3, .int y3)] [] (Y, h, g) := by
  unfold wp_law_1 at hF
  refine lg_aload_n (pc := 235) C dL_law_235 1 rfl ?_
  refine lg_aload_n (pc := 236) C dL_law_236 0 rfl ?_
  refine lg_iload_n (pc := 237) C dL_law_237 3 rfl ?_
  refine lg_iconst (pc := 238) (v := 1) C dL_law_238 (by decide) ?_
  refine lg_iadd (pc := 239) C dL_law_239 ?_
  obtain ⟨hi, hF⟩ := hF
  refine lg_sld (pc := 240) C hi dL_law_240 ?_
  obtain ⟨hk, hfit, hF⟩ := hF
  refine lg_xfI (pc := 241) C [.int (lg_xs X (y3 + 1).toNatClampNeg)] hk (met_X11_end Y a (lg_xs X (y3 + 1).toNatClampNeg) ) gL_law_X11_end rfl ⟨rfl, rfl⟩ nd_X11_end ⟨Nat.le_of_ble_eq_true rfl, Nat.le_of_ble_eq_true rfl⟩ rfl rfl (Nat.le_of_ble_eq_true rfl) hfit dL_law_241 hF (fun r1 h2 hF => ?_)
  refine lg_aload_n (pc := 244) C dL_law_244 2 rfl ?_
  refine lg_aload_n (pc := 245) C dL_law_245 0 rfl ?_
  refine lg_iload_n (pc := 246) C dL_law_246 3 rfl ?_
  refine lg_iconst (pc := 247) (v := 1) C dL_law_247 (by decide) ?_
  refine lg_iadd (pc := 248) C dL_law_248 ?_
  obtain ⟨hi, hF⟩ := hF
  refine lg_sld (pc := 249) C hi dL_law_249 ?_
  obtain ⟨hfit, hF⟩ := hF
  refine lg_mI (pc := 250) C [.int (lg_xs X (y3 + 1).toNatClampNeg)] (met_end (lg_xs X (y3 + 1).toNatClampNeg) ) gL_law_X12_end rfl ⟨rfl, rfl⟩ nd_end ⟨Nat.le_of_ble_eq_true rfl, Nat.le_of_ble_eq_true rfl⟩ rfl rfl (Nat.le_of_ble_eq_true rfl) hfit dL_law_250 hF (fun r3 g4 hF => ?_)
  refine lg_icmp_eq (pc := 253) 1426 C dL_law_253 (by decide) (fun hc => ?_) (fun hc => ?_)
  · have hF := hF.1 hc
    obtain ⟨z5, ez5⟩ : ∃ y : Int32, y = y3 + 6 := ⟨_, rfl⟩
    have hF := hF z5 ez5
    refine lg_iinc (pc := 1426) (v := z5) (lv2 := [(3, .int z5), (0, .ref (lg_b X)), (1, .ref a), (2, .ref a2)]) C dL_law_1426 3 rfl (by rw [ez5]; rfl) (by decide) rfl ?_
    refine lg_sub (lv2 := [(0, .ref (lg_b X)), (1, .ref a), (2, .ref a2), (3, .int z5)]) [1, 2, 3, 0] rfl ?_
    refine lg_goto (pc := 1429) 18 C dL_law_1429 (by decide) ?_
    exact hF
  · have hF := hF.2 hc
    exact hF.elim
def wp_law_2 (X : lg_X) (a : Nat) (R : Int32 → Nat → Nat → xg_Y → xg_H → mg_H → Prop) (y3 : Int32) (k n : Nat) (Y : xg_Y) (h : xg_H) (g : mg_H) : Prop :=
  vp_in (y3 + 1) (lg_L X) ∧ (vp_in (y3 + 2) (lg_L X) ∧ (xg_is Y a 11 ∧ (k ≤ 600000 ∧ n ≤ 7302250) ∧ wp_X11_text Y (fun r1 h2 => vp_in (y3 + 1) (lg_L X) ∧ (vp_in (y3 + 2) (lg_L X) ∧ ((k ≤ 600000 ∧ n ≤ 7302250) ∧ wp_text (fun r3 g4 => (((r1 = r3) → ∀ z5 : Int32, z5 = y3 + 6 → R z5 k n Y h2 g4) ∧ ((¬ r1 = r3) → False))) (lg_xs X (y3 + 1).toNatClampNeg) (lg_xs X (y3 + 2).toNatClampNeg) g))) a (lg_xs X (y3 + 1).toNatClampNeg) (lg_xs X (y3 + 2).toNatClampNeg) h))
set_option maxHeartbeats 4000000 in
set_option maxRecDepth 100000 in
theorem met_law_2 (X : lg_X) (C : lg_ok X) (a a2 : Nat) (y3 : Int32) (k n : Nat) (Y : xg_Y) (h : xg_H) (g : mg_H) (hF : wp_law_2 X a (fun (y3 : Int32) (k n : Nat) (Y : xg_Y) (h : xg_H) (g : mg_H) => lg_W X a2 k n 18 [(0, .ref (lg_b X)), (1, .ref a), (2, .ref a2), (3, .int y3)] [] (Y, h, g)) y3 k n Y h g) : lg_W X a2 k n 258 [(0, .ref (lg_b X)), (1, .ref a), (2, .ref a2), (3, .int y3)] [] (Y, h, g) := by
  unfold wp_law_2 at hF
  refine lg_aload_n (pc := 258) C dL_law_258 1 rfl ?_
  refine lg_aload_n (pc := 259) C dL_law_259 0 rfl ?_
  refine lg_iload_n (pc := 260) C dL_law_260 3 rfl ?_
  refine lg_iconst (pc := 261) (v := 1) C dL_law_261 (by decide) ?_
  refine lg_iadd (pc := 262) C dL_law_262 ?_
  obtain ⟨hi, hF⟩ := hF
  refine lg_sld (pc := 263) C hi dL_law_263 ?_
  refine lg_aload_n (pc := 264) C dL_law_264 0 rfl ?_
  refine lg_iload_n (pc := 265) C dL_law_265 3 rfl ?_
  refine lg_iconst (pc := 266) (v := 2) C dL_law_266 (by decide) ?_
  refine lg_iadd (pc := 267) C dL_law_267 ?_
  obtain ⟨hi, hF⟩ := hF
  refine lg_sld (pc := 268) C hi dL_law_268 ?_
  obtain ⟨hk, hfit, hF⟩ := hF
  refine lg_xfI (pc := 269) C [.int (lg_xs X (y3 + 1).toNatClampNeg), .int (lg_xs X (y3 + 2).toNatClampNeg)] hk (met_X11_text Y a (lg_xs X (y3 + 1).toNatClampNeg) (lg_xs X (y3 + 2).toNatClampNeg) ) gL_law_X11_text rfl ⟨rfl, rfl⟩ nd_X11_text ⟨Nat.le_of_ble_eq_true rfl, Nat.le_of_ble_eq_true rfl⟩ rfl rfl (Nat.le_of_ble_eq_true rfl) hfit dL_law_269 hF (fun r1 h2 hF => ?_)
  refine lg_aload_n (pc := 272) C dL_law_272 2 rfl ?_
  refine lg_aload_n (pc := 273) C dL_law_273 0 rfl ?_
  refine lg_iload_n (pc := 274) C dL_law_274 3 rfl ?_
  refine lg_iconst (pc := 275) (v := 1) C dL_law_275 (by decide) ?_
  refine lg_iadd (pc := 276) C dL_law_276 ?_
  obtain ⟨hi, hF⟩ := hF
  refine lg_sld (pc := 277) C hi dL_law_277 ?_
  refine lg_aload_n (pc := 278) C dL_law_278 0 rfl ?_
  refine lg_iload_n (pc := 279) C dL_law_279 3 rfl ?_
  refine lg_iconst (pc := 280) (v := 2) C dL_law_280 (by decide) ?_
  refine lg_iadd (pc := 281) C dL_law_281 ?_
  obtain ⟨hi, hF⟩ := hF
  refine lg_sld (pc := 282) C hi dL_law_282 ?_
  obtain ⟨hfit, hF⟩ := hF
  refine lg_mI (pc := 283) C [.int (lg_xs X (y3 + 1).toNatClampNeg), .int (lg_xs X (y3 + 2).toNatClampNeg)] (met_text (lg_xs X (y3 + 1).toNatClampNeg) (lg_xs X (y3 + 2).toNatClampNeg) ) gL_law_X12_text rfl ⟨rfl, rfl⟩ nd_text ⟨Nat.le_of_ble_eq_true rfl, Nat.le_of_ble_eq_true rfl⟩ rfl rfl (Nat.le_of_ble_eq_true rfl) hfit dL_law_283 hF (fun r3 g4 hF => ?_)
  refine lg_icmp_eq (pc := 286) 1426 C dL_law_286 (by decide) (fun hc => ?_) (fun hc => ?_)
  · have hF := hF.1 hc
    obtain ⟨z5, ez5⟩ : ∃ y : Int32, y = y3 + 6 := ⟨_, rfl⟩
    have hF := hF z5 ez5
    refine lg_iinc (pc := 1426) (v := z5) (lv2 := [(3, .int z5), (0, .ref (lg_b X)), (1, .ref a), (2, .ref a2)]) C dL_law_1426 3 rfl (by rw [ez5]; rfl) (by decide) rfl ?_
    refine lg_sub (lv2 := [(0, .ref (lg_b X)), (1, .ref a), (2, .ref a2), (3, .int z5)]) [1, 2, 3, 0] rfl ?_
    refine lg_goto (pc := 1429) 18 C dL_law_1429 (by decide) ?_
    exact hF
  · have hF := hF.2 hc
    exact hF.elim
def wp_law_3 (X : lg_X) (a : Nat) (R : Int32 → Nat → Nat → xg_Y → xg_H → mg_H → Prop) (y3 : Int32) (k n : Nat) (Y : xg_Y) (h : xg_H) (g : mg_H) : Prop :=
  vp_in (y3 + 1) (lg_L X) ∧ (xg_is Y a 11 ∧ (k ≤ 600000 ∧ n ≤ 7302250) ∧ wp_X11_fault Y (fun r1 h2 => vp_in (y3 + 1) (lg_L X) ∧ ((k ≤ 600000 ∧ n ≤ 7302250) ∧ wp_fault (fun r3 g4 => (((r1 = r3) → ∀ z5 : Int32, z5 = y3 + 6 → R z5 k n Y h2 g4) ∧ ((¬ r1 = r3) → False))) (lg_xs X (y3 + 1).toNatClampNeg) g)) a (lg_xs X (y3 + 1).toNatClampNeg) h)
set_option maxHeartbeats 4000000 in
set_option maxRecDepth 100000 in
theorem met_law_3 (X : lg_X) (C : lg_ok X) (a a2 : Nat) (y3 : Int32) (k n : Nat) (Y : xg_Y) (h : xg_H) (g : mg_H) (hF : wp_law_3 X a (fun (y3 : Int32) (k n : Nat) (Y : xg_Y) (h : xg_H) (g : mg_H) => lg_W X a2 k n 18 [(0, .ref (lg_b X)), (1, .ref a), (2, .ref a2), (3, .int y3)] [] (Y, h, g)) y3 k n Y h g) : lg_W X a2 k n 291 [(0, .ref (lg_b X)), (1, .ref a), (2, .ref a2), (3, .int y3)] [] (Y, h, g) := by
  unfold wp_law_3 at hF
  refine lg_aload_n (pc := 291) C dL_law_291 1 rfl ?_
  refine lg_aload_n (pc := 292) C dL_law_292 0 rfl ?_
  refine lg_iload_n (pc := 293) C dL_law_293 3 rfl ?_
  refine lg_iconst (pc := 294) (v := 1) C dL_law_294 (by decide) ?_
  refine lg_iadd (pc := 295) C dL_law_295 ?_
  obtain ⟨hi, hF⟩ := hF
  refine lg_sld (pc := 296) C hi dL_law_296 ?_
  obtain ⟨hk, hfit, hF⟩ := hF
  refine lg_xfI (pc := 297) C [.int (lg_xs X (y3 + 1).toNatClampNeg)] hk (met_X11_fault Y a (lg_xs X (y3 + 1).toNatClampNeg) ) gL_law_X11_fault rfl ⟨rfl, rfl⟩ nd_X11_fault ⟨Nat.le_of_ble_eq_true rfl, Nat.le_of_ble_eq_true rfl⟩ rfl rfl (Nat.le_of_ble_eq_true rfl) hfit dL_law_297 hF (fun r1 h2 hF => ?_)
  refine lg_aload_n (pc := 300) C dL_law_300 2 rfl ?_
  refine lg_aload_n (pc := 301) C dL_law_301 0 rfl ?_
  refine lg_iload_n (pc := 302) C dL_law_302 3 rfl ?_
  refine lg_iconst (pc := 303) (v := 1) C dL_law_303 (by decide) ?_
  refine lg_iadd (pc := 304) C dL_law_304 ?_
  obtain ⟨hi, hF⟩ := hF
  refine lg_sld (pc := 305) C hi dL_law_305 ?_
  obtain ⟨hfit, hF⟩ := hF
  refine lg_mI (pc := 306) C [.int (lg_xs X (y3 + 1).toNatClampNeg)] (met_fault (lg_xs X (y3 + 1).toNatClampNeg) ) gL_law_X12_fault rfl ⟨rfl, rfl⟩ nd_fault ⟨Nat.le_of_ble_eq_true rfl, Nat.le_of_ble_eq_true rfl⟩ rfl rfl (Nat.le_of_ble_eq_true rfl) hfit dL_law_306 hF (fun r3 g4 hF => ?_)
  refine lg_icmp_eq (pc := 309) 1426 C dL_law_309 (by decide) (fun hc => ?_) (fun hc => ?_)
  · have hF := hF.1 hc
    obtain ⟨z5, ez5⟩ : ∃ y : Int32, y = y3 + 6 := ⟨_, rfl⟩
    have hF := hF z5 ez5
    refine lg_iinc (pc := 1426) (v := z5) (lv2 := [(3, .int z5), (0, .ref (lg_b X)), (1, .ref a), (2, .ref a2)]) C dL_law_1426 3 rfl (by rw [ez5]; rfl) (by decide) rfl ?_
    refine lg_sub (lv2 := [(0, .ref (lg_b X)), (1, .ref a), (2, .ref a2), (3, .int z5)]) [1, 2, 3, 0] rfl ?_
    refine lg_goto (pc := 1429) 18 C dL_law_1429 (by decide) ?_
    exact hF
  · have hF := hF.2 hc
    exact hF.elim
def wp_law_4 (X : lg_X) (a : Nat) (R : Int32 → Nat → Nat → xg_Y → xg_H → mg_H → Prop) (y3 : Int32) (k n : Nat) (Y : xg_Y) (h : xg_H) (g : mg_H) : Prop :=
  vp_in (y3 + 1) (lg_L X) ∧ (vp_in (y3 + 2) (lg_L X) ∧ (xg_is Y a 11 ∧ (k ≤ 600000 ∧ n ≤ 7302250) ∧ wp_X11_shelf Y (fun r1 h2 => vp_in (y3 + 1) (lg_L X) ∧ (vp_in (y3 + 2) (lg_L X) ∧ ((k ≤ 600000 ∧ n ≤ 7302250) ∧ wp_shelf (fun r3 g4 => (((r1 = r3) → ∀ z5 : Int32, z5 = y3 + 6 → R z5 k n Y h2 g4) ∧ ((¬ r1 = r3) → False))) (lg_xs X (y3 + 1).toNatClampNeg) (lg_xs X (y3 + 2).toNatClampNeg) g))) a (lg_xs X (y3 + 1).toNatClampNeg) (lg_xs X (y3 + 2).toNatClampNeg) h))
set_option maxHeartbeats 4000000 in
set_option maxRecDepth 100000 in
theorem met_law_4 (X : lg_X) (C : lg_ok X) (a a2 : Nat) (y3 : Int32) (k n : Nat) (Y : xg_Y) (h : xg_H) (g : mg_H) (hF : wp_law_4 X a (fun (y3 : Int32) (k n : Nat) (Y : xg_Y) (h : xg_H) (g : mg_H) => lg_W X a2 k n 18 [(0, .ref (lg_b X)), (1, .ref a), (2, .ref a2), (3, .int y3)] [] (Y, h, g)) y3 k n Y h g) : lg_W X a2 k n 314 [(0, .ref (lg_b X)), (1, .ref a), (2, .ref a2), (3, .int y3)] [] (Y, h, g) := by
  unfold wp_law_4 at hF
  refine lg_aload_n (pc := 314) C dL_law_314 1 rfl ?_
  refine lg_aload_n (pc := 315) C dL_law_315 0 rfl ?_
  refine lg_iload_n (pc := 316) C dL_law_316 3 rfl ?_
  refine lg_iconst (pc := 317) (v := 1) C dL_law_317 (by decide) ?_
  refine lg_iadd (pc := 318) C dL_law_318 ?_
  obtain ⟨hi, hF⟩ := hF
  refine lg_sld (pc := 319) C hi dL_law_319 ?_
  refine lg_aload_n (pc := 320) C dL_law_320 0 rfl ?_
  refine lg_iload_n (pc := 321) C dL_law_321 3 rfl ?_
  refine lg_iconst (pc := 322) (v := 2) C dL_law_322 (by decide) ?_
  refine lg_iadd (pc := 323) C dL_law_323 ?_
  obtain ⟨hi, hF⟩ := hF
  refine lg_sld (pc := 324) C hi dL_law_324 ?_
  obtain ⟨hk, hfit, hF⟩ := hF
  refine lg_xfI (pc := 325) C [.int (lg_xs X (y3 + 1).toNatClampNeg), .int (lg_xs X (y3 + 2).toNatClampNeg)] hk (met_X11_shelf Y a (lg_xs X (y3 + 1).toNatClampNeg) (lg_xs X (y3 + 2).toNatClampNeg) ) gL_law_X11_shelf rfl ⟨rfl, rfl⟩ nd_X11_shelf ⟨Nat.le_of_ble_eq_true rfl, Nat.le_of_ble_eq_true rfl⟩ rfl rfl (Nat.le_of_ble_eq_true rfl) hfit dL_law_325 hF (fun r1 h2 hF => ?_)
  refine lg_aload_n (pc := 328) C dL_law_328 2 rfl ?_
  refine lg_aload_n (pc := 329) C dL_law_329 0 rfl ?_
  refine lg_iload_n (pc := 330) C dL_law_330 3 rfl ?_
  refine lg_iconst (pc := 331) (v := 1) C dL_law_331 (by decide) ?_
  refine lg_iadd (pc := 332) C dL_law_332 ?_
  obtain ⟨hi, hF⟩ := hF
  refine lg_sld (pc := 333) C hi dL_law_333 ?_
  refine lg_aload_n (pc := 334) C dL_law_334 0 rfl ?_
  refine lg_iload_n (pc := 335) C dL_law_335 3 rfl ?_
  refine lg_iconst (pc := 336) (v := 2) C dL_law_336 (by decide) ?_
  refine lg_iadd (pc := 337) C dL_law_337 ?_
  obtain ⟨hi, hF⟩ := hF
  refine lg_sld (pc := 338) C hi dL_law_338 ?_
  obtain ⟨hfit, hF⟩ := hF
  refine lg_mI (pc := 339) C [.int (lg_xs X (y3 + 1).toNatClampNeg), .int (lg_xs X (y3 + 2).toNatClampNeg)] (met_shelf (lg_xs X (y3 + 1).toNatClampNeg) (lg_xs X (y3 + 2).toNatClampNeg) ) gL_law_X12_shelf rfl ⟨rfl, rfl⟩ nd_shelf ⟨Nat.le_of_ble_eq_true rfl, Nat.le_of_ble_eq_true rfl⟩ rfl rfl (Nat.le_of_ble_eq_true rfl) hfit dL_law_339 hF (fun r3 g4 hF => ?_)
  refine lg_icmp_eq (pc := 342) 1426 C dL_law_342 (by decide) (fun hc => ?_) (fun hc => ?_)
  · have hF := hF.1 hc
    obtain ⟨z5, ez5⟩ : ∃ y : Int32, y = y3 + 6 := ⟨_, rfl⟩
    have hF := hF z5 ez5
    refine lg_iinc (pc := 1426) (v := z5) (lv2 := [(3, .int z5), (0, .ref (lg_b X)), (1, .ref a), (2, .ref a2)]) C dL_law_1426 3 rfl (by rw [ez5]; rfl) (by decide) rfl ?_
    refine lg_sub (lv2 := [(0, .ref (lg_b X)), (1, .ref a), (2, .ref a2), (3, .int z5)]) [1, 2, 3, 0] rfl ?_
    refine lg_goto (pc := 1429) 18 C dL_law_1429 (by decide) ?_
    exact hF
  · have hF := hF.2 hc
    exact hF.elim
def wp_law_5 (X : lg_X) (a : Nat) (R : Int32 → Nat → Nat → xg_Y → xg_H → mg_H → Prop) (y3 : Int32) (k n : Nat) (Y : xg_Y) (h : xg_H) (g : mg_H) : Prop :=
  vp_in (y3 + 1) (lg_L X) ∧ (vp_in (y3 + 2) (lg_L X) ∧ (vp_in (y3 + 3) (lg_L X) ∧ (xg_is Y a 11 ∧ (k ≤ 600000 ∧ n ≤ 7302250) ∧ wp_X11_deed Y (fun r1 h2 => vp_in (y3 + 1) (lg_L X) ∧ (vp_in (y3 + 2) (lg_L X) ∧ (vp_in (y3 + 3) (lg_L X) ∧ ((k ≤ 600000 ∧ n ≤ 7302250) ∧ wp_deed (fun r3 g4 => (((r1 = r3) → ∀ z5 : Int32, z5 = y3 + 6 → R z5 k n Y h2 g4) ∧ ((¬ r1 = r3) → False))) (lg_xs X (y3 + 1).toNatClampNeg) (lg_xs X (y3 + 2).toNatClampNeg) (lg_xs X (y3 + 3).toNatClampNeg) g)))) a (lg_xs X (y3 + 1).toNatClampNeg) (lg_xs X (y3 + 2).toNatClampNeg) (lg_xs X (y3 + 3).toNatClampNeg) h)))
set_option maxHeartbeats 4000000 in
set_option maxRecDepth 100000 in
theorem met_law_5 (X : lg_X) (C : lg_ok X) (a a2 : Nat) (y3 : Int32) (k n : Nat) (Y : xg_Y) (h : xg_H) (g : mg_H) (hF : wp_law_5 X a (fun (y3 : Int32) (k n : Nat) (Y : xg_Y) (h : xg_H) (g : mg_H) => lg_W X a2 k n 18 [(0, .ref (lg_b X)), (1, .ref a), (2, .ref a2), (3, .int y3)] [] (Y, h, g)) y3 k n Y h g) : lg_W X a2 k n 347 [(0, .ref (lg_b X)), (1, .ref a), (2, .ref a2), (3, .int y3)] [] (Y, h, g) := by
  unfold wp_law_5 at hF
  refine lg_aload_n (pc := 347) C dL_law_347 1 rfl ?_
  refine lg_aload_n (pc := 348) C dL_law_348 0 rfl ?_
  refine lg_iload_n (pc := 349) C dL_law_349 3 rfl ?_
  refine lg_iconst (pc := 350) (v := 1) C dL_law_350 (by decide) ?_
  refine lg_iadd (pc := 351) C dL_law_351 ?_
  obtain ⟨hi, hF⟩ := hF
  refine lg_sld (pc := 352) C hi dL_law_352 ?_
  refine lg_aload_n (pc := 353) C dL_law_353 0 rfl ?_
  refine lg_iload_n (pc := 354) C dL_law_354 3 rfl ?_
  refine lg_iconst (pc := 355) (v := 2) C dL_law_355 (by decide) ?_
  refine lg_iadd (pc := 356) C dL_law_356 ?_
  obtain ⟨hi, hF⟩ := hF
  refine lg_sld (pc := 357) C hi dL_law_357 ?_
  refine lg_aload_n (pc := 358) C dL_law_358 0 rfl ?_
  refine lg_iload_n (pc := 359) C dL_law_359 3 rfl ?_
  refine lg_iconst (pc := 360) (v := 3) C dL_law_360 (by decide) ?_
  refine lg_iadd (pc := 361) C dL_law_361 ?_
  obtain ⟨hi, hF⟩ := hF
  refine lg_sld (pc := 362) C hi dL_law_362 ?_
  obtain ⟨hk, hfit, hF⟩ := hF
  refine lg_xfI (pc := 363) C [.int (lg_xs X (y3 + 1).toNatClampNeg), .int (lg_xs X (y3 + 2).toNatClampNeg), .int (lg_xs X (y3 + 3).toNatClampNeg)] hk (met_X11_deed Y a (lg_xs X (y3 + 1).toNatClampNeg) (lg_xs X (y3 + 2).toNatClampNeg) (lg_xs X (y3 + 3).toNatClampNeg) ) gL_law_X11_deed rfl ⟨rfl, rfl⟩ nd_X11_deed ⟨Nat.le_of_ble_eq_true rfl, Nat.le_of_ble_eq_true rfl⟩ rfl rfl (Nat.le_of_ble_eq_true rfl) hfit dL_law_363 hF (fun r1 h2 hF => ?_)
  refine lg_aload_n (pc := 366) C dL_law_366 2 rfl ?_
  refine lg_aload_n (pc := 367) C dL_law_367 0 rfl ?_
  refine lg_iload_n (pc := 368) C dL_law_368 3 rfl ?_
  refine lg_iconst (pc := 369) (v := 1) C dL_law_369 (by decide) ?_
  refine lg_iadd (pc := 370) C dL_law_370 ?_
  obtain ⟨hi, hF⟩ := hF
  refine lg_sld (pc := 371) C hi dL_law_371 ?_
  refine lg_aload_n (pc := 372) C dL_law_372 0 rfl ?_
  refine lg_iload_n (pc := 373) C dL_law_373 3 rfl ?_
  refine lg_iconst (pc := 374) (v := 2) C dL_law_374 (by decide) ?_
  refine lg_iadd (pc := 375) C dL_law_375 ?_
  obtain ⟨hi, hF⟩ := hF
  refine lg_sld (pc := 376) C hi dL_law_376 ?_
  refine lg_aload_n (pc := 377) C dL_law_377 0 rfl ?_
  refine lg_iload_n (pc := 378) C dL_law_378 3 rfl ?_
  refine lg_iconst (pc := 379) (v := 3) C dL_law_379 (by decide) ?_
  refine lg_iadd (pc := 380) C dL_law_380 ?_
  obtain ⟨hi, hF⟩ := hF
  refine lg_sld (pc := 381) C hi dL_law_381 ?_
  obtain ⟨hfit, hF⟩ := hF
  refine lg_mI (pc := 382) C [.int (lg_xs X (y3 + 1).toNatClampNeg), .int (lg_xs X (y3 + 2).toNatClampNeg), .int (lg_xs X (y3 + 3).toNatClampNeg)] (met_deed (lg_xs X (y3 + 1).toNatClampNeg) (lg_xs X (y3 + 2).toNatClampNeg) (lg_xs X (y3 + 3).toNatClampNeg) ) gL_law_X12_deed rfl ⟨rfl, rfl⟩ nd_deed ⟨Nat.le_of_ble_eq_true rfl, Nat.le_of_ble_eq_true rfl⟩ rfl rfl (Nat.le_of_ble_eq_true rfl) hfit dL_law_382 hF (fun r3 g4 hF => ?_)
  refine lg_icmp_eq (pc := 385) 1426 C dL_law_385 (by decide) (fun hc => ?_) (fun hc => ?_)
  · have hF := hF.1 hc
    obtain ⟨z5, ez5⟩ : ∃ y : Int32, y = y3 + 6 := ⟨_, rfl⟩
    have hF := hF z5 ez5
    refine lg_iinc (pc := 1426) (v := z5) (lv2 := [(3, .int z5), (0, .ref (lg_b X)), (1, .ref a), (2, .ref a2)]) C dL_law_1426 3 rfl (by rw [ez5]; rfl) (by decide) rfl ?_
    refine lg_sub (lv2 := [(0, .ref (lg_b X)), (1, .ref a), (2, .ref a2), (3, .int z5)]) [1, 2, 3, 0] rfl ?_
    refine lg_goto (pc := 1429) 18 C dL_law_1429 (by decide) ?_
    exact hF
  · have hF := hF.2 hc
    exact hF.elim
def wp_law_6 (X : lg_X) (a : Nat) (R : Int32 → Nat → Nat → xg_Y → xg_H → mg_H → Prop) (y3 : Int32) (k n : Nat) (Y : xg_Y) (h : xg_H) (g : mg_H) : Prop :=
  vp_in (y3 + 1) (lg_L X) ∧ (vp_in (y3 + 2) (lg_L X) ∧ (xg_is Y a 11 ∧ (k ≤ 600000 ∧ n ≤ 7302250) ∧ wp_X11_stop Y (fun r1 h2 => vp_in (y3 + 1) (lg_L X) ∧ (vp_in (y3 + 2) (lg_L X) ∧ ((k ≤ 600000 ∧ n ≤ 7302250) ∧ wp_stop (fun r3 g4 => (((r1 = r3) → ∀ z5 : Int32, z5 = y3 + 6 → R z5 k n Y h2 g4) ∧ ((¬ r1 = r3) → False))) (lg_xs X (y3 + 1).toNatClampNeg) (lg_xs X (y3 + 2).toNatClampNeg) g))) a (lg_xs X (y3 + 1).toNatClampNeg) (lg_xs X (y3 + 2).toNatClampNeg) h))
set_option maxHeartbeats 4000000 in
set_option maxRecDepth 100000 in
theorem met_law_6 (X : lg_X) (C : lg_ok X) (a a2 : Nat) (y3 : Int32) (k n : Nat) (Y : xg_Y) (h : xg_H) (g : mg_H) (hF : wp_law_6 X a (fun (y3 : Int32) (k n : Nat) (Y : xg_Y) (h : xg_H) (g : mg_H) => lg_W X a2 k n 18 [(0, .ref (lg_b X)), (1, .ref a), (2, .ref a2), (3, .int y3)] [] (Y, h, g)) y3 k n Y h g) : lg_W X a2 k n 390 [(0, .ref (lg_b X)), (1, .ref a), (2, .ref a2), (3, .int y3)] [] (Y, h, g) := by
  unfold wp_law_6 at hF
  refine lg_aload_n (pc := 390) C dL_law_390 1 rfl ?_
  refine lg_aload_n (pc := 391) C dL_law_391 0 rfl ?_
  refine lg_iload_n (pc := 392) C dL_law_392 3 rfl ?_
  refine lg_iconst (pc := 393) (v := 1) C dL_law_393 (by decide) ?_
  refine lg_iadd (pc := 394) C dL_law_394 ?_
  obtain ⟨hi, hF⟩ := hF
  refine lg_sld (pc := 395) C hi dL_law_395 ?_
  refine lg_aload_n (pc := 396) C dL_law_396 0 rfl ?_
  refine lg_iload_n (pc := 397) C dL_law_397 3 rfl ?_
  refine lg_iconst (pc := 398) (v := 2) C dL_law_398 (by decide) ?_
  refine lg_iadd (pc := 399) C dL_law_399 ?_
  obtain ⟨hi, hF⟩ := hF
  refine lg_sld (pc := 400) C hi dL_law_400 ?_
  obtain ⟨hk, hfit, hF⟩ := hF
  refine lg_xfI (pc := 401) C [.int (lg_xs X (y3 + 1).toNatClampNeg), .int (lg_xs X (y3 + 2).toNatClampNeg)] hk (met_X11_stop Y a (lg_xs X (y3 + 1).toNatClampNeg) (lg_xs X (y3 + 2).toNatClampNeg) ) gL_law_X11_stop rfl ⟨rfl, rfl⟩ nd_X11_stop ⟨Nat.le_of_ble_eq_true rfl, Nat.le_of_ble_eq_true rfl⟩ rfl rfl (Nat.le_of_ble_eq_true rfl) hfit dL_law_401 hF (fun r1 h2 hF => ?_)
  refine lg_aload_n (pc := 404) C dL_law_404 2 rfl ?_
  refine lg_aload_n (pc := 405) C dL_law_405 0 rfl ?_
  refine lg_iload_n (pc := 406) C dL_law_406 3 rfl ?_
  refine lg_iconst (pc := 407) (v := 1) C dL_law_407 (by decide) ?_
  refine lg_iadd (pc := 408) C dL_law_408 ?_
  obtain ⟨hi, hF⟩ := hF
  refine lg_sld (pc := 409) C hi dL_law_409 ?_
  refine lg_aload_n (pc := 410) C dL_law_410 0 rfl ?_
  refine lg_iload_n (pc := 411) C dL_law_411 3 rfl ?_
  refine lg_iconst (pc := 412) (v := 2) C dL_law_412 (by decide) ?_
  refine lg_iadd (pc := 413) C dL_law_413 ?_
  obtain ⟨hi, hF⟩ := hF
  refine lg_sld (pc := 414) C hi dL_law_414 ?_
  obtain ⟨hfit, hF⟩ := hF
  refine lg_mI (pc := 415) C [.int (lg_xs X (y3 + 1).toNatClampNeg), .int (lg_xs X (y3 + 2).toNatClampNeg)] (met_stop (lg_xs X (y3 + 1).toNatClampNeg) (lg_xs X (y3 + 2).toNatClampNeg) ) gL_law_X12_stop rfl ⟨rfl, rfl⟩ nd_stop ⟨Nat.le_of_ble_eq_true rfl, Nat.le_of_ble_eq_true rfl⟩ rfl rfl (Nat.le_of_ble_eq_true rfl) hfit dL_law_415 hF (fun r3 g4 hF => ?_)
  refine lg_icmp_eq (pc := 418) 1426 C dL_law_418 (by decide) (fun hc => ?_) (fun hc => ?_)
  · have hF := hF.1 hc
    obtain ⟨z5, ez5⟩ : ∃ y : Int32, y = y3 + 6 := ⟨_, rfl⟩
    have hF := hF z5 ez5
    refine lg_iinc (pc := 1426) (v := z5) (lv2 := [(3, .int z5), (0, .ref (lg_b X)), (1, .ref a), (2, .ref a2)]) C dL_law_1426 3 rfl (by rw [ez5]; rfl) (by decide) rfl ?_
    refine lg_sub (lv2 := [(0, .ref (lg_b X)), (1, .ref a), (2, .ref a2), (3, .int z5)]) [1, 2, 3, 0] rfl ?_
    refine lg_goto (pc := 1429) 18 C dL_law_1429 (by decide) ?_
    exact hF
  · have hF := hF.2 hc
    exact hF.elim
def wp_law_7 (X : lg_X) (a : Nat) (R : Int32 → Nat → Nat → xg_Y → xg_H → mg_H → Prop) (y3 : Int32) (k n : Nat) (Y : xg_Y) (h : xg_H) (g : mg_H) : Prop :=
  vp_in (y3 + 1) (lg_L X) ∧ (vp_in (y3 + 2) (lg_L X) ∧ (vp_in (y3 + 3) (lg_L X) ∧ (vp_in (y3 + 4) (lg_L X) ∧ (xg_is Y a 11 ∧ (k ≤ 600000 ∧ n ≤ 7302250) ∧ wp_X11_state Y (fun r1 h2 => vp_in (y3 + 1) (lg_L X) ∧ (vp_in (y3 + 2) (lg_L X) ∧ (vp_in (y3 + 3) (lg_L X) ∧ (vp_in (y3 + 4) (lg_L X) ∧ ((k ≤ 600000 ∧ n ≤ 7302250) ∧ wp_state (fun r3 g4 => (((r1 = r3) → ∀ z5 : Int32, z5 = y3 + 6 → R z5 k n Y h2 g4) ∧ ((¬ r1 = r3) → False))) (lg_xs X (y3 + 1).toNatClampNeg) (lg_xs X (y3 + 2).toNatClampNeg) (lg_xs X (y3 + 3).toNatClampNeg) (lg_xs X (y3 + 4).toNatClampNeg) g))))) a (lg_xs X (y3 + 1).toNatClampNeg) (lg_xs X (y3 + 2).toNatClampNeg) (lg_xs X (y3 + 3).toNatClampNeg) (lg_xs X (y3 + 4).toNatClampNeg) h))))
set_option maxHeartbeats 4000000 in
set_option maxRecDepth 100000 in
theorem met_law_7 (X : lg_X) (C : lg_ok X) (a a2 : Nat) (y3 : Int32) (k n : Nat) (Y : xg_Y) (h : xg_H) (g : mg_H) (hF : wp_law_7 X a (fun (y3 : Int32) (k n : Nat) (Y : xg_Y) (h : xg_H) (g : mg_H) => lg_W X a2 k n 18 [(0, .ref (lg_b X)), (1, .ref a), (2, .ref a2), (3, .int y3)] [] (Y, h, g)) y3 k n Y h g) : lg_W X a2 k n 423 [(0, .ref (lg_b X)), (1, .ref a), (2, .ref a2), (3, .int y3)] [] (Y, h, g) := by
  unfold wp_law_7 at hF
  refine lg_aload_n (pc := 423) C dL_law_423 1 rfl ?_
  refine lg_aload_n (pc := 424) C dL_law_424 0 rfl ?_
  refine lg_iload_n (pc := 425) C dL_law_425 3 rfl ?_
  refine lg_iconst (pc := 426) (v := 1) C dL_law_426 (by decide) ?_
  refine lg_iadd (pc := 427) C dL_law_427 ?_
  obtain ⟨hi, hF⟩ := hF
  refine lg_sld (pc := 428) C hi dL_law_428 ?_
  refine lg_aload_n (pc := 429) C dL_law_429 0 rfl ?_
  refine lg_iload_n (pc := 430) C dL_law_430 3 rfl ?_
  refine lg_iconst (pc := 431) (v := 2) C dL_law_431 (by decide) ?_
  refine lg_iadd (pc := 432) C dL_law_432 ?_
  obtain ⟨hi, hF⟩ := hF
  refine lg_sld (pc := 433) C hi dL_law_433 ?_
  refine lg_aload_n (pc := 434) C dL_law_434 0 rfl ?_
  refine lg_iload_n (pc := 435) C dL_law_435 3 rfl ?_
  refine lg_iconst (pc := 436) (v := 3) C dL_law_436 (by decide) ?_
  refine lg_iadd (pc := 437) C dL_law_437 ?_
  obtain ⟨hi, hF⟩ := hF
  refine lg_sld (pc := 438) C hi dL_law_438 ?_
  refine lg_aload_n (pc := 439) C dL_law_439 0 rfl ?_
  refine lg_iload_n (pc := 440) C dL_law_440 3 rfl ?_
  refine lg_iconst (pc := 441) (v := 4) C dL_law_441 (by decide) ?_
  refine lg_iadd (pc := 442) C dL_law_442 ?_
  obtain ⟨hi, hF⟩ := hF
  refine lg_sld (pc := 443) C hi dL_law_443 ?_
  obtain ⟨hk, hfit, hF⟩ := hF
  refine lg_xfI (pc := 444) C [.int (lg_xs X (y3 + 1).toNatClampNeg), .int (lg_xs X (y3 + 2).toNatClampNeg), .int (lg_xs X (y3 + 3).toNatClampNeg), .int (lg_xs X (y3 + 4).toNatClampNeg)] hk (met_X11_state Y a (lg_xs X (y3 + 1).toNatClampNeg) (lg_xs X (y3 + 2).toNatClampNeg) (lg_xs X (y3 + 3).toNatClampNeg) (lg_xs X (y3 + 4).toNatClampNeg) ) gL_law_X11_state rfl ⟨rfl, rfl⟩ nd_X11_state ⟨Nat.le_of_ble_eq_true rfl, Nat.le_of_ble_eq_true rfl⟩ rfl rfl (Nat.le_of_ble_eq_true rfl) hfit dL_law_444 hF (fun r1 h2 hF => ?_)
  refine lg_aload_n (pc := 447) C dL_law_447 2 rfl ?_
  refine lg_aload_n (pc := 448) C dL_law_448 0 rfl ?_
  refine lg_iload_n (pc := 449) C dL_law_449 3 rfl ?_
  refine lg_iconst (pc := 450) (v := 1) C dL_law_450 (by decide) ?_
  refine lg_iadd (pc := 451) C dL_law_451 ?_
  obtain ⟨hi, hF⟩ := hF
  refine lg_sld (pc := 452) C hi dL_law_452 ?_
  refine lg_aload_n (pc := 453) C dL_law_453 0 rfl ?_
  refine lg_iload_n (pc := 454) C dL_law_454 3 rfl ?_
  refine lg_iconst (pc := 455) (v := 2) C dL_law_455 (by decide) ?_
  refine lg_iadd (pc := 456) C dL_law_456 ?_
  obtain ⟨hi, hF⟩ := hF
  refine lg_sld (pc := 457) C hi dL_law_457 ?_
  refine lg_aload_n (pc := 458) C dL_law_458 0 rfl ?_
  refine lg_iload_n (pc := 459) C dL_law_459 3 rfl ?_
  refine lg_iconst (pc := 460) (v := 3) C dL_law_460 (by decide) ?_
  refine lg_iadd (pc := 461) C dL_law_461 ?_
  obtain ⟨hi, hF⟩ := hF
  refine lg_sld (pc := 462) C hi dL_law_462 ?_
  refine lg_aload_n (pc := 463) C dL_law_463 0 rfl ?_
  refine lg_iload_n (pc := 464) C dL_law_464 3 rfl ?_
  refine lg_iconst (pc := 465) (v := 4) C dL_law_465 (by decide) ?_
  refine lg_iadd (pc := 466) C dL_law_466 ?_
  obtain ⟨hi, hF⟩ := hF
  refine lg_sld (pc := 467) C hi dL_law_467 ?_
  obtain ⟨hfit, hF⟩ := hF
  refine lg_mI (pc := 468) C [.int (lg_xs X (y3 + 1).toNatClampNeg), .int (lg_xs X (y3 + 2).toNatClampNeg), .int (lg_xs X (y3 + 3).toNatClampNeg), .int (lg_xs X (y3 + 4).toNatClampNeg)] (met_state (lg_xs X (y3 + 1).toNatClampNeg) (lg_xs X (y3 + 2).toNatClampNeg) (lg_xs X (y3 + 3).toNatClampNeg) (lg_xs X (y3 + 4).toNatClampNeg) ) gL_law_X12_state rfl ⟨rfl, rfl⟩ nd_state ⟨Nat.le_of_ble_eq_true rfl, Nat.le_of_ble_eq_true rfl⟩ rfl rfl (Nat.le_of_ble_eq_true rfl) hfit dL_law_468 hF (fun r3 g4 hF => ?_)
  refine lg_icmp_eq (pc := 471) 1426 C dL_law_471 (by decide) (fun hc => ?_) (fun hc => ?_)
  · have hF := hF.1 hc
    obtain ⟨z5, ez5⟩ : ∃ y : Int32, y = y3 + 6 := ⟨_, rfl⟩
    have hF := hF z5 ez5
    refine lg_iinc (pc := 1426) (v := z5) (lv2 := [(3, .int z5), (0, .ref (lg_b X)), (1, .ref a), (2, .ref a2)]) C dL_law_1426 3 rfl (by rw [ez5]; rfl) (by decide) rfl ?_
    refine lg_sub (lv2 := [(0, .ref (lg_b X)), (1, .ref a), (2, .ref a2), (3, .int z5)]) [1, 2, 3, 0] rfl ?_
    refine lg_goto (pc := 1429) 18 C dL_law_1429 (by decide) ?_
    exact hF
  · have hF := hF.2 hc
    exact hF.elim
def wp_law_8 (X : lg_X) (a : Nat) (R : Int32 → Nat → Nat → xg_Y → xg_H → mg_H → Prop) (y3 : Int32) (k n : Nat) (Y : xg_Y) (h : xg_H) (g : mg_H) : Prop :=
  vp_in (y3 + 1) (lg_L X) ∧ (vp_in (y3 + 2) (lg_L X) ∧ (vp_in (y3 + 3) (lg_L X) ∧ (xg_is Y a 11 ∧ ∃ mc3 ms3 : Nat, (k + mc3 ≤ 600000 ∧ n + ms3 ≤ 7302250) ∧ wp_X11_tell mc3 ms3 Y (fun r1 Y4 h2 => vp_in (y3 + 1) (lg_L X) ∧ (vp_in (y3 + 2) (lg_L X) ∧ (vp_in (y3 + 3) (lg_L X) ∧ (((k + mc3) ≤ 600000 ∧ (n + ms3) ≤ 7302250) ∧ wp_tell (fun r5 g6 => (((r1 = r5) → ∀ z7 : Int32, z7 = y3 + 6 → R z7 (k + mc3) (n + ms3) Y4 h2 g6) ∧ ((¬ r1 = r5) → False))) (lg_xs X (y3 + 1).toNatClampNeg) (lg_xs X (y3 + 2).toNatClampNeg) (lg_xs X (y3 + 3).toNatClampNeg) g)))) a (lg_xs X (y3 + 1).toNatClampNeg) (lg_xs X (y3 + 2).toNatClampNeg) (lg_xs X (y3 + 3).toNatClampNeg) h)))
set_option maxHeartbeats 4000000 in
set_option maxRecDepth 100000 in
theorem met_law_8 (X : lg_X) (C : lg_ok X) (a a2 : Nat) (y3 : Int32) (k n : Nat) (Y : xg_Y) (h : xg_H) (g : mg_H) (hF : wp_law_8 X a (fun (y3 : Int32) (k n : Nat) (Y : xg_Y) (h : xg_H) (g : mg_H) => lg_W X a2 k n 18 [(0, .ref (lg_b X)), (1, .ref a), (2, .ref a2), (3, .int y3)] [] (Y, h, g)) y3 k n Y h g) : lg_W X a2 k n 476 [(0, .ref (lg_b X)), (1, .ref a), (2, .ref a2), (3, .int y3)] [] (Y, h, g) := by
  unfold wp_law_8 at hF
  refine lg_aload_n (pc := 476) C dL_law_476 1 rfl ?_
  refine lg_aload_n (pc := 477) C dL_law_477 0 rfl ?_
  refine lg_iload_n (pc := 478) C dL_law_478 3 rfl ?_
  refine lg_iconst (pc := 479) (v := 1) C dL_law_479 (by decide) ?_
  refine lg_iadd (pc := 480) C dL_law_480 ?_
  obtain ⟨hi, hF⟩ := hF
  refine lg_sld (pc := 481) C hi dL_law_481 ?_
  refine lg_aload_n (pc := 482) C dL_law_482 0 rfl ?_
  refine lg_iload_n (pc := 483) C dL_law_483 3 rfl ?_
  refine lg_iconst (pc := 484) (v := 2) C dL_law_484 (by decide) ?_
  refine lg_iadd (pc := 485) C dL_law_485 ?_
  obtain ⟨hi, hF⟩ := hF
  refine lg_sld (pc := 486) C hi dL_law_486 ?_
  refine lg_aload_n (pc := 487) C dL_law_487 0 rfl ?_
  refine lg_iload_n (pc := 488) C dL_law_488 3 rfl ?_
  refine lg_iconst (pc := 489) (v := 3) C dL_law_489 (by decide) ?_
  refine lg_iadd (pc := 490) C dL_law_490 ?_
  obtain ⟨hi, hF⟩ := hF
  refine lg_sld (pc := 491) C hi dL_law_491 ?_
  obtain ⟨hk, mc3, ms3, hfit, hF⟩ := hF
  refine lg_xvI (pc := 492) C [.int (lg_xs X (y3 + 1).toNatClampNeg), .int (lg_xs X (y3 + 2).toNatClampNeg), .int (lg_xs X (y3 + 3).toNatClampNeg)] hk (met_X11_tell mc3 ms3 Y a (lg_xs X (y3 + 1).toNatClampNeg) (lg_xs X (y3 + 2).toNatClampNeg) (lg_xs X (y3 + 3).toNatClampNeg) ) gL_law_X11_tell rfl nd_X11_tell ⟨Nat.le_of_ble_eq_true rfl, Nat.le_of_ble_eq_true rfl⟩ rfl rfl (Nat.le_of_ble_eq_true rfl) hfit dL_law_492 hF (fun r1 Y4 h2 hF => ?_)
  refine lg_aload_n (pc := 495) C dL_law_495 2 rfl ?_
  refine lg_aload_n (pc := 496) C dL_law_496 0 rfl ?_
  refine lg_iload_n (pc := 497) C dL_law_497 3 rfl ?_
  refine lg_iconst (pc := 498) (v := 1) C dL_law_498 (by decide) ?_
  refine lg_iadd (pc := 499) C dL_law_499 ?_
  obtain ⟨hi, hF⟩ := hF
  refine lg_sld (pc := 500) C hi dL_law_500 ?_
  refine lg_aload_n (pc := 501) C dL_law_501 0 rfl ?_
  refine lg_iload_n (pc := 502) C dL_law_502 3 rfl ?_
  refine lg_iconst (pc := 503) (v := 2) C dL_law_503 (by decide) ?_
  refine lg_iadd (pc := 504) C dL_law_504 ?_
  obtain ⟨hi, hF⟩ := hF
  refine lg_sld (pc := 505) C hi dL_law_505 ?_
  refine lg_aload_n (pc := 506) C dL_law_506 0 rfl ?_
  refine lg_iload_n (pc := 507) C dL_law_507 3 rfl ?_
  refine lg_iconst (pc := 508) (v := 3) C dL_law_508 (by decide) ?_
  refine lg_iadd (pc := 509) C dL_law_509 ?_
  obtain ⟨hi, hF⟩ := hF
  refine lg_sld (pc := 510) C hi dL_law_510 ?_
  obtain ⟨hfit, hF⟩ := hF
  refine lg_mI (pc := 511) C [.int (lg_xs X (y3 + 1).toNatClampNeg), .int (lg_xs X (y3 + 2).toNatClampNeg), .int (lg_xs X (y3 + 3).toNatClampNeg)] (met_tell (lg_xs X (y3 + 1).toNatClampNeg) (lg_xs X (y3 + 2).toNatClampNeg) (lg_xs X (y3 + 3).toNatClampNeg) ) gL_law_X12_tell rfl ⟨rfl, rfl⟩ nd_tell ⟨Nat.le_of_ble_eq_true rfl, Nat.le_of_ble_eq_true rfl⟩ rfl rfl (Nat.le_of_ble_eq_true rfl) hfit dL_law_511 hF (fun r5 g6 hF => ?_)
  refine lg_icmp_eq (pc := 514) 1426 C dL_law_514 (by decide) (fun hc => ?_) (fun hc => ?_)
  · have hF := hF.1 hc
    obtain ⟨z7, ez7⟩ : ∃ y : Int32, y = y3 + 6 := ⟨_, rfl⟩
    have hF := hF z7 ez7
    refine lg_iinc (pc := 1426) (v := z7) (lv2 := [(3, .int z7), (0, .ref (lg_b X)), (1, .ref a), (2, .ref a2)]) C dL_law_1426 3 rfl (by rw [ez7]; rfl) (by decide) rfl ?_
    refine lg_sub (lv2 := [(0, .ref (lg_b X)), (1, .ref a), (2, .ref a2), (3, .int z7)]) [1, 2, 3, 0] rfl ?_
    refine lg_goto (pc := 1429) 18 C dL_law_1429 (by decide) ?_
    exact hF
  · have hF := hF.2 hc
    exact hF.elim
def wp_law_9 (X : lg_X) (a : Nat) (R : Int32 → Nat → Nat → xg_Y → xg_H → mg_H → Prop) (y3 : Int32) (k n : Nat) (Y : xg_Y) (h : xg_H) (g : mg_H) : Prop :=
  vp_in (y3 + 1) (lg_L X) ∧ (vp_in (y3 + 2) (lg_L X) ∧ (xg_is Y a 11 ∧ ∃ mc3 ms3 : Nat, (k + mc3 ≤ 600000 ∧ n + ms3 ≤ 7302250) ∧ wp_X11_purse mc3 ms3 Y (fun r1 Y4 h2 => vp_in (y3 + 1) (lg_L X) ∧ (vp_in (y3 + 2) (lg_L X) ∧ (((k + mc3) ≤ 600000 ∧ (n + ms3) ≤ 7302250) ∧ wp_purse (fun r5 g6 => (((r1 = r5) → ∀ z7 : Int32, z7 = y3 + 6 → R z7 (k + mc3) (n + ms3) Y4 h2 g6) ∧ ((¬ r1 = r5) → False))) (lg_xs X (y3 + 1).toNatClampNeg) (lg_xs X (y3 + 2).toNatClampNeg) g))) a (lg_xs X (y3 + 1).toNatClampNeg) (lg_xs X (y3 + 2).toNatClampNeg) h))
set_option maxHeartbeats 4000000 in
set_option maxRecDepth 100000 in
theorem met_law_9 (X : lg_X) (C : lg_ok X) (a a2 : Nat) (y3 : Int32) (k n : Nat) (Y : xg_Y) (h : xg_H) (g : mg_H) (hF : wp_law_9 X a (fun (y3 : Int32) (k n : Nat) (Y : xg_Y) (h : xg_H) (g : mg_H) => lg_W X a2 k n 18 [(0, .ref (lg_b X)), (1, .ref a), (2, .ref a2), (3, .int y3)] [] (Y, h, g)) y3 k n Y h g) : lg_W X a2 k n 519 [(0, .ref (lg_b X)), (1, .ref a), (2, .ref a2), (3, .int y3)] [] (Y, h, g) := by
  unfold wp_law_9 at hF
  refine lg_aload_n (pc := 519) C dL_law_519 1 rfl ?_
  refine lg_aload_n (pc := 520) C dL_law_520 0 rfl ?_
  refine lg_iload_n (pc := 521) C dL_law_521 3 rfl ?_
  refine lg_iconst (pc := 522) (v := 1) C dL_law_522 (by decide) ?_
  refine lg_iadd (pc := 523) C dL_law_523 ?_
  obtain ⟨hi, hF⟩ := hF
  refine lg_sld (pc := 524) C hi dL_law_524 ?_
  refine lg_aload_n (pc := 525) C dL_law_525 0 rfl ?_
  refine lg_iload_n (pc := 526) C dL_law_526 3 rfl ?_
  refine lg_iconst (pc := 527) (v := 2) C dL_law_527 (by decide) ?_
  refine lg_iadd (pc := 528) C dL_law_528 ?_
  obtain ⟨hi, hF⟩ := hF
  refine lg_sld (pc := 529) C hi dL_law_529 ?_
  obtain ⟨hk, mc3, ms3, hfit, hF⟩ := hF
  refine lg_xvI (pc := 530) C [.int (lg_xs X (y3 + 1).toNatClampNeg), .int (lg_xs X (y3 + 2).toNatClampNeg)] hk (met_X11_purse mc3 ms3 Y a (lg_xs X (y3 + 1).toNatClampNeg) (lg_xs X (y3 + 2).toNatClampNeg) ) gL_law_X11_purse rfl nd_X11_purse ⟨Nat.le_of_ble_eq_true rfl, Nat.le_of_ble_eq_true rfl⟩ rfl rfl (Nat.le_of_ble_eq_true rfl) hfit dL_law_530 hF (fun r1 Y4 h2 hF => ?_)
  refine lg_aload_n (pc := 533) C dL_law_533 2 rfl ?_
  refine lg_aload_n (pc := 534) C dL_law_534 0 rfl ?_
  refine lg_iload_n (pc := 535) C dL_law_535 3 rfl ?_
  refine lg_iconst (pc := 536) (v := 1) C dL_law_536 (by decide) ?_
  refine lg_iadd (pc := 537) C dL_law_537 ?_
  obtain ⟨hi, hF⟩ := hF
  refine lg_sld (pc := 538) C hi dL_law_538 ?_
  refine lg_aload_n (pc := 539) C dL_law_539 0 rfl ?_
  refine lg_iload_n (pc := 540) C dL_law_540 3 rfl ?_
  refine lg_iconst (pc := 541) (v := 2) C dL_law_541 (by decide) ?_
  refine lg_iadd (pc := 542) C dL_law_542 ?_
  obtain ⟨hi, hF⟩ := hF
  refine lg_sld (pc := 543) C hi dL_law_543 ?_
  obtain ⟨hfit, hF⟩ := hF
  refine lg_mI (pc := 544) C [.int (lg_xs X (y3 + 1).toNatClampNeg), .int (lg_xs X (y3 + 2).toNatClampNeg)] (met_purse (lg_xs X (y3 + 1).toNatClampNeg) (lg_xs X (y3 + 2).toNatClampNeg) ) gL_law_X12_purse rfl ⟨rfl, rfl⟩ nd_purse ⟨Nat.le_of_ble_eq_true rfl, Nat.le_of_ble_eq_true rfl⟩ rfl rfl (Nat.le_of_ble_eq_true rfl) hfit dL_law_544 hF (fun r5 g6 hF => ?_)
  refine lg_icmp_eq (pc := 547) 1426 C dL_law_547 (by decide) (fun hc => ?_) (fun hc => ?_)
  · have hF := hF.1 hc
    obtain ⟨z7, ez7⟩ : ∃ y : Int32, y = y3 + 6 := ⟨_, rfl⟩
    have hF := hF z7 ez7
    refine lg_iinc (pc := 1426) (v := z7) (lv2 := [(3, .int z7), (0, .ref (lg_b X)), (1, .ref a), (2, .ref a2)]) C dL_law_1426 3 rfl (by rw [ez7]; rfl) (by decide) rfl ?_
    refine lg_sub (lv2 := [(0, .ref (lg_b X)), (1, .ref a), (2, .ref a2), (3, .int z7)]) [1, 2, 3, 0] rfl ?_
    refine lg_goto (pc := 1429) 18 C dL_law_1429 (by decide) ?_
    exact hF
  · have hF := hF.2 hc
    exact hF.elim
def wp_law_10 (X : lg_X) (a : Nat) (R : Int32 → Nat → Nat → xg_Y → xg_H → mg_H → Prop) (y3 : Int32) (k n : Nat) (Y : xg_Y) (h : xg_H) (g : mg_H) : Prop :=
  vp_in (y3 + 1) (lg_L X) ∧ (vp_in (y3 + 2) (lg_L X) ∧ (xg_is Y a 11 ∧ ∃ mc3 ms3 : Nat, (k + mc3 ≤ 600000 ∧ n + ms3 ≤ 7302250) ∧ wp_X11_apart mc3 ms3 Y (fun r1 Y4 h2 => vp_in (y3 + 1) (lg_L X) ∧ (vp_in (y3 + 2) (lg_L X) ∧ (((k + mc3) ≤ 600000 ∧ (n + ms3) ≤ 7302250) ∧ wp_apart (fun r5 g6 => (((r1 = r5) → ∀ z7 : Int32, z7 = y3 + 6 → R z7 (k + mc3) (n + ms3) Y4 h2 g6) ∧ ((¬ r1 = r5) → False))) (lg_xs X (y3 + 1).toNatClampNeg) (lg_xs X (y3 + 2).toNatClampNeg) g))) a (lg_xs X (y3 + 1).toNatClampNeg) (lg_xs X (y3 + 2).toNatClampNeg) h))
set_option maxHeartbeats 4000000 in
set_option maxRecDepth 100000 in
theorem met_law_10 (X : lg_X) (C : lg_ok X) (a a2 : Nat) (y3 : Int32) (k n : Nat) (Y : xg_Y) (h : xg_H) (g : mg_H) (hF : wp_law_10 X a (fun (y3 : Int32) (k n : Nat) (Y : xg_Y) (h : xg_H) (g : mg_H) => lg_W X a2 k n 18 [(0, .ref (lg_b X)), (1, .ref a), (2, .ref a2), (3, .int y3)] [] (Y, h, g)) y3 k n Y h g) : lg_W X a2 k n 552 [(0, .ref (lg_b X)), (1, .ref a), (2, .ref a2), (3, .int y3)] [] (Y, h, g) := by
  unfold wp_law_10 at hF
  refine lg_aload_n (pc := 552) C dL_law_552 1 rfl ?_
  refine lg_aload_n (pc := 553) C dL_law_553 0 rfl ?_
  refine lg_iload_n (pc := 554) C dL_law_554 3 rfl ?_
  refine lg_iconst (pc := 555) (v := 1) C dL_law_555 (by decide) ?_
  refine lg_iadd (pc := 556) C dL_law_556 ?_
  obtain ⟨hi, hF⟩ := hF
  refine lg_sld (pc := 557) C hi dL_law_557 ?_
  refine lg_aload_n (pc := 558) C dL_law_558 0 rfl ?_
  refine lg_iload_n (pc := 559) C dL_law_559 3 rfl ?_
  refine lg_iconst (pc := 560) (v := 2) C dL_law_560 (by decide) ?_
  refine lg_iadd (pc := 561) C dL_law_561 ?_
  obtain ⟨hi, hF⟩ := hF
  refine lg_sld (pc := 562) C hi dL_law_562 ?_
  obtain ⟨hk, mc3, ms3, hfit, hF⟩ := hF
  refine lg_xvI (pc := 563) C [.int (lg_xs X (y3 + 1).toNatClampNeg), .int (lg_xs X (y3 + 2).toNatClampNeg)] hk (met_X11_apart mc3 ms3 Y a (lg_xs X (y3 + 1).toNatClampNeg) (lg_xs X (y3 + 2).toNatClampNeg) ) gL_law_X11_apart rfl nd_X11_apart ⟨Nat.le_of_ble_eq_true rfl, Nat.le_of_ble_eq_true rfl⟩ rfl rfl (Nat.le_of_ble_eq_true rfl) hfit dL_law_563 hF (fun r1 Y4 h2 hF => ?_)
  refine lg_aload_n (pc := 566) C dL_law_566 2 rfl ?_
  refine lg_aload_n (pc := 567) C dL_law_567 0 rfl ?_
  refine lg_iload_n (pc := 568) C dL_law_568 3 rfl ?_
  refine lg_iconst (pc := 569) (v := 1) C dL_law_569 (by decide) ?_
  refine lg_iadd (pc := 570) C dL_law_570 ?_
  obtain ⟨hi, hF⟩ := hF
  refine lg_sld (pc := 571) C hi dL_law_571 ?_
  refine lg_aload_n (pc := 572) C dL_law_572 0 rfl ?_
  refine lg_iload_n (pc := 573) C dL_law_573 3 rfl ?_
  refine lg_iconst (pc := 574) (v := 2) C dL_law_574 (by decide) ?_
  refine lg_iadd (pc := 575) C dL_law_575 ?_
  obtain ⟨hi, hF⟩ := hF
  refine lg_sld (pc := 576) C hi dL_law_576 ?_
  obtain ⟨hfit, hF⟩ := hF
  refine lg_mI (pc := 577) C [.int (lg_xs X (y3 + 1).toNatClampNeg), .int (lg_xs X (y3 + 2).toNatClampNeg)] (met_apart (lg_xs X (y3 + 1).toNatClampNeg) (lg_xs X (y3 + 2).toNatClampNeg) ) gL_law_X12_apart rfl ⟨rfl, rfl⟩ nd_apart ⟨Nat.le_of_ble_eq_true rfl, Nat.le_of_ble_eq_true rfl⟩ rfl rfl (Nat.le_of_ble_eq_true rfl) hfit dL_law_577 hF (fun r5 g6 hF => ?_)
  refine lg_icmp_eq (pc := 580) 1426 C dL_law_580 (by decide) (fun hc => ?_) (fun hc => ?_)
  · have hF := hF.1 hc
    obtain ⟨z7, ez7⟩ : ∃ y : Int32, y = y3 + 6 := ⟨_, rfl⟩
    have hF := hF z7 ez7
    refine lg_iinc (pc := 1426) (v := z7) (lv2 := [(3, .int z7), (0, .ref (lg_b X)), (1, .ref a), (2, .ref a2)]) C dL_law_1426 3 rfl (by rw [ez7]; rfl) (by decide) rfl ?_
    refine lg_sub (lv2 := [(0, .ref (lg_b X)), (1, .ref a), (2, .ref a2), (3, .int z7)]) [1, 2, 3, 0] rfl ?_
    refine lg_goto (pc := 1429) 18 C dL_law_1429 (by decide) ?_
    exact hF
  · have hF := hF.2 hc
    exact hF.elim
def wp_law_11 (X : lg_X) (a : Nat) (R : Int32 → Nat → Nat → xg_Y → xg_H → mg_H → Prop) (y3 : Int32) (k n : Nat) (Y : xg_Y) (h : xg_H) (g : mg_H) : Prop :=
  vp_in (y3 + 1) (lg_L X) ∧ (vp_in (y3 + 2) (lg_L X) ∧ (xg_is Y a 11 ∧ ∃ mc3 ms3 : Nat, (k + mc3 ≤ 600000 ∧ n + ms3 ≤ 7302250) ∧ wp_X11_span mc3 ms3 Y (fun r1 Y4 h2 => vp_in (y3 + 1) (lg_L X) ∧ (vp_in (y3 + 2) (lg_L X) ∧ (((k + mc3) ≤ 600000 ∧ (n + ms3) ≤ 7302250) ∧ wp_span (fun r5 g6 => (((r1 = r5) → ∀ z7 : Int32, z7 = y3 + 6 → R z7 (k + mc3) (n + ms3) Y4 h2 g6) ∧ ((¬ r1 = r5) → False))) (lg_xs X (y3 + 1).toNatClampNeg) (lg_xs X (y3 + 2).toNatClampNeg) g))) a (lg_xs X (y3 + 1).toNatClampNeg) (lg_xs X (y3 + 2).toNatClampNeg) h))
set_option maxHeartbeats 4000000 in
set_option maxRecDepth 100000 in
theorem met_law_11 (X : lg_X) (C : lg_ok X) (a a2 : Nat) (y3 : Int32) (k n : Nat) (Y : xg_Y) (h : xg_H) (g : mg_H) (hF : wp_law_11 X a (fun (y3 : Int32) (k n : Nat) (Y : xg_Y) (h : xg_H) (g : mg_H) => lg_W X a2 k n 18 [(0, .ref (lg_b X)), (1, .ref a), (2, .ref a2), (3, .int y3)] [] (Y, h, g)) y3 k n Y h g) : lg_W X a2 k n 585 [(0, .ref (lg_b X)), (1, .ref a), (2, .ref a2), (3, .int y3)] [] (Y, h, g) := by
  unfold wp_law_11 at hF
  refine lg_aload_n (pc := 585) C dL_law_585 1 rfl ?_
  refine lg_aload_n (pc := 586) C dL_law_586 0 rfl ?_
  refine lg_iload_n (pc := 587) C dL_law_587 3 rfl ?_
  refine lg_iconst (pc := 588) (v := 1) C dL_law_588 (by decide) ?_
  refine lg_iadd (pc := 589) C dL_law_589 ?_
  obtain ⟨hi, hF⟩ := hF
  refine lg_sld (pc := 590) C hi dL_law_590 ?_
  refine lg_aload_n (pc := 591) C dL_law_591 0 rfl ?_
  refine lg_iload_n (pc := 592) C dL_law_592 3 rfl ?_
  refine lg_iconst (pc := 593) (v := 2) C dL_law_593 (by decide) ?_
  refine lg_iadd (pc := 594) C dL_law_594 ?_
  obtain ⟨hi, hF⟩ := hF
  refine lg_sld (pc := 595) C hi dL_law_595 ?_
  obtain ⟨hk, mc3, ms3, hfit, hF⟩ := hF
  refine lg_xvI (pc := 596) C [.int (lg_xs X (y3 + 1).toNatClampNeg), .int (lg_xs X (y3 + 2).toNatClampNeg)] hk (met_X11_span mc3 ms3 Y a (lg_xs X (y3 + 1).toNatClampNeg) (lg_xs X (y3 + 2).toNatClampNeg) ) gL_law_X11_span rfl nd_X11_span ⟨Nat.le_of_ble_eq_true rfl, Nat.le_of_ble_eq_true rfl⟩ rfl rfl (Nat.le_of_ble_eq_true rfl) hfit dL_law_596 hF (fun r1 Y4 h2 hF => ?_)
  refine lg_aload_n (pc := 599) C dL_law_599 2 rfl ?_
  refine lg_aload_n (pc := 600) C dL_law_600 0 rfl ?_
  refine lg_iload_n (pc := 601) C dL_law_601 3 rfl ?_
  refine lg_iconst (pc := 602) (v := 1) C dL_law_602 (by decide) ?_
  refine lg_iadd (pc := 603) C dL_law_603 ?_
  obtain ⟨hi, hF⟩ := hF
  refine lg_sld (pc := 604) C hi dL_law_604 ?_
  refine lg_aload_n (pc := 605) C dL_law_605 0 rfl ?_
  refine lg_iload_n (pc := 606) C dL_law_606 3 rfl ?_
  refine lg_iconst (pc := 607) (v := 2) C dL_law_607 (by decide) ?_
  refine lg_iadd (pc := 608) C dL_law_608 ?_
  obtain ⟨hi, hF⟩ := hF
  refine lg_sld (pc := 609) C hi dL_law_609 ?_
  obtain ⟨hfit, hF⟩ := hF
  refine lg_mI (pc := 610) C [.int (lg_xs X (y3 + 1).toNatClampNeg), .int (lg_xs X (y3 + 2).toNatClampNeg)] (met_span (lg_xs X (y3 + 1).toNatClampNeg) (lg_xs X (y3 + 2).toNatClampNeg) ) gL_law_X12_span rfl ⟨rfl, rfl⟩ nd_span ⟨Nat.le_of_ble_eq_true rfl, Nat.le_of_ble_eq_true rfl⟩ rfl rfl (Nat.le_of_ble_eq_true rfl) hfit dL_law_610 hF (fun r5 g6 hF => ?_)
  refine lg_icmp_eq (pc := 613) 1426 C dL_law_613 (by decide) (fun hc => ?_) (fun hc => ?_)
  · have hF := hF.1 hc
    obtain ⟨z7, ez7⟩ : ∃ y : Int32, y = y3 + 6 := ⟨_, rfl⟩
    have hF := hF z7 ez7
    refine lg_iinc (pc := 1426) (v := z7) (lv2 := [(3, .int z7), (0, .ref (lg_b X)), (1, .ref a), (2, .ref a2)]) C dL_law_1426 3 rfl (by rw [ez7]; rfl) (by decide) rfl ?_
    refine lg_sub (lv2 := [(0, .ref (lg_b X)), (1, .ref a), (2, .ref a2), (3, .int z7)]) [1, 2, 3, 0] rfl ?_
    refine lg_goto (pc := 1429) 18 C dL_law_1429 (by decide) ?_
    exact hF
  · have hF := hF.2 hc
    exact hF.elim
def wp_law_12 (X : lg_X) (a : Nat) (R : Int32 → Nat → Nat → xg_Y → xg_H → mg_H → Prop) (y3 : Int32) (k n : Nat) (Y : xg_Y) (h : xg_H) (g : mg_H) : Prop :=
  vp_in (y3 + 1) (lg_L X) ∧ (vp_in (y3 + 2) (lg_L X) ∧ (vp_in (y3 + 3) (lg_L X) ∧ (((((lg_xs X (y3 + 3).toNatClampNeg) = 0) → xg_is Y a 11 ∧ ∃ mc3 ms3 : Nat, (k + mc3 ≤ 600000 ∧ n + ms3 ≤ 7302250) ∧ wp_X11_need mc3 ms3 Y (fun r1 Y4 h2 => vp_in (y3 + 1) (lg_L X) ∧ (vp_in (y3 + 2) (lg_L X) ∧ (vp_in (y3 + 3) (lg_L X) ∧ (((((lg_xs X (y3 + 3).toNatClampNeg) = 0) → ((k + mc3) ≤ 600000 ∧ (n + ms3) ≤ 7302250) ∧ wp_need (fun r5 g6 => (((r1 = r5) → ∀ z7 : Int32, z7 = y3 + 6 → R z7 (k + mc3) (n + ms3) Y4 h2 g6) ∧ ((¬ r1 = r5) → False))) (lg_xs X (y3 + 1).toNatClampNeg) (lg_xs X (y3 + 2).toNatClampNeg) 0 g) ∧ ((¬ (lg_xs X (y3 + 3).toNatClampNeg) = 0) → ((k + mc3) ≤ 600000 ∧ (n + ms3) ≤ 7302250) ∧ wp_need (fun r8 g9 => (((r1 = r8) → ∀ z10 : Int32, z10 = y3 + 6 → R z10 (k + mc3) (n + ms3) Y4 h2 g9) ∧ ((¬ r1 = r8) → False))) (lg_xs X (y3 + 1).toNatClampNeg) (lg_xs X (y3 + 2).toNatClampNeg) 1 g)))))) a (lg_xs X (y3 + 1).toNatClampNeg) (lg_xs X (y3 + 2).toNatClampNeg) 0 h) ∧ ((¬ (lg_xs X (y3 + 3).toNatClampNeg) = 0) → xg_is Y a 11 ∧ ∃ mc13 ms13 : Nat, (k + mc13 ≤ 600000 ∧ n + ms13 ≤ 7302250) ∧ wp_X11_need mc13 ms13 Y (fun r11 Y14 h12 => vp_in (y3 + 1) (lg_L X) ∧ (vp_in (y3 + 2) (lg_L X) ∧ (vp_in (y3 + 3) (lg_L X) ∧ (((((lg_xs X (y3 + 3).toNatClampNeg) = 0) → ((k + mc13) ≤ 600000 ∧ (n + ms13) ≤ 7302250) ∧ wp_need (fun r15 g16 => (((r11 = r15) → ∀ z17 : Int32, z17 = y3 + 6 → R z17 (k + mc13) (n + ms13) Y14 h12 g16) ∧ ((¬ r11 = r15) → False))) (lg_xs X (y3 + 1).toNatClampNeg) (lg_xs X (y3 + 2).toNatClampNeg) 0 g) ∧ ((¬ (lg_xs X (y3 + 3).toNatClampNeg) = 0) → ((k + mc13) ≤ 600000 ∧ (n + ms13) ≤ 7302250) ∧ wp_need (fun r18 g19 => (((r11 = r18) → ∀ z20 : Int32, z20 = y3 + 6 → R z20 (k + mc13) (n + ms13) Y14 h12 g19) ∧ ((¬ r11 = r18) → False))) (lg_xs X (y3 + 1).toNatClampNeg) (lg_xs X (y3 + 2).toNatClampNeg) 1 g)))))) a (lg_xs X (y3 + 1).toNatClampNeg) (lg_xs X (y3 + 2).toNatClampNeg) 1 h)))))
set_option maxHeartbeats 4000000 in
set_option maxRecDepth 100000 in
theorem met_law_12 (X : lg_X) (C : lg_ok X) (a a2 : Nat) (y3 : Int32) (k n : Nat) (Y : xg_Y) (h : xg_H) (g : mg_H) (hF : wp_law_12 X a (fun (y3 : Int32) (k n : Nat) (Y : xg_Y) (h : xg_H) (g : mg_H) => lg_W X a2 k n 18 [(0, .ref (lg_b X)), (1, .ref a), (2, .ref a2), (3, .int y3)] [] (Y, h, g)) y3 k n Y h g) : lg_W X a2 k n 618 [(0, .ref (lg_b X)), (1, .ref a), (2, .ref a2), (3, .int y3)] [] (Y, h, g) := by
  unfold wp_law_12 at hF
  refine lg_aload_n (pc := 618) C dL_law_618 1 rfl ?_
  refine lg_aload_n (pc := 619) C dL_law_619 0 rfl ?_
  refine lg_iload_n (pc := 620) C dL_law_620 3 rfl ?_
  refine lg_iconst (pc := 621) (v := 1) C dL_law_621 (by decide) ?_
  refine lg_iadd (pc := 622) C dL_law_622 ?_
  obtain ⟨hi, hF⟩ := hF
  refine lg_sld (pc := 623) C hi dL_law_623 ?_
  refine lg_aload_n (pc := 624) C dL_law_624 0 rfl ?_
  refine lg_iload_n (pc := 625) C dL_law_625 3 rfl ?_
  refine lg_iconst (pc := 626) (v := 2) C dL_law_626 (by decide) ?_
  refine lg_iadd (pc := 627) C dL_law_627 ?_
  obtain ⟨hi, hF⟩ := hF
  refine lg_sld (pc := 628) C hi dL_law_628 ?_
  refine lg_aload_n (pc := 629) C dL_law_629 0 rfl ?_
  refine lg_iload_n (pc := 630) C dL_law_630 3 rfl ?_
  refine lg_iconst (pc := 631) (v := 3) C dL_law_631 (by decide) ?_
  refine lg_iadd (pc := 632) C dL_law_632 ?_
  obtain ⟨hi, hF⟩ := hF
  refine lg_sld (pc := 633) C hi dL_law_633 ?_
  refine lg_if_eq (pc := 634) 641 C dL_law_634 (by decide) (fun hc => ?_) (fun hc => ?_)
  · have hF := hF.1 hc
    refine lg_iconst (pc := 641) (v := 0) C dL_law_641 (by decide) ?_
    obtain ⟨hk, mc3, ms3, hfit, hF⟩ := hF
    refine lg_xvI (pc := 642) C [.int (lg_xs X (y3 + 1).toNatClampNeg), .int (lg_xs X (y3 + 2).toNatClampNeg), .int 0] hk (met_X11_need mc3 ms3 Y a (lg_xs X (y3 + 1).toNatClampNeg) (lg_xs X (y3 + 2).toNatClampNeg) 0 ) gL_law_X11_need rfl nd_X11_need ⟨Nat.le_of_ble_eq_true rfl, Nat.le_of_ble_eq_true rfl⟩ rfl rfl (Nat.le_of_ble_eq_true rfl) hfit dL_law_642 hF (fun r1 Y4 h2 hF => ?_)
    refine lg_aload_n (pc := 645) C dL_law_645 2 rfl ?_
    refine lg_aload_n (pc := 646) C dL_law_646 0 rfl ?_
    refine lg_iload_n (pc := 647) C dL_law_647 3 rfl ?_
    refine lg_iconst (pc := 648) (v := 1) C dL_law_648 (by decide) ?_
    refine lg_iadd (pc := 649) C dL_law_649 ?_
    obtain ⟨hi, hF⟩ := hF
    refine lg_sld (pc := 650) C hi dL_law_650 ?_
    refine lg_aload_n (pc := 651) C dL_law_651 0 rfl ?_
    refine lg_iload_n (pc := 652) C dL_law_652 3 rfl ?_
    refine lg_iconst (pc := 653) (v := 2) C dL_law_653 (by decide) ?_
    refine lg_iadd (pc := 654) C dL_law_654 ?_
    obtain ⟨hi, hF⟩ := hF
    refine lg_sld (pc := 655) C hi dL_law_655 ?_
    refine lg_aload_n (pc := 656) C dL_law_656 0 rfl ?_
    refine lg_iload_n (pc := 657) C dL_law_657 3 rfl ?_
    refine lg_iconst (pc := 658) (v := 3) C dL_law_658 (by decide) ?_
    refine lg_iadd (pc := 659) C dL_law_659 ?_
    obtain ⟨hi, hF⟩ := hF
    refine lg_sld (pc := 660) C hi dL_law_660 ?_
    refine lg_if_eq (pc := 661) 668 C dL_law_661 (by decide) (fun hc => ?_) (fun hc => ?_)
    · have hF := hF.1 hc
      refine lg_iconst (pc := 668) (v := 0) C dL_law_668 (by decide) ?_
      obtain ⟨hfit, hF⟩ := hF
      refine lg_mI (pc := 669) C [.int (lg_xs X (y3 + 1).toNatClampNeg), .int (lg_xs X (y3 + 2).toNatClampNeg), .int 0] (met_need (lg_xs X (y3 + 1).toNatClampNeg) (lg_xs X (y3 + 2).toNatClampNeg) 0 ) gL_law_X12_need rfl ⟨rfl, rfl⟩ nd_need ⟨Nat.le_of_ble_eq_true rfl, Nat.le_of_ble_eq_true rfl⟩ rfl rfl (Nat.le_of_ble_eq_true rfl) hfit dL_law_669 hF (fun r5 g6 hF => ?_)
      refine lg_icmp_eq (pc := 672) 1426 C dL_law_672 (by decide) (fun hc => ?_) (fun hc => ?_)
      · have hF := hF.1 hc
        obtain ⟨z7, ez7⟩ : ∃ y : Int32, y = y3 + 6 := ⟨_, rfl⟩
        have hF := hF z7 ez7
        refine lg_iinc (pc := 1426) (v := z7) (lv2 := [(3, .int z7), (0, .ref (lg_b X)), (1, .ref a), (2, .ref a2)]) C dL_law_1426 3 rfl (by rw [ez7]; rfl) (by decide) rfl ?_
        refine lg_sub (lv2 := [(0, .ref (lg_b X)), (1, .ref a), (2, .ref a2), (3, .int z7)]) [1, 2, 3, 0] rfl ?_
        refine lg_goto (pc := 1429) 18 C dL_law_1429 (by decide) ?_
        exact hF
      · have hF := hF.2 hc
        exact hF.elim
    · have hF := hF.2 hc
      refine lg_iconst (pc := 664) (v := 1) C dL_law_664 (by decide) ?_
      refine lg_goto (pc := 665) 669 C dL_law_665 (by decide) ?_
      obtain ⟨hfit, hF⟩ := hF
      refine lg_mI (pc := 669) C [.int (lg_xs X (y3 + 1).toNatClampNeg), .int (lg_xs X (y3 + 2).toNatClampNeg), .int 1] (met_need (lg_xs X (y3 + 1).toNatClampNeg) (lg_xs X (y3 + 2).toNatClampNeg) 1 ) gL_law_X12_need rfl ⟨rfl, rfl⟩ nd_need ⟨Nat.le_of_ble_eq_true rfl, Nat.le_of_ble_eq_true rfl⟩ rfl rfl (Nat.le_of_ble_eq_true rfl) hfit dL_law_669 hF (fun r8 g9 hF => ?_)
      refine lg_icmp_eq (pc := 672) 1426 C dL_law_672 (by decide) (fun hc => ?_) (fun hc => ?_)
      · have hF := hF.1 hc
        obtain ⟨z10, ez10⟩ : ∃ y : Int32, y = y3 + 6 := ⟨_, rfl⟩
        have hF := hF z10 ez10
        refine lg_iinc (pc := 1426) (v := z10) (lv2 := [(3, .int z10), (0, .ref (lg_b X)), (1, .ref a), (2, .ref a2)]) C dL_law_1426 3 rfl (by rw [ez10]; rfl) (by decide) rfl ?_
        refine lg_sub (lv2 := [(0, .ref (lg_b X)), (1, .ref a), (2, .ref a2), (3, .int z10)]) [1, 2, 3, 0] rfl ?_
        refine lg_goto (pc := 1429) 18 C dL_law_1429 (by decide) ?_
        exact hF
      · have hF := hF.2 hc
        exact hF.elim
  · have hF := hF.2 hc
    refine lg_iconst (pc := 637) (v := 1) C dL_law_637 (by decide) ?_
    refine lg_goto (pc := 638) 642 C dL_law_638 (by decide) ?_
    obtain ⟨hk, mc13, ms13, hfit, hF⟩ := hF
    refine lg_xvI (pc := 642) C [.int (lg_xs X (y3 + 1).toNatClampNeg), .int (lg_xs X (y3 + 2).toNatClampNeg), .int 1] hk (met_X11_need mc13 ms13 Y a (lg_xs X (y3 + 1).toNatClampNeg) (lg_xs X (y3 + 2).toNatClampNeg) 1 ) gL_law_X11_need rfl nd_X11_need ⟨Nat.le_of_ble_eq_true rfl, Nat.le_of_ble_eq_true rfl⟩ rfl rfl (Nat.le_of_ble_eq_true rfl) hfit dL_law_642 hF (fun r11 Y14 h12 hF => ?_)
    refine lg_aload_n (pc := 645) C dL_law_645 2 rfl ?_
    refine lg_aload_n (pc := 646) C dL_law_646 0 rfl ?_
    refine lg_iload_n (pc := 647) C dL_law_647 3 rfl ?_
    refine lg_iconst (pc := 648) (v := 1) C dL_law_648 (by decide) ?_
    refine lg_iadd (pc := 649) C dL_law_649 ?_
    obtain ⟨hi, hF⟩ := hF
    refine lg_sld (pc := 650) C hi dL_law_650 ?_
    refine lg_aload_n (pc := 651) C dL_law_651 0 rfl ?_
    refine lg_iload_n (pc := 652) C dL_law_652 3 rfl ?_
    refine lg_iconst (pc := 653) (v := 2) C dL_law_653 (by decide) ?_
    refine lg_iadd (pc := 654) C dL_law_654 ?_
    obtain ⟨hi, hF⟩ := hF
    refine lg_sld (pc := 655) C hi dL_law_655 ?_
    refine lg_aload_n (pc := 656) C dL_law_656 0 rfl ?_
    refine lg_iload_n (pc := 657) C dL_law_657 3 rfl ?_
    refine lg_iconst (pc := 658) (v := 3) C dL_law_658 (by decide) ?_
    refine lg_iadd (pc := 659) C dL_law_659 ?_
    obtain ⟨hi, hF⟩ := hF
    refine lg_sld (pc := 660) C hi dL_law_660 ?_
    refine lg_if_eq (pc := 661) 668 C dL_law_661 (by decide) (fun hc => ?_) (fun hc => ?_)
    · have hF := hF.1 hc
      refine lg_iconst (pc := 668) (v := 0) C dL_law_668 (by decide) ?_
      obtain ⟨hfit, hF⟩ := hF
      refine lg_mI (pc := 669) C [.int (lg_xs X (y3 + 1).toNatClampNeg), .int (lg_xs X (y3 + 2).toNatClampNeg), .int 0] (met_need (lg_xs X (y3 + 1).toNatClampNeg) (lg_xs X (y3 + 2).toNatClampNeg) 0 ) gL_law_X12_need rfl ⟨rfl, rfl⟩ nd_need ⟨Nat.le_of_ble_eq_true rfl, Nat.le_of_ble_eq_true rfl⟩ rfl rfl (Nat.le_of_ble_eq_true rfl) hfit dL_law_669 hF (fun r15 g16 hF => ?_)
      refine lg_icmp_eq (pc := 672) 1426 C dL_law_672 (by decide) (fun hc => ?_) (fun hc => ?_)
      · have hF := hF.1 hc
        obtain ⟨z17, ez17⟩ : ∃ y : Int32, y = y3 + 6 := ⟨_, rfl⟩
        have hF := hF z17 ez17
        refine lg_iinc (pc := 1426) (v := z17) (lv2 := [(3, .int z17), (0, .ref (lg_b X)), (1, .ref a), (2, .ref a2)]) C dL_law_1426 3 rfl (by rw [ez17]; rfl) (by decide) rfl ?_
        refine lg_sub (lv2 := [(0, .ref (lg_b X)), (1, .ref a), (2, .ref a2), (3, .int z17)]) [1, 2, 3, 0] rfl ?_
        refine lg_goto (pc := 1429) 18 C dL_law_1429 (by decide) ?_
        exact hF
      · have hF := hF.2 hc
        exact hF.elim
    · have hF := hF.2 hc
      refine lg_iconst (pc := 664) (v := 1) C dL_law_664 (by decide) ?_
      refine lg_goto (pc := 665) 669 C dL_law_665 (by decide) ?_
      obtain ⟨hfit, hF⟩ := hF
      refine lg_mI (pc := 669) C [.int (lg_xs X (y3 + 1).toNatClampNeg), .int (lg_xs X (y3 + 2).toNatClampNeg), .int 1] (met_need (lg_xs X (y3 + 1).toNatClampNeg) (lg_xs X (y3 + 2).toNatClampNeg) 1 ) gL_law_X12_need rfl ⟨rfl, rfl⟩ nd_need ⟨Nat.le_of_ble_eq_true rfl, Nat.le_of_ble_eq_true rfl⟩ rfl rfl (Nat.le_of_ble_eq_true rfl) hfit dL_law_669 hF (fun r18 g19 hF => ?_)
      refine lg_icmp_eq (pc := 672) 1426 C dL_law_672 (by decide) (fun hc => ?_) (fun hc => ?_)
      · have hF := hF.1 hc
        obtain ⟨z20, ez20⟩ : ∃ y : Int32, y = y3 + 6 := ⟨_, rfl⟩
        have hF := hF z20 ez20
        refine lg_iinc (pc := 1426) (v := z20) (lv2 := [(3, .int z20), (0, .ref (lg_b X)), (1, .ref a), (2, .ref a2)]) C dL_law_1426 3 rfl (by rw [ez20]; rfl) (by decide) rfl ?_
        refine lg_sub (lv2 := [(0, .ref (lg_b X)), (1, .ref a), (2, .ref a2), (3, .int z20)]) [1, 2, 3, 0] rfl ?_
        refine lg_goto (pc := 1429) 18 C dL_law_1429 (by decide) ?_
        exact hF
      · have hF := hF.2 hc
        exact hF.elim
def wp_law_13 (X : lg_X) (a : Nat) (R : Int32 → Nat → Nat → xg_Y → xg_H → mg_H → Prop) (y3 : Int32) (k n : Nat) (Y : xg_Y) (h : xg_H) (g : mg_H) : Prop :=
  vp_in (y3 + 1) (lg_L X) ∧ (vp_in (y3 + 2) (lg_L X) ∧ (xg_is Y a 11 ∧ (k ≤ 600000 ∧ n ≤ 7302250) ∧ wp_X11_order Y (fun r1 h2 => vp_in (y3 + 1) (lg_L X) ∧ (vp_in (y3 + 2) (lg_L X) ∧ ((k ≤ 600000 ∧ n ≤ 7302250) ∧ wp_order (fun r3 g4 => (((r1 = r3) → ∀ z5 : Int32, z5 = y3 + 6 → R z5 k n Y h2 g4) ∧ ((¬ r1 = r3) → False))) (lg_xs X (y3 + 1).toNatClampNeg) (lg_xs X (y3 + 2).toNatClampNeg) g))) a (lg_xs X (y3 + 1).toNatClampNeg) (lg_xs X (y3 + 2).toNatClampNeg) h))
set_option maxHeartbeats 4000000 in
set_option maxRecDepth 100000 in
theorem met_law_13 (X : lg_X) (C : lg_ok X) (a a2 : Nat) (y3 : Int32) (k n : Nat) (Y : xg_Y) (h : xg_H) (g : mg_H) (hF : wp_law_13 X a (fun (y3 : Int32) (k n : Nat) (Y : xg_Y) (h : xg_H) (g : mg_H) => lg_W X a2 k n 18 [(0, .ref (lg_b X)), (1, .ref a), (2, .ref a2), (3, .int y3)] [] (Y, h, g)) y3 k n Y h g) : lg_W X a2 k n 677 [(0, .ref (lg_b X)), (1, .ref a), (2, .ref a2), (3, .int y3)] [] (Y, h, g) := by
  unfold wp_law_13 at hF
  refine lg_aload_n (pc := 677) C dL_law_677 1 rfl ?_
  refine lg_aload_n (pc := 678) C dL_law_678 0 rfl ?_
  refine lg_iload_n (pc := 679) C dL_law_679 3 rfl ?_
  refine lg_iconst (pc := 680) (v := 1) C dL_law_680 (by decide) ?_
  refine lg_iadd (pc := 681) C dL_law_681 ?_
  obtain ⟨hi, hF⟩ := hF
  refine lg_sld (pc := 682) C hi dL_law_682 ?_
  refine lg_aload_n (pc := 683) C dL_law_683 0 rfl ?_
  refine lg_iload_n (pc := 684) C dL_law_684 3 rfl ?_
  refine lg_iconst (pc := 685) (v := 2) C dL_law_685 (by decide) ?_
  refine lg_iadd (pc := 686) C dL_law_686 ?_
  obtain ⟨hi, hF⟩ := hF
  refine lg_sld (pc := 687) C hi dL_law_687 ?_
  obtain ⟨hk, hfit, hF⟩ := hF
  refine lg_xfI (pc := 688) C [.int (lg_xs X (y3 + 1).toNatClampNeg), .int (lg_xs X (y3 + 2).toNatClampNeg)] hk (met_X11_order Y a (lg_xs X (y3 + 1).toNatClampNeg) (lg_xs X (y3 + 2).toNatClampNeg) ) gL_law_X11_order rfl ⟨rfl, rfl⟩ nd_X11_order ⟨Nat.le_of_ble_eq_true rfl, Nat.le_of_ble_eq_true rfl⟩ rfl rfl (Nat.le_of_ble_eq_true rfl) hfit dL_law_688 hF (fun r1 h2 hF => ?_)
  refine lg_aload_n (pc := 691) C dL_law_691 2 rfl ?_
  refine lg_aload_n (pc := 692) C dL_law_692 0 rfl ?_
  refine lg_iload_n (pc := 693) C dL_law_693 3 rfl ?_
  refine lg_iconst (pc := 694) (v := 1) C dL_law_694 (by decide) ?_
  refine lg_iadd (pc := 695) C dL_law_695 ?_
  obtain ⟨hi, hF⟩ := hF
  refine lg_sld (pc := 696) C hi dL_law_696 ?_
  refine lg_aload_n (pc := 697) C dL_law_697 0 rfl ?_
  refine lg_iload_n (pc := 698) C dL_law_698 3 rfl ?_
  refine lg_iconst (pc := 699) (v := 2) C dL_law_699 (by decide) ?_
  refine lg_iadd (pc := 700) C dL_law_700 ?_
  obtain ⟨hi, hF⟩ := hF
  refine lg_sld (pc := 701) C hi dL_law_701 ?_
  obtain ⟨hfit, hF⟩ := hF
  refine lg_mI (pc := 702) C [.int (lg_xs X (y3 + 1).toNatClampNeg), .int (lg_xs X (y3 + 2).toNatClampNeg)] (met_order (lg_xs X (y3 + 1).toNatClampNeg) (lg_xs X (y3 + 2).toNatClampNeg) ) gL_law_X12_order rfl ⟨rfl, rfl⟩ nd_order ⟨Nat.le_of_ble_eq_true rfl, Nat.le_of_ble_eq_true rfl⟩ rfl rfl (Nat.le_of_ble_eq_true rfl) hfit dL_law_702 hF (fun r3 g4 hF => ?_)
  refine lg_icmp_eq (pc := 705) 1426 C dL_law_705 (by decide) (fun hc => ?_) (fun hc => ?_)
  · have hF := hF.1 hc
    obtain ⟨z5, ez5⟩ : ∃ y : Int32, y = y3 + 6 := ⟨_, rfl⟩
    have hF := hF z5 ez5
    refine lg_iinc (pc := 1426) (v := z5) (lv2 := [(3, .int z5), (0, .ref (lg_b X)), (1, .ref a), (2, .ref a2)]) C dL_law_1426 3 rfl (by rw [ez5]; rfl) (by decide) rfl ?_
    refine lg_sub (lv2 := [(0, .ref (lg_b X)), (1, .ref a), (2, .ref a2), (3, .int z5)]) [1, 2, 3, 0] rfl ?_
    refine lg_goto (pc := 1429) 18 C dL_law_1429 (by decide) ?_
    exact hF
  · have hF := hF.2 hc
    exact hF.elim
def wp_law_14 (X : lg_X) (a : Nat) (R : Int32 → Nat → Nat → xg_Y → xg_H → mg_H → Prop) (y3 : Int32) (k n : Nat) (Y : xg_Y) (h : xg_H) (g : mg_H) : Prop :=
  vp_in (y3 + 1) (lg_L X) ∧ (vp_in (y3 + 2) (lg_L X) ∧ (vp_in (y3 + 3) (lg_L X) ∧ (xg_is Y a 11 ∧ ∃ mc3 ms3 : Nat, (k + mc3 ≤ 600000 ∧ n + ms3 ≤ 7302250) ∧ wp_X11_plan mc3 ms3 Y (fun r1 Y4 h2 => vp_in (y3 + 1) (lg_L X) ∧ (vp_in (y3 + 2) (lg_L X) ∧ (vp_in (y3 + 3) (lg_L X) ∧ (((k + mc3) ≤ 600000 ∧ (n + ms3) ≤ 7302250) ∧ wp_plan (fun r5 g6 => (((r1 = r5) → ∀ z7 : Int32, z7 = y3 + 6 → R z7 (k + mc3) (n + ms3) Y4 h2 g6) ∧ ((¬ r1 = r5) → False))) (lg_xs X (y3 + 1).toNatClampNeg) (lg_xs X (y3 + 2).toNatClampNeg) (lg_xs X (y3 + 3).toNatClampNeg) g)))) a (lg_xs X (y3 + 1).toNatClampNeg) (lg_xs X (y3 + 2).toNatClampNeg) (lg_xs X (y3 + 3).toNatClampNeg) h)))
set_option maxHeartbeats 4000000 in
set_option maxRecDepth 100000 in
theorem met_law_14 (X : lg_X) (C : lg_ok X) (a a2 : Nat) (y3 : Int32) (k n : Nat) (Y : xg_Y) (h : xg_H) (g : mg_H) (hF : wp_law_14 X a (fun (y3 : Int32) (k n : Nat) (Y : xg_Y) (h : xg_H) (g : mg_H) => lg_W X a2 k n 18 [(0, .ref (lg_b X)), (1, .ref a), (2, .ref a2), (3, .int y3)] [] (Y, h, g)) y3 k n Y h g) : lg_W X a2 k n 710 [(0, .ref (lg_b X)), (1, .ref a), (2, .ref a2), (3, .int y3)] [] (Y, h, g) := by
  unfold wp_law_14 at hF
  refine lg_aload_n (pc := 710) C dL_law_710 1 rfl ?_
  refine lg_aload_n (pc := 711) C dL_law_711 0 rfl ?_
  refine lg_iload_n (pc := 712) C dL_law_712 3 rfl ?_
  refine lg_iconst (pc := 713) (v := 1) C dL_law_713 (by decide) ?_
  refine lg_iadd (pc := 714) C dL_law_714 ?_
  obtain ⟨hi, hF⟩ := hF
  refine lg_sld (pc := 715) C hi dL_law_715 ?_
  refine lg_aload_n (pc := 716) C dL_law_716 0 rfl ?_
  refine lg_iload_n (pc := 717) C dL_law_717 3 rfl ?_
  refine lg_iconst (pc := 718) (v := 2) C dL_law_718 (by decide) ?_
  refine lg_iadd (pc := 719) C dL_law_719 ?_
  obtain ⟨hi, hF⟩ := hF
  refine lg_sld (pc := 720) C hi dL_law_720 ?_
  refine lg_aload_n (pc := 721) C dL_law_721 0 rfl ?_
  refine lg_iload_n (pc := 722) C dL_law_722 3 rfl ?_
  refine lg_iconst (pc := 723) (v := 3) C dL_law_723 (by decide) ?_
  refine lg_iadd (pc := 724) C dL_law_724 ?_
  obtain ⟨hi, hF⟩ := hF
  refine lg_sld (pc := 725) C hi dL_law_725 ?_
  obtain ⟨hk, mc3, ms3, hfit, hF⟩ := hF
  refine lg_xvI (pc := 726) C [.int (lg_xs X (y3 + 1).toNatClampNeg), .int (lg_xs X (y3 + 2).toNatClampNeg), .int (lg_xs X (y3 + 3).toNatClampNeg)] hk (met_X11_plan mc3 ms3 Y a (lg_xs X (y3 + 1).toNatClampNeg) (lg_xs X (y3 + 2).toNatClampNeg) (lg_xs X (y3 + 3).toNatClampNeg) ) gL_law_X11_plan rfl nd_X11_plan ⟨Nat.le_of_ble_eq_true rfl, Nat.le_of_ble_eq_true rfl⟩ rfl rfl (Nat.le_of_ble_eq_true rfl) hfit dL_law_726 hF (fun r1 Y4 h2 hF => ?_)
  refine lg_aload_n (pc := 729) C dL_law_729 2 rfl ?_
  refine lg_aload_n (pc := 730) C dL_law_730 0 rfl ?_
  refine lg_iload_n (pc := 731) C dL_law_731 3 rfl ?_
  refine lg_iconst (pc := 732) (v := 1) C dL_law_732 (by decide) ?_
  refine lg_iadd (pc := 733) C dL_law_733 ?_
  obtain ⟨hi, hF⟩ := hF
  refine lg_sld (pc := 734) C hi dL_law_734 ?_
  refine lg_aload_n (pc := 735) C dL_law_735 0 rfl ?_
  refine lg_iload_n (pc := 736) C dL_law_736 3 rfl ?_
  refine lg_iconst (pc := 737) (v := 2) C dL_law_737 (by decide) ?_
  refine lg_iadd (pc := 738) C dL_law_738 ?_
  obtain ⟨hi, hF⟩ := hF
  refine lg_sld (pc := 739) C hi dL_law_739 ?_
  refine lg_aload_n (pc := 740) C dL_law_740 0 rfl ?_
  refine lg_iload_n (pc := 741) C dL_law_741 3 rfl ?_
  refine lg_iconst (pc := 742) (v := 3) C dL_law_742 (by decide) ?_
  refine lg_iadd (pc := 743) C dL_law_743 ?_
  obtain ⟨hi, hF⟩ := hF
  refine lg_sld (pc := 744) C hi dL_law_744 ?_
  obtain ⟨hfit, hF⟩ := hF
  refine lg_mI (pc := 745) C [.int (lg_xs X (y3 + 1).toNatClampNeg), .int (lg_xs X (y3 + 2).toNatClampNeg), .int (lg_xs X (y3 + 3).toNatClampNeg)] (met_plan (lg_xs X (y3 + 1).toNatClampNeg) (lg_xs X (y3 + 2).toNatClampNeg) (lg_xs X (y3 + 3).toNatClampNeg) ) gL_law_X12_plan rfl ⟨rfl, rfl⟩ nd_plan ⟨Nat.le_of_ble_eq_true rfl, Nat.le_of_ble_eq_true rfl⟩ rfl rfl (Nat.le_of_ble_eq_true rfl) hfit dL_law_745 hF (fun r5 g6 hF => ?_)
  refine lg_icmp_eq (pc := 748) 1426 C dL_law_748 (by decide) (fun hc => ?_) (fun hc => ?_)
  · have hF := hF.1 hc
    obtain ⟨z7, ez7⟩ : ∃ y : Int32, y = y3 + 6 := ⟨_, rfl⟩
    have hF := hF z7 ez7
    refine lg_iinc (pc := 1426) (v := z7) (lv2 := [(3, .int z7), (0, .ref (lg_b X)), (1, .ref a), (2, .ref a2)]) C dL_law_1426 3 rfl (by rw [ez7]; rfl) (by decide) rfl ?_
    refine lg_sub (lv2 := [(0, .ref (lg_b X)), (1, .ref a), (2, .ref a2), (3, .int z7)]) [1, 2, 3, 0] rfl ?_
    refine lg_goto (pc := 1429) 18 C dL_law_1429 (by decide) ?_
    exact hF
  · have hF := hF.2 hc
    exact hF.elim
def wp_law_15 (X : lg_X) (a : Nat) (R : Int32 → Nat → Nat → xg_Y → xg_H → mg_H → Prop) (y3 : Int32) (k n : Nat) (Y : xg_Y) (h : xg_H) (g : mg_H) : Prop :=
  vp_in (y3 + 1) (lg_L X) ∧ (vp_in (y3 + 2) (lg_L X) ∧ (xg_is Y a 11 ∧ ∃ mc3 ms3 : Nat, (k + mc3 ≤ 600000 ∧ n + ms3 ≤ 7302250) ∧ wp_X11_wheel mc3 ms3 Y (fun r1 Y4 h2 => vp_in (y3 + 1) (lg_L X) ∧ (vp_in (y3 + 2) (lg_L X) ∧ (((k + mc3) ≤ 600000 ∧ (n + ms3) ≤ 7302250) ∧ wp_wheel (fun r5 g6 => (((r1 = r5) → ∀ z7 : Int32, z7 = y3 + 6 → R z7 (k + mc3) (n + ms3) Y4 h2 g6) ∧ ((¬ r1 = r5) → False))) (lg_xs X (y3 + 1).toNatClampNeg) (lg_xs X (y3 + 2).toNatClampNeg) g))) a (lg_xs X (y3 + 1).toNatClampNeg) (lg_xs X (y3 + 2).toNatClampNeg) h))
set_option maxHeartbeats 4000000 in
set_option maxRecDepth 100000 in
theorem met_law_15 (X : lg_X) (C : lg_ok X) (a a2 : Nat) (y3 : Int32) (k n : Nat) (Y : xg_Y) (h : xg_H) (g : mg_H) (hF : wp_law_15 X a (fun (y3 : Int32) (k n : Nat) (Y : xg_Y) (h : xg_H) (g : mg_H) => lg_W X a2 k n 18 [(0, .ref (lg_b X)), (1, .ref a), (2, .ref a2), (3, .int y3)] [] (Y, h, g)) y3 k n Y h g) : lg_W X a2 k n 753 [(0, .ref (lg_b X)), (1, .ref a), (2, .ref a2), (3, .int y3)] [] (Y, h, g) := by
  unfold wp_law_15 at hF
  refine lg_aload_n (pc := 753) C dL_law_753 1 rfl ?_
  refine lg_aload_n (pc := 754) C dL_law_754 0 rfl ?_
  refine lg_iload_n (pc := 755) C dL_law_755 3 rfl ?_
  refine lg_iconst (pc := 756) (v := 1) C dL_law_756 (by decide) ?_
  refine lg_iadd (pc := 757) C dL_law_757 ?_
  obtain ⟨hi, hF⟩ := hF
  refine lg_sld (pc := 758) C hi dL_law_758 ?_
  refine lg_aload_n (pc := 759) C dL_law_759 0 rfl ?_
  refine lg_iload_n (pc := 760) C dL_law_760 3 rfl ?_
  refine lg_iconst (pc := 761) (v := 2) C dL_law_761 (by decide) ?_
  refine lg_iadd (pc := 762) C dL_law_762 ?_
  obtain ⟨hi, hF⟩ := hF
  refine lg_sld (pc := 763) C hi dL_law_763 ?_
  obtain ⟨hk, mc3, ms3, hfit, hF⟩ := hF
  refine lg_xvI (pc := 764) C [.int (lg_xs X (y3 + 1).toNatClampNeg), .int (lg_xs X (y3 + 2).toNatClampNeg)] hk (met_X11_wheel mc3 ms3 Y a (lg_xs X (y3 + 1).toNatClampNeg) (lg_xs X (y3 + 2).toNatClampNeg) ) gL_law_X11_wheel rfl nd_X11_wheel ⟨Nat.le_of_ble_eq_true rfl, Nat.le_of_ble_eq_true rfl⟩ rfl rfl (Nat.le_of_ble_eq_true rfl) hfit dL_law_764 hF (fun r1 Y4 h2 hF => ?_)
  refine lg_aload_n (pc := 767) C dL_law_767 2 rfl ?_
  refine lg_aload_n (pc := 768) C dL_law_768 0 rfl ?_
  refine lg_iload_n (pc := 769) C dL_law_769 3 rfl ?_
  refine lg_iconst (pc := 770) (v := 1) C dL_law_770 (by decide) ?_
  refine lg_iadd (pc := 771) C dL_law_771 ?_
  obtain ⟨hi, hF⟩ := hF
  refine lg_sld (pc := 772) C hi dL_law_772 ?_
  refine lg_aload_n (pc := 773) C dL_law_773 0 rfl ?_
  refine lg_iload_n (pc := 774) C dL_law_774 3 rfl ?_
  refine lg_iconst (pc := 775) (v := 2) C dL_law_775 (by decide) ?_
  refine lg_iadd (pc := 776) C dL_law_776 ?_
  obtain ⟨hi, hF⟩ := hF
  refine lg_sld (pc := 777) C hi dL_law_777 ?_
  obtain ⟨hfit, hF⟩ := hF
  refine lg_mI (pc := 778) C [.int (lg_xs X (y3 + 1).toNatClampNeg), .int (lg_xs X (y3 + 2).toNatClampNeg)] (met_wheel (lg_xs X (y3 + 1).toNatClampNeg) (lg_xs X (y3 + 2).toNatClampNeg) ) gL_law_X12_wheel rfl ⟨rfl, rfl⟩ nd_wheel ⟨Nat.le_of_ble_eq_true rfl, Nat.le_of_ble_eq_true rfl⟩ rfl rfl (Nat.le_of_ble_eq_true rfl) hfit dL_law_778 hF (fun r5 g6 hF => ?_)
  refine lg_icmp_eq (pc := 781) 1426 C dL_law_781 (by decide) (fun hc => ?_) (fun hc => ?_)
  · have hF := hF.1 hc
    obtain ⟨z7, ez7⟩ : ∃ y : Int32, y = y3 + 6 := ⟨_, rfl⟩
    have hF := hF z7 ez7
    refine lg_iinc (pc := 1426) (v := z7) (lv2 := [(3, .int z7), (0, .ref (lg_b X)), (1, .ref a), (2, .ref a2)]) C dL_law_1426 3 rfl (by rw [ez7]; rfl) (by decide) rfl ?_
    refine lg_sub (lv2 := [(0, .ref (lg_b X)), (1, .ref a), (2, .ref a2), (3, .int z7)]) [1, 2, 3, 0] rfl ?_
    refine lg_goto (pc := 1429) 18 C dL_law_1429 (by decide) ?_
    exact hF
  · have hF := hF.2 hc
    exact hF.elim
def wp_law_16 (X : lg_X) (a : Nat) (R : Int32 → Nat → Nat → xg_Y → xg_H → mg_H → Prop) (y3 : Int32) (k n : Nat) (Y : xg_Y) (h : xg_H) (g : mg_H) : Prop :=
  vp_in (y3 + 1) (lg_L X) ∧ (vp_in (y3 + 2) (lg_L X) ∧ (vp_in (y3 + 3) (lg_L X) ∧ (((((lg_xs X (y3 + 3).toNatClampNeg) = 0) → xg_is Y a 11 ∧ ∃ mc3 ms3 : Nat, (k + mc3 ≤ 600000 ∧ n + ms3 ≤ 7302250) ∧ wp_X11_luck mc3 ms3 Y (fun r1 Y4 h2 => vp_in (y3 + 1) (lg_L X) ∧ (vp_in (y3 + 2) (lg_L X) ∧ (vp_in (y3 + 3) (lg_L X) ∧ (((((lg_xs X (y3 + 3).toNatClampNeg) = 0) → ((k + mc3) ≤ 600000 ∧ (n + ms3) ≤ 7302250) ∧ wp_luck (fun r5 g6 => ((((lg_cmp r1 r5) = 0) → ∀ z7 : Int32, z7 = y3 + 6 → R z7 (k + mc3) (n + ms3) Y4 h2 g6) ∧ ((¬ (lg_cmp r1 r5) = 0) → False))) (lg_xs X (y3 + 1).toNatClampNeg) (lg_xs X (y3 + 2).toNatClampNeg) 0 g) ∧ ((¬ (lg_xs X (y3 + 3).toNatClampNeg) = 0) → ((k + mc3) ≤ 600000 ∧ (n + ms3) ≤ 7302250) ∧ wp_luck (fun r8 g9 => ((((lg_cmp r1 r8) = 0) → ∀ z10 : Int32, z10 = y3 + 6 → R z10 (k + mc3) (n + ms3) Y4 h2 g9) ∧ ((¬ (lg_cmp r1 r8) = 0) → False))) (lg_xs X (y3 + 1).toNatClampNeg) (lg_xs X (y3 + 2).toNatClampNeg) 1 g)))))) a (lg_xs X (y3 + 1).toNatClampNeg) (lg_xs X (y3 + 2).toNatClampNeg) 0 h) ∧ ((¬ (lg_xs X (y3 + 3).toNatClampNeg) = 0) → xg_is Y a 11 ∧ ∃ mc13 ms13 : Nat, (k + mc13 ≤ 600000 ∧ n + ms13 ≤ 7302250) ∧ wp_X11_luck mc13 ms13 Y (fun r11 Y14 h12 => vp_in (y3 + 1) (lg_L X) ∧ (vp_in (y3 + 2) (lg_L X) ∧ (vp_in (y3 + 3) (lg_L X) ∧ (((((lg_xs X (y3 + 3).toNatClampNeg) = 0) → ((k + mc13) ≤ 600000 ∧ (n + ms13) ≤ 7302250) ∧ wp_luck (fun r15 g16 => ((((lg_cmp r11 r15) = 0) → ∀ z17 : Int32, z17 = y3 + 6 → R z17 (k + mc13) (n + ms13) Y14 h12 g16) ∧ ((¬ (lg_cmp r11 r15) = 0) → False))) (lg_xs X (y3 + 1).toNatClampNeg) (lg_xs X (y3 + 2).toNatClampNeg) 0 g) ∧ ((¬ (lg_xs X (y3 + 3).toNatClampNeg) = 0) → ((k + mc13) ≤ 600000 ∧ (n + ms13) ≤ 7302250) ∧ wp_luck (fun r18 g19 => ((((lg_cmp r11 r18) = 0) → ∀ z20 : Int32, z20 = y3 + 6 → R z20 (k + mc13) (n + ms13) Y14 h12 g19) ∧ ((¬ (lg_cmp r11 r18) = 0) → False))) (lg_xs X (y3 + 1).toNatClampNeg) (lg_xs X (y3 + 2).toNatClampNeg) 1 g)))))) a (lg_xs X (y3 + 1).toNatClampNeg) (lg_xs X (y3 + 2).toNatClampNeg) 1 h)))))
set_option maxHeartbeats 4000000 in
set_option maxRecDepth 100000 in
theorem met_law_16 (X : lg_X) (C : lg_ok X) (a a2 : Nat) (y3 : Int32) (k n : Nat) (Y : xg_Y) (h : xg_H) (g : mg_H) (hF : wp_law_16 X a (fun (y3 : Int32) (k n : Nat) (Y : xg_Y) (h : xg_H) (g : mg_H) => lg_W X a2 k n 18 [(0, .ref (lg_b X)), (1, .ref a), (2, .ref a2), (3, .int y3)] [] (Y, h, g)) y3 k n Y h g) : lg_W X a2 k n 786 [(0, .ref (lg_b X)), (1, .ref a), (2, .ref a2), (3, .int y3)] [] (Y, h, g) := by
  unfold wp_law_16 at hF
  refine lg_aload_n (pc := 786) C dL_law_786 1 rfl ?_
  refine lg_aload_n (pc := 787) C dL_law_787 0 rfl ?_
  refine lg_iload_n (pc := 788) C dL_law_788 3 rfl ?_
  refine lg_iconst (pc := 789) (v := 1) C dL_law_789 (by decide) ?_
  refine lg_iadd (pc := 790) C dL_law_790 ?_
  obtain ⟨hi, hF⟩ := hF
  refine lg_sld (pc := 791) C hi dL_law_791 ?_
  refine lg_aload_n (pc := 792) C dL_law_792 0 rfl ?_
  refine lg_iload_n (pc := 793) C dL_law_793 3 rfl ?_
  refine lg_iconst (pc := 794) (v := 2) C dL_law_794 (by decide) ?_
  refine lg_iadd (pc := 795) C dL_law_795 ?_
  obtain ⟨hi, hF⟩ := hF
  refine lg_sld (pc := 796) C hi dL_law_796 ?_
  refine lg_aload_n (pc := 797) C dL_law_797 0 rfl ?_
  refine lg_iload_n (pc := 798) C dL_law_798 3 rfl ?_
  refine lg_iconst (pc := 799) (v := 3) C dL_law_799 (by decide) ?_
  refine lg_iadd (pc := 800) C dL_law_800 ?_
  obtain ⟨hi, hF⟩ := hF
  refine lg_sld (pc := 801) C hi dL_law_801 ?_
  refine lg_if_eq (pc := 802) 809 C dL_law_802 (by decide) (fun hc => ?_) (fun hc => ?_)
  · have hF := hF.1 hc
    refine lg_iconst (pc := 809) (v := 0) C dL_law_809 (by decide) ?_
    obtain ⟨hk, mc3, ms3, hfit, hF⟩ := hF
    refine lg_xvL (pc := 810) C [.int (lg_xs X (y3 + 1).toNatClampNeg), .int (lg_xs X (y3 + 2).toNatClampNeg), .int 0] hk (met_X11_luck mc3 ms3 Y a (lg_xs X (y3 + 1).toNatClampNeg) (lg_xs X (y3 + 2).toNatClampNeg) 0 ) gL_law_X11_luck rfl nd_X11_luck ⟨Nat.le_of_ble_eq_true rfl, Nat.le_of_ble_eq_true rfl⟩ rfl rfl (Nat.le_of_ble_eq_true rfl) hfit dL_law_810 hF (fun r1 Y4 h2 hF => ?_)
    refine lg_aload_n (pc := 813) C dL_law_813 2 rfl ?_
    refine lg_aload_n (pc := 814) C dL_law_814 0 rfl ?_
    refine lg_iload_n (pc := 815) C dL_law_815 3 rfl ?_
    refine lg_iconst (pc := 816) (v := 1) C dL_law_816 (by decide) ?_
    refine lg_iadd (pc := 817) C dL_law_817 ?_
    obtain ⟨hi, hF⟩ := hF
    refine lg_sld (pc := 818) C hi dL_law_818 ?_
    refine lg_aload_n (pc := 819) C dL_law_819 0 rfl ?_
    refine lg_iload_n (pc := 820) C dL_law_820 3 rfl ?_
    refine lg_iconst (pc := 821) (v := 2) C dL_law_821 (by decide) ?_
    refine lg_iadd (pc := 822) C dL_law_822 ?_
    obtain ⟨hi, hF⟩ := hF
    refine lg_sld (pc := 823) C hi dL_law_823 ?_
    refine lg_aload_n (pc := 824) C dL_law_824 0 rfl ?_
    refine lg_iload_n (pc := 825) C dL_law_825 3 rfl ?_
    refine lg_iconst (pc := 826) (v := 3) C dL_law_826 (by decide) ?_
    refine lg_iadd (pc := 827) C dL_law_827 ?_
    obtain ⟨hi, hF⟩ := hF
    refine lg_sld (pc := 828) C hi dL_law_828 ?_
    refine lg_if_eq (pc := 829) 836 C dL_law_829 (by decide) (fun hc => ?_) (fun hc => ?_)
    · have hF := hF.1 hc
      refine lg_iconst (pc := 836) (v := 0) C dL_law_836 (by decide) ?_
      obtain ⟨hfit, hF⟩ := hF
      refine lg_mL (pc := 837) C [.int (lg_xs X (y3 + 1).toNatClampNeg), .int (lg_xs X (y3 + 2).toNatClampNeg), .int 0] (met_luck (lg_xs X (y3 + 1).toNatClampNeg) (lg_xs X (y3 + 2).toNatClampNeg) 0 ) gL_law_X12_luck rfl ⟨rfl, rfl⟩ nd_luck ⟨Nat.le_of_ble_eq_true rfl, Nat.le_of_ble_eq_true rfl⟩ rfl rfl (Nat.le_of_ble_eq_true rfl) hfit dL_law_837 hF (fun r5 g6 hF => ?_)
      refine lg_lcmp (pc := 840) C dL_law_840 ?_
      refine lg_if_eq (pc := 841) 1426 C dL_law_841 (by decide) (fun hc => ?_) (fun hc => ?_)
      · have hF := hF.1 hc
        obtain ⟨z7, ez7⟩ : ∃ y : Int32, y = y3 + 6 := ⟨_, rfl⟩
        have hF := hF z7 ez7
        refine lg_iinc (pc := 1426) (v := z7) (lv2 := [(3, .int z7), (0, .ref (lg_b X)), (1, .ref a), (2, .ref a2)]) C dL_law_1426 3 rfl (by rw [ez7]; rfl) (by decide) rfl ?_
        refine lg_sub (lv2 := [(0, .ref (lg_b X)), (1, .ref a), (2, .ref a2), (3, .int z7)]) [1, 2, 3, 0] rfl ?_
        refine lg_goto (pc := 1429) 18 C dL_law_1429 (by decide) ?_
        exact hF
      · have hF := hF.2 hc
        exact hF.elim
    · have hF := hF.2 hc
      refine lg_iconst (pc := 832) (v := 1) C dL_law_832 (by decide) ?_
      refine lg_goto (pc := 833) 837 C dL_law_833 (by decide) ?_
      obtain ⟨hfit, hF⟩ := hF
      refine lg_mL (pc := 837) C [.int (lg_xs X (y3 + 1).toNatClampNeg), .int (lg_xs X (y3 + 2).toNatClampNeg), .int 1] (met_luck (lg_xs X (y3 + 1).toNatClampNeg) (lg_xs X (y3 + 2).toNatClampNeg) 1 ) gL_law_X12_luck rfl ⟨rfl, rfl⟩ nd_luck ⟨Nat.le_of_ble_eq_true rfl, Nat.le_of_ble_eq_true rfl⟩ rfl rfl (Nat.le_of_ble_eq_true rfl) hfit dL_law_837 hF (fun r8 g9 hF => ?_)
      refine lg_lcmp (pc := 840) C dL_law_840 ?_
      refine lg_if_eq (pc := 841) 1426 C dL_law_841 (by decide) (fun hc => ?_) (fun hc => ?_)
      · have hF := hF.1 hc
        obtain ⟨z10, ez10⟩ : ∃ y : Int32, y = y3 + 6 := ⟨_, rfl⟩
        have hF := hF z10 ez10
        refine lg_iinc (pc := 1426) (v := z10) (lv2 := [(3, .int z10), (0, .ref (lg_b X)), (1, .ref a), (2, .ref a2)]) C dL_law_1426 3 rfl (by rw [ez10]; rfl) (by decide) rfl ?_
        refine lg_sub (lv2 := [(0, .ref (lg_b X)), (1, .ref a), (2, .ref a2), (3, .int z10)]) [1, 2, 3, 0] rfl ?_
        refine lg_goto (pc := 1429) 18 C dL_law_1429 (by decide) ?_
        exact hF
      · have hF := hF.2 hc
        exact hF.elim
  · have hF := hF.2 hc
    refine lg_iconst (pc := 805) (v := 1) C dL_law_805 (by decide) ?_
    refine lg_goto (pc := 806) 810 C dL_law_806 (by decide) ?_
    obtain ⟨hk, mc13, ms13, hfit, hF⟩ := hF
    refine lg_xvL (pc := 810) C [.int (lg_xs X (y3 + 1).toNatClampNeg), .int (lg_xs X (y3 + 2).toNatClampNeg), .int 1] hk (met_X11_luck mc13 ms13 Y a (lg_xs X (y3 + 1).toNatClampNeg) (lg_xs X (y3 + 2).toNatClampNeg) 1 ) gL_law_X11_luck rfl nd_X11_luck ⟨Nat.le_of_ble_eq_true rfl, Nat.le_of_ble_eq_true rfl⟩ rfl rfl (Nat.le_of_ble_eq_true rfl) hfit dL_law_810 hF (fun r11 Y14 h12 hF => ?_)
    refine lg_aload_n (pc := 813) C dL_law_813 2 rfl ?_
    refine lg_aload_n (pc := 814) C dL_law_814 0 rfl ?_
    refine lg_iload_n (pc := 815) C dL_law_815 3 rfl ?_
    refine lg_iconst (pc := 816) (v := 1) C dL_law_816 (by decide) ?_
    refine lg_iadd (pc := 817) C dL_law_817 ?_
    obtain ⟨hi, hF⟩ := hF
    refine lg_sld (pc := 818) C hi dL_law_818 ?_
    refine lg_aload_n (pc := 819) C dL_law_819 0 rfl ?_
    refine lg_iload_n (pc := 820) C dL_law_820 3 rfl ?_
    refine lg_iconst (pc := 821) (v := 2) C dL_law_821 (by decide) ?_
    refine lg_iadd (pc := 822) C dL_law_822 ?_
    obtain ⟨hi, hF⟩ := hF
    refine lg_sld (pc := 823) C hi dL_law_823 ?_
    refine lg_aload_n (pc := 824) C dL_law_824 0 rfl ?_
    refine lg_iload_n (pc := 825) C dL_law_825 3 rfl ?_
    refine lg_iconst (pc := 826) (v := 3) C dL_law_826 (by decide) ?_
    refine lg_iadd (pc := 827) C dL_law_827 ?_
    obtain ⟨hi, hF⟩ := hF
    refine lg_sld (pc := 828) C hi dL_law_828 ?_
    refine lg_if_eq (pc := 829) 836 C dL_law_829 (by decide) (fun hc => ?_) (fun hc => ?_)
    · have hF := hF.1 hc
      refine lg_iconst (pc := 836) (v := 0) C dL_law_836 (by decide) ?_
      obtain ⟨hfit, hF⟩ := hF
      refine lg_mL (pc := 837) C [.int (lg_xs X (y3 + 1).toNatClampNeg), .int (lg_xs X (y3 + 2).toNatClampNeg), .int 0] (met_luck (lg_xs X (y3 + 1).toNatClampNeg) (lg_xs X (y3 + 2).toNatClampNeg) 0 ) gL_law_X12_luck rfl ⟨rfl, rfl⟩ nd_luck ⟨Nat.le_of_ble_eq_true rfl, Nat.le_of_ble_eq_true rfl⟩ rfl rfl (Nat.le_of_ble_eq_true rfl) hfit dL_law_837 hF (fun r15 g16 hF => ?_)
      refine lg_lcmp (pc := 840) C dL_law_840 ?_
      refine lg_if_eq (pc := 841) 1426 C dL_law_841 (by decide) (fun hc => ?_) (fun hc => ?_)
      · have hF := hF.1 hc
        obtain ⟨z17, ez17⟩ : ∃ y : Int32, y = y3 + 6 := ⟨_, rfl⟩
        have hF := hF z17 ez17
        refine lg_iinc (pc := 1426) (v := z17) (lv2 := [(3, .int z17), (0, .ref (lg_b X)), (1, .ref a), (2, .ref a2)]) C dL_law_1426 3 rfl (by rw [ez17]; rfl) (by decide) rfl ?_
        refine lg_sub (lv2 := [(0, .ref (lg_b X)), (1, .ref a), (2, .ref a2), (3, .int z17)]) [1, 2, 3, 0] rfl ?_
        refine lg_goto (pc := 1429) 18 C dL_law_1429 (by decide) ?_
        exact hF
      · have hF := hF.2 hc
        exact hF.elim
    · have hF := hF.2 hc
      refine lg_iconst (pc := 832) (v := 1) C dL_law_832 (by decide) ?_
      refine lg_goto (pc := 833) 837 C dL_law_833 (by decide) ?_
      obtain ⟨hfit, hF⟩ := hF
      refine lg_mL (pc := 837) C [.int (lg_xs X (y3 + 1).toNatClampNeg), .int (lg_xs X (y3 + 2).toNatClampNeg), .int 1] (met_luck (lg_xs X (y3 + 1).toNatClampNeg) (lg_xs X (y3 + 2).toNatClampNeg) 1 ) gL_law_X12_luck rfl ⟨rfl, rfl⟩ nd_luck ⟨Nat.le_of_ble_eq_true rfl, Nat.le_of_ble_eq_true rfl⟩ rfl rfl (Nat.le_of_ble_eq_true rfl) hfit dL_law_837 hF (fun r18 g19 hF => ?_)
      refine lg_lcmp (pc := 840) C dL_law_840 ?_
      refine lg_if_eq (pc := 841) 1426 C dL_law_841 (by decide) (fun hc => ?_) (fun hc => ?_)
      · have hF := hF.1 hc
        obtain ⟨z20, ez20⟩ : ∃ y : Int32, y = y3 + 6 := ⟨_, rfl⟩
        have hF := hF z20 ez20
        refine lg_iinc (pc := 1426) (v := z20) (lv2 := [(3, .int z20), (0, .ref (lg_b X)), (1, .ref a), (2, .ref a2)]) C dL_law_1426 3 rfl (by rw [ez20]; rfl) (by decide) rfl ?_
        refine lg_sub (lv2 := [(0, .ref (lg_b X)), (1, .ref a), (2, .ref a2), (3, .int z20)]) [1, 2, 3, 0] rfl ?_
        refine lg_goto (pc := 1429) 18 C dL_law_1429 (by decide) ?_
        exact hF
      · have hF := hF.2 hc
        exact hF.elim
def wp_law_17 (X : lg_X) (a : Nat) (R : Int32 → Nat → Nat → xg_Y → xg_H → mg_H → Prop) (y3 : Int32) (k n : Nat) (Y : xg_Y) (h : xg_H) (g : mg_H) : Prop :=
  vp_in (y3 + 1) (lg_L X) ∧ (vp_in (y3 + 2) (lg_L X) ∧ (vp_in (y3 + 3) (lg_L X) ∧ (((((lg_xs X (y3 + 3).toNatClampNeg) = 0) → xg_is Y a 11 ∧ (k ≤ 600000 ∧ n ≤ 7302250) ∧ wp_X11_duel Y (fun r1 h2 => vp_in (y3 + 1) (lg_L X) ∧ (vp_in (y3 + 2) (lg_L X) ∧ (vp_in (y3 + 3) (lg_L X) ∧ (((((lg_xs X (y3 + 3).toNatClampNeg) = 0) → (k ≤ 600000 ∧ n ≤ 7302250) ∧ wp_duel (fun r3 g4 => (((r1 = r3) → ∀ z5 : Int32, z5 = y3 + 6 → R z5 k n Y h2 g4) ∧ ((¬ r1 = r3) → False))) (lg_xs X (y3 + 1).toNatClampNeg) (lg_xs X (y3 + 2).toNatClampNeg) 0 g) ∧ ((¬ (lg_xs X (y3 + 3).toNatClampNeg) = 0) → (k ≤ 600000 ∧ n ≤ 7302250) ∧ wp_duel (fun r6 g7 => (((r1 = r6) → ∀ z8 : Int32, z8 = y3 + 6 → R z8 k n Y h2 g7) ∧ ((¬ r1 = r6) → False))) (lg_xs X (y3 + 1).toNatClampNeg) (lg_xs X (y3 + 2).toNatClampNeg) 1 g)))))) a (lg_xs X (y3 + 1).toNatClampNeg) (lg_xs X (y3 + 2).toNatClampNeg) 0 h) ∧ ((¬ (lg_xs X (y3 + 3).toNatClampNeg) = 0) → xg_is Y a 11 ∧ (k ≤ 600000 ∧ n ≤ 7302250) ∧ wp_X11_duel Y (fun r9 h10 => vp_in (y3 + 1) (lg_L X) ∧ (vp_in (y3 + 2) (lg_L X) ∧ (vp_in (y3 + 3) (lg_L X) ∧ (((((lg_xs X (y3 + 3).toNatClampNeg) = 0) → (k ≤ 600000 ∧ n ≤ 7302250) ∧ wp_duel (fun r11 g12 => (((r9 = r11) → ∀ z13 : Int32, z13 = y3 + 6 → R z13 k n Y h10 g12) ∧ ((¬ r9 = r11) → False))) (lg_xs X (y3 + 1).toNatClampNeg) (lg_xs X (y3 + 2).toNatClampNeg) 0 g) ∧ ((¬ (lg_xs X (y3 + 3).toNatClampNeg) = 0) → (k ≤ 600000 ∧ n ≤ 7302250) ∧ wp_duel (fun r14 g15 => (((r9 = r14) → ∀ z16 : Int32, z16 = y3 + 6 → R z16 k n Y h10 g15) ∧ ((¬ r9 = r14) → False))) (lg_xs X (y3 + 1).toNatClampNeg) (lg_xs X (y3 + 2).toNatClampNeg) 1 g)))))) a (lg_xs X (y3 + 1).toNatClampNeg) (lg_xs X (y3 + 2).toNatClampNeg) 1 h)))))
set_option maxHeartbeats 4000000 in
set_option maxRecDepth 100000 in
theorem met_law_17 (X : lg_X) (C : lg_ok X) (a a2 : Nat) (y3 : Int32) (k n : Nat) (Y : xg_Y) (h : xg_H) (g : mg_H) (hF : wp_law_17 X a (fun (y3 : Int32) (k n : Nat) (Y : xg_Y) (h : xg_H) (g : mg_H) => lg_W X a2 k n 18 [(0, .ref (lg_b X)), (1, .ref a), (2, .ref a2), (3, .int y3)] [] (Y, h, g)) y3 k n Y h g) : lg_W X a2 k n 846 [(0, .ref (lg_b X)), (1, .ref a), (2, .ref a2), (3, .int y3)] [] (Y, h, g) := by
  unfold wp_law_17 at hF
  refine lg_aload_n (pc := 846) C dL_law_846 1 rfl ?_
  refine lg_aload_n (pc := 847) C dL_law_847 0 rfl ?_
  refine lg_iload_n (pc := 848) C dL_law_848 3 rfl ?_
  refine lg_iconst (pc := 849) (v := 1) C dL_law_849 (by decide) ?_
  refine lg_iadd (pc := 850) C dL_law_850 ?_
  obtain ⟨hi, hF⟩ := hF
  refine lg_sld (pc := 851) C hi dL_law_851 ?_
  refine lg_aload_n (pc := 852) C dL_law_852 0 rfl ?_
  refine lg_iload_n (pc := 853) C dL_law_853 3 rfl ?_
  refine lg_iconst (pc := 854) (v := 2) C dL_law_854 (by decide) ?_
  refine lg_iadd (pc := 855) C dL_law_855 ?_
  obtain ⟨hi, hF⟩ := hF
  refine lg_sld (pc := 856) C hi dL_law_856 ?_
  refine lg_aload_n (pc := 857) C dL_law_857 0 rfl ?_
  refine lg_iload_n (pc := 858) C dL_law_858 3 rfl ?_
  refine lg_iconst (pc := 859) (v := 3) C dL_law_859 (by decide) ?_
  refine lg_iadd (pc := 860) C dL_law_860 ?_
  obtain ⟨hi, hF⟩ := hF
  refine lg_sld (pc := 861) C hi dL_law_861 ?_
  refine lg_if_eq (pc := 862) 869 C dL_law_862 (by decide) (fun hc => ?_) (fun hc => ?_)
  · have hF := hF.1 hc
    refine lg_iconst (pc := 869) (v := 0) C dL_law_869 (by decide) ?_
    obtain ⟨hk, hfit, hF⟩ := hF
    refine lg_xfI (pc := 870) C [.int (lg_xs X (y3 + 1).toNatClampNeg), .int (lg_xs X (y3 + 2).toNatClampNeg), .int 0] hk (met_X11_duel Y a (lg_xs X (y3 + 1).toNatClampNeg) (lg_xs X (y3 + 2).toNatClampNeg) 0 ) gL_law_X11_duel rfl ⟨rfl, rfl⟩ nd_X11_duel ⟨Nat.le_of_ble_eq_true rfl, Nat.le_of_ble_eq_true rfl⟩ rfl rfl (Nat.le_of_ble_eq_true rfl) hfit dL_law_870 hF (fun r1 h2 hF => ?_)
    refine lg_aload_n (pc := 873) C dL_law_873 2 rfl ?_
    refine lg_aload_n (pc := 874) C dL_law_874 0 rfl ?_
    refine lg_iload_n (pc := 875) C dL_law_875 3 rfl ?_
    refine lg_iconst (pc := 876) (v := 1) C dL_law_876 (by decide) ?_
    refine lg_iadd (pc := 877) C dL_law_877 ?_
    obtain ⟨hi, hF⟩ := hF
    refine lg_sld (pc := 878) C hi dL_law_878 ?_
    refine lg_aload_n (pc := 879) C dL_law_879 0 rfl ?_
    refine lg_iload_n (pc := 880) C dL_law_880 3 rfl ?_
    refine lg_iconst (pc := 881) (v := 2) C dL_law_881 (by decide) ?_
    refine lg_iadd (pc := 882) C dL_law_882 ?_
    obtain ⟨hi, hF⟩ := hF
    refine lg_sld (pc := 883) C hi dL_law_883 ?_
    refine lg_aload_n (pc := 884) C dL_law_884 0 rfl ?_
    refine lg_iload_n (pc := 885) C dL_law_885 3 rfl ?_
    refine lg_iconst (pc := 886) (v := 3) C dL_law_886 (by decide) ?_
    refine lg_iadd (pc := 887) C dL_law_887 ?_
    obtain ⟨hi, hF⟩ := hF
    refine lg_sld (pc := 888) C hi dL_law_888 ?_
    refine lg_if_eq (pc := 889) 896 C dL_law_889 (by decide) (fun hc => ?_) (fun hc => ?_)
    · have hF := hF.1 hc
      refine lg_iconst (pc := 896) (v := 0) C dL_law_896 (by decide) ?_
      obtain ⟨hfit, hF⟩ := hF
      refine lg_mI (pc := 897) C [.int (lg_xs X (y3 + 1).toNatClampNeg), .int (lg_xs X (y3 + 2).toNatClampNeg), .int 0] (met_duel (lg_xs X (y3 + 1).toNatClampNeg) (lg_xs X (y3 + 2).toNatClampNeg) 0 ) gL_law_X12_duel rfl ⟨rfl, rfl⟩ nd_duel ⟨Nat.le_of_ble_eq_true rfl, Nat.le_of_ble_eq_true rfl⟩ rfl rfl (Nat.le_of_ble_eq_true rfl) hfit dL_law_897 hF (fun r3 g4 hF => ?_)
      refine lg_icmp_eq (pc := 900) 1426 C dL_law_900 (by decide) (fun hc => ?_) (fun hc => ?_)
      · have hF := hF.1 hc
        obtain ⟨z5, ez5⟩ : ∃ y : Int32, y = y3 + 6 := ⟨_, rfl⟩
        have hF := hF z5 ez5
        refine lg_iinc (pc := 1426) (v := z5) (lv2 := [(3, .int z5), (0, .ref (lg_b X)), (1, .ref a), (2, .ref a2)]) C dL_law_1426 3 rfl (by rw [ez5]; rfl) (by decide) rfl ?_
        refine lg_sub (lv2 := [(0, .ref (lg_b X)), (1, .ref a), (2, .ref a2), (3, .int z5)]) [1, 2, 3, 0] rfl ?_
        refine lg_goto (pc := 1429) 18 C dL_law_1429 (by decide) ?_
        exact hF
      · have hF := hF.2 hc
        exact hF.elim
    · have hF := hF.2 hc
      refine lg_iconst (pc := 892) (v := 1) C dL_law_892 (by decide) ?_
      refine lg_goto (pc := 893) 897 C dL_law_893 (by decide) ?_
      obtain ⟨hfit, hF⟩ := hF
      refine lg_mI (pc := 897) C [.int (lg_xs X (y3 + 1).toNatClampNeg), .int (lg_xs X (y3 + 2).toNatClampNeg), .int 1] (met_duel (lg_xs X (y3 + 1).toNatClampNeg) (lg_xs X (y3 + 2).toNatClampNeg) 1 ) gL_law_X12_duel rfl ⟨rfl, rfl⟩ nd_duel ⟨Nat.le_of_ble_eq_true rfl, Nat.le_of_ble_eq_true rfl⟩ rfl rfl (Nat.le_of_ble_eq_true rfl) hfit dL_law_897 hF (fun r6 g7 hF => ?_)
      refine lg_icmp_eq (pc := 900) 1426 C dL_law_900 (by decide) (fun hc => ?_) (fun hc => ?_)
      · have hF := hF.1 hc
        obtain ⟨z8, ez8⟩ : ∃ y : Int32, y = y3 + 6 := ⟨_, rfl⟩
        have hF := hF z8 ez8
        refine lg_iinc (pc := 1426) (v := z8) (lv2 := [(3, .int z8), (0, .ref (lg_b X)), (1, .ref a), (2, .ref a2)]) C dL_law_1426 3 rfl (by rw [ez8]; rfl) (by decide) rfl ?_
        refine lg_sub (lv2 := [(0, .ref (lg_b X)), (1, .ref a), (2, .ref a2), (3, .int z8)]) [1, 2, 3, 0] rfl ?_
        refine lg_goto (pc := 1429) 18 C dL_law_1429 (by decide) ?_
        exact hF
      · have hF := hF.2 hc
        exact hF.elim
  · have hF := hF.2 hc
    refine lg_iconst (pc := 865) (v := 1) C dL_law_865 (by decide) ?_
    refine lg_goto (pc := 866) 870 C dL_law_866 (by decide) ?_
    obtain ⟨hk, hfit, hF⟩ := hF
    refine lg_xfI (pc := 870) C [.int (lg_xs X (y3 + 1).toNatClampNeg), .int (lg_xs X (y3 + 2).toNatClampNeg), .int 1] hk (met_X11_duel Y a (lg_xs X (y3 + 1).toNatClampNeg) (lg_xs X (y3 + 2).toNatClampNeg) 1 ) gL_law_X11_duel rfl ⟨rfl, rfl⟩ nd_X11_duel ⟨Nat.le_of_ble_eq_true rfl, Nat.le_of_ble_eq_true rfl⟩ rfl rfl (Nat.le_of_ble_eq_true rfl) hfit dL_law_870 hF (fun r9 h10 hF => ?_)
    refine lg_aload_n (pc := 873) C dL_law_873 2 rfl ?_
    refine lg_aload_n (pc := 874) C dL_law_874 0 rfl ?_
    refine lg_iload_n (pc := 875) C dL_law_875 3 rfl ?_
    refine lg_iconst (pc := 876) (v := 1) C dL_law_876 (by decide) ?_
    refine lg_iadd (pc := 877) C dL_law_877 ?_
    obtain ⟨hi, hF⟩ := hF
    refine lg_sld (pc := 878) C hi dL_law_878 ?_
    refine lg_aload_n (pc := 879) C dL_law_879 0 rfl ?_
    refine lg_iload_n (pc := 880) C dL_law_880 3 rfl ?_
    refine lg_iconst (pc := 881) (v := 2) C dL_law_881 (by decide) ?_
    refine lg_iadd (pc := 882) C dL_law_882 ?_
    obtain ⟨hi, hF⟩ := hF
    refine lg_sld (pc := 883) C hi dL_law_883 ?_
    refine lg_aload_n (pc := 884) C dL_law_884 0 rfl ?_
    refine lg_iload_n (pc := 885) C dL_law_885 3 rfl ?_
    refine lg_iconst (pc := 886) (v := 3) C dL_law_886 (by decide) ?_
    refine lg_iadd (pc := 887) C dL_law_887 ?_
    obtain ⟨hi, hF⟩ := hF
    refine lg_sld (pc := 888) C hi dL_law_888 ?_
    refine lg_if_eq (pc := 889) 896 C dL_law_889 (by decide) (fun hc => ?_) (fun hc => ?_)
    · have hF := hF.1 hc
      refine lg_iconst (pc := 896) (v := 0) C dL_law_896 (by decide) ?_
      obtain ⟨hfit, hF⟩ := hF
      refine lg_mI (pc := 897) C [.int (lg_xs X (y3 + 1).toNatClampNeg), .int (lg_xs X (y3 + 2).toNatClampNeg), .int 0] (met_duel (lg_xs X (y3 + 1).toNatClampNeg) (lg_xs X (y3 + 2).toNatClampNeg) 0 ) gL_law_X12_duel rfl ⟨rfl, rfl⟩ nd_duel ⟨Nat.le_of_ble_eq_true rfl, Nat.le_of_ble_eq_true rfl⟩ rfl rfl (Nat.le_of_ble_eq_true rfl) hfit dL_law_897 hF (fun r11 g12 hF => ?_)
      refine lg_icmp_eq (pc := 900) 1426 C dL_law_900 (by decide) (fun hc => ?_) (fun hc => ?_)
      · have hF := hF.1 hc
        obtain ⟨z13, ez13⟩ : ∃ y : Int32, y = y3 + 6 := ⟨_, rfl⟩
        have hF := hF z13 ez13
        refine lg_iinc (pc := 1426) (v := z13) (lv2 := [(3, .int z13), (0, .ref (lg_b X)), (1, .ref a), (2, .ref a2)]) C dL_law_1426 3 rfl (by rw [ez13]; rfl) (by decide) rfl ?_
        refine lg_sub (lv2 := [(0, .ref (lg_b X)), (1, .ref a), (2, .ref a2), (3, .int z13)]) [1, 2, 3, 0] rfl ?_
        refine lg_goto (pc := 1429) 18 C dL_law_1429 (by decide) ?_
        exact hF
      · have hF := hF.2 hc
        exact hF.elim
    · have hF := hF.2 hc
      refine lg_iconst (pc := 892) (v := 1) C dL_law_892 (by decide) ?_
      refine lg_goto (pc := 893) 897 C dL_law_893 (by decide) ?_
      obtain ⟨hfit, hF⟩ := hF
      refine lg_mI (pc := 897) C [.int (lg_xs X (y3 + 1).toNatClampNeg), .int (lg_xs X (y3 + 2).toNatClampNeg), .int 1] (met_duel (lg_xs X (y3 + 1).toNatClampNeg) (lg_xs X (y3 + 2).toNatClampNeg) 1 ) gL_law_X12_duel rfl ⟨rfl, rfl⟩ nd_duel ⟨Nat.le_of_ble_eq_true rfl, Nat.le_of_ble_eq_true rfl⟩ rfl rfl (Nat.le_of_ble_eq_true rfl) hfit dL_law_897 hF (fun r14 g15 hF => ?_)
      refine lg_icmp_eq (pc := 900) 1426 C dL_law_900 (by decide) (fun hc => ?_) (fun hc => ?_)
      · have hF := hF.1 hc
        obtain ⟨z16, ez16⟩ : ∃ y : Int32, y = y3 + 6 := ⟨_, rfl⟩
        have hF := hF z16 ez16
        refine lg_iinc (pc := 1426) (v := z16) (lv2 := [(3, .int z16), (0, .ref (lg_b X)), (1, .ref a), (2, .ref a2)]) C dL_law_1426 3 rfl (by rw [ez16]; rfl) (by decide) rfl ?_
        refine lg_sub (lv2 := [(0, .ref (lg_b X)), (1, .ref a), (2, .ref a2), (3, .int z16)]) [1, 2, 3, 0] rfl ?_
        refine lg_goto (pc := 1429) 18 C dL_law_1429 (by decide) ?_
        exact hF
      · have hF := hF.2 hc
        exact hF.elim
def wp_law_18 (X : lg_X) (a : Nat) (R : Int32 → Nat → Nat → xg_Y → xg_H → mg_H → Prop) (y3 : Int32) (k n : Nat) (Y : xg_Y) (h : xg_H) (g : mg_H) : Prop :=
  vp_in (y3 + 1) (lg_L X) ∧ (vp_in (y3 + 2) (lg_L X) ∧ (vp_in (y3 + 3) (lg_L X) ∧ (vp_in (y3 + 4) (lg_L X) ∧ (((((lg_xs X (y3 + 4).toNatClampNeg) = 0) → xg_is Y a 11 ∧ (k ≤ 600000 ∧ n ≤ 7302250) ∧ wp_X11_chance Y (fun r1 h2 => vp_in (y3 + 1) (lg_L X) ∧ (vp_in (y3 + 2) (lg_L X) ∧ (vp_in (y3 + 3) (lg_L X) ∧ (vp_in (y3 + 4) (lg_L X) ∧ (((((lg_xs X (y3 + 4).toNatClampNeg) = 0) → (k ≤ 600000 ∧ n ≤ 7302250) ∧ wp_chance (fun r3 g4 => (((r1 = r3) → ∀ z5 : Int32, z5 = y3 + 6 → R z5 k n Y h2 g4) ∧ ((¬ r1 = r3) → False))) (lg_xs X (y3 + 1).toNatClampNeg) (lg_xs X (y3 + 2).toNatClampNeg) (lg_xs X (y3 + 3).toNatClampNeg) 0 g) ∧ ((¬ (lg_xs X (y3 + 4).toNatClampNeg) = 0) → (k ≤ 600000 ∧ n ≤ 7302250) ∧ wp_chance (fun r6 g7 => (((r1 = r6) → ∀ z8 : Int32, z8 = y3 + 6 → R z8 k n Y h2 g7) ∧ ((¬ r1 = r6) → False))) (lg_xs X (y3 + 1).toNatClampNeg) (lg_xs X (y3 + 2).toNatClampNeg) (lg_xs X (y3 + 3).toNatClampNeg) 1 g))))))) a (lg_xs X (y3 + 1).toNatClampNeg) (lg_xs X (y3 + 2).toNatClampNeg) (lg_xs X (y3 + 3).toNatClampNeg) 0 h) ∧ ((¬ (lg_xs X (y3 + 4).toNatClampNeg) = 0) → xg_is Y a 11 ∧ (k ≤ 600000 ∧ n ≤ 7302250) ∧ wp_X11_chance Y (fun r9 h10 => vp_in (y3 + 1) (lg_L X) ∧ (vp_in (y3 + 2) (lg_L X) ∧ (vp_in (y3 + 3) (lg_L X) ∧ (vp_in (y3 + 4) (lg_L X) ∧ (((((lg_xs X (y3 + 4).toNatClampNeg) = 0) → (k ≤ 600000 ∧ n ≤ 7302250) ∧ wp_chance (fun r11 g12 => (((r9 = r11) → ∀ z13 : Int32, z13 = y3 + 6 → R z13 k n Y h10 g12) ∧ ((¬ r9 = r11) → False))) (lg_xs X (y3 + 1).toNatClampNeg) (lg_xs X (y3 + 2).toNatClampNeg) (lg_xs X (y3 + 3).toNatClampNeg) 0 g) ∧ ((¬ (lg_xs X (y3 + 4).toNatClampNeg) = 0) → (k ≤ 600000 ∧ n ≤ 7302250) ∧ wp_chance (fun r14 g15 => (((r9 = r14) → ∀ z16 : Int32, z16 = y3 + 6 → R z16 k n Y h10 g15) ∧ ((¬ r9 = r14) → False))) (lg_xs X (y3 + 1).toNatClampNeg) (lg_xs X (y3 + 2).toNatClampNeg) (lg_xs X (y3 + 3).toNatClampNeg) 1 g))))))) a (lg_xs X (y3 + 1).toNatClampNeg) (lg_xs X (y3 + 2).toNatClampNeg) (lg_xs X (y3 + 3).toNatClampNeg) 1 h))))))
set_option maxHeartbeats 4000000 in
set_option maxRecDepth 100000 in
theorem met_law_18 (X : lg_X) (C : lg_ok X) (a a2 : Nat) (y3 : Int32) (k n : Nat) (Y : xg_Y) (h : xg_H) (g : mg_H) (hF : wp_law_18 X a (fun (y3 : Int32) (k n : Nat) (Y : xg_Y) (h : xg_H) (g : mg_H) => lg_W X a2 k n 18 [(0, .ref (lg_b X)), (1, .ref a), (2, .ref a2), (3, .int y3)] [] (Y, h, g)) y3 k n Y h g) : lg_W X a2 k n 905 [(0, .ref (lg_b X)), (1, .ref a), (2, .ref a2), (3, .int y3)] [] (Y, h, g) := by
  unfold wp_law_18 at hF
  refine lg_aload_n (pc := 905) C dL_law_905 1 rfl ?_
  refine lg_aload_n (pc := 906) C dL_law_906 0 rfl ?_
  refine lg_iload_n (pc := 907) C dL_law_907 3 rfl ?_
  refine lg_iconst (pc := 908) (v := 1) C dL_law_908 (by decide) ?_
  refine lg_iadd (pc := 909) C dL_law_909 ?_
  obtain ⟨hi, hF⟩ := hF
  refine lg_sld (pc := 910) C hi dL_law_910 ?_
  refine lg_aload_n (pc := 911) C dL_law_911 0 rfl ?_
  refine lg_iload_n (pc := 912) C dL_law_912 3 rfl ?_
  refine lg_iconst (pc := 913) (v := 2) C dL_law_913 (by decide) ?_
  refine lg_iadd (pc := 914) C dL_law_914 ?_
  obtain ⟨hi, hF⟩ := hF
  refine lg_sld (pc := 915) C hi dL_law_915 ?_
  refine lg_aload_n (pc := 916) C dL_law_916 0 rfl ?_
  refine lg_iload_n (pc := 917) C dL_law_917 3 rfl ?_
  refine lg_iconst (pc := 918) (v := 3) C dL_law_918 (by decide) ?_
  refine lg_iadd (pc := 919) C dL_law_919 ?_
  obtain ⟨hi, hF⟩ := hF
  refine lg_sld (pc := 920) C hi dL_law_920 ?_
  refine lg_aload_n (pc := 921) C dL_law_921 0 rfl ?_
  refine lg_iload_n (pc := 922) C dL_law_922 3 rfl ?_
  refine lg_iconst (pc := 923) (v := 4) C dL_law_923 (by decide) ?_
  refine lg_iadd (pc := 924) C dL_law_924 ?_
  obtain ⟨hi, hF⟩ := hF
  refine lg_sld (pc := 925) C hi dL_law_925 ?_
  refine lg_if_eq (pc := 926) 933 C dL_law_926 (by decide) (fun hc => ?_) (fun hc => ?_)
  · have hF := hF.1 hc
    refine lg_iconst (pc := 933) (v := 0) C dL_law_933 (by decide) ?_
    obtain ⟨hk, hfit, hF⟩ := hF
    refine lg_xfI (pc := 934) C [.int (lg_xs X (y3 + 1).toNatClampNeg), .int (lg_xs X (y3 + 2).toNatClampNeg), .int (lg_xs X (y3 + 3).toNatClampNeg), .int 0] hk (met_X11_chance Y a (lg_xs X (y3 + 1).toNatClampNeg) (lg_xs X (y3 + 2).toNatClampNeg) (lg_xs X (y3 + 3).toNatClampNeg) 0 ) gL_law_X11_chance rfl ⟨rfl, rfl⟩ nd_X11_chance ⟨Nat.le_of_ble_eq_true rfl, Nat.le_of_ble_eq_true rfl⟩ rfl rfl (Nat.le_of_ble_eq_true rfl) hfit dL_law_934 hF (fun r1 h2 hF => ?_)
    refine lg_aload_n (pc := 937) C dL_law_937 2 rfl ?_
    refine lg_aload_n (pc := 938) C dL_law_938 0 rfl ?_
    refine lg_iload_n (pc := 939) C dL_law_939 3 rfl ?_
    refine lg_iconst (pc := 940) (v := 1) C dL_law_940 (by decide) ?_
    refine lg_iadd (pc := 941) C dL_law_941 ?_
    obtain ⟨hi, hF⟩ := hF
    refine lg_sld (pc := 942) C hi dL_law_942 ?_
    refine lg_aload_n (pc := 943) C dL_law_943 0 rfl ?_
    refine lg_iload_n (pc := 944) C dL_law_944 3 rfl ?_
    refine lg_iconst (pc := 945) (v := 2) C dL_law_945 (by decide) ?_
    refine lg_iadd (pc := 946) C dL_law_946 ?_
    obtain ⟨hi, hF⟩ := hF
    refine lg_sld (pc := 947) C hi dL_law_947 ?_
    refine lg_aload_n (pc := 948) C dL_law_948 0 rfl ?_
    refine lg_iload_n (pc := 949) C dL_law_949 3 rfl ?_
    refine lg_iconst (pc := 950) (v := 3) C dL_law_950 (by decide) ?_
    refine lg_iadd (pc := 951) C dL_law_951 ?_
    obtain ⟨hi, hF⟩ := hF
    refine lg_sld (pc := 952) C hi dL_law_952 ?_
    refine lg_aload_n (pc := 953) C dL_law_953 0 rfl ?_
    refine lg_iload_n (pc := 954) C dL_law_954 3 rfl ?_
    refine lg_iconst (pc := 955) (v := 4) C dL_law_955 (by decide) ?_
    refine lg_iadd (pc := 956) C dL_law_956 ?_
    obtain ⟨hi, hF⟩ := hF
    refine lg_sld (pc := 957) C hi dL_law_957 ?_
    refine lg_if_eq (pc := 958) 965 C dL_law_958 (by decide) (fun hc => ?_) (fun hc => ?_)
    · have hF := hF.1 hc
      refine lg_iconst (pc := 965) (v := 0) C dL_law_965 (by decide) ?_
      obtain ⟨hfit, hF⟩ := hF
      refine lg_mI (pc := 966) C [.int (lg_xs X (y3 + 1).toNatClampNeg), .int (lg_xs X (y3 + 2).toNatClampNeg), .int (lg_xs X (y3 + 3).toNatClampNeg), .int 0] (met_chance (lg_xs X (y3 + 1).toNatClampNeg) (lg_xs X (y3 + 2).toNatClampNeg) (lg_xs X (y3 + 3).toNatClampNeg) 0 ) gL_law_X12_chance rfl ⟨rfl, rfl⟩ nd_chance ⟨Nat.le_of_ble_eq_true rfl, Nat.le_of_ble_eq_true rfl⟩ rfl rfl (Nat.le_of_ble_eq_true rfl) hfit dL_law_966 hF (fun r3 g4 hF => ?_)
      refine lg_icmp_eq (pc := 969) 1426 C dL_law_969 (by decide) (fun hc => ?_) (fun hc => ?_)
      · have hF := hF.1 hc
        obtain ⟨z5, ez5⟩ : ∃ y : Int32, y = y3 + 6 := ⟨_, rfl⟩
        have hF := hF z5 ez5
        refine lg_iinc (pc := 1426) (v := z5) (lv2 := [(3, .int z5), (0, .ref (lg_b X)), (1, .ref a), (2, .ref a2)]) C dL_law_1426 3 rfl (by rw [ez5]; rfl) (by decide) rfl ?_
        refine lg_sub (lv2 := [(0, .ref (lg_b X)), (1, .ref a), (2, .ref a2), (3, .int z5)]) [1, 2, 3, 0] rfl ?_
        refine lg_goto (pc := 1429) 18 C dL_law_1429 (by decide) ?_
        exact hF
      · have hF := hF.2 hc
        exact hF.elim
    · have hF := hF.2 hc
      refine lg_iconst (pc := 961) (v := 1) C dL_law_961 (by decide) ?_
      refine lg_goto (pc := 962) 966 C dL_law_962 (by decide) ?_
      obtain ⟨hfit, hF⟩ := hF
      refine lg_mI (pc := 966) C [.int (lg_xs X (y3 + 1).toNatClampNeg), .int (lg_xs X (y3 + 2).toNatClampNeg), .int (lg_xs X (y3 + 3).toNatClampNeg), .int 1] (met_chance (lg_xs X (y3 + 1).toNatClampNeg) (lg_xs X (y3 + 2).toNatClampNeg) (lg_xs X (y3 + 3).toNatClampNeg) 1 ) gL_law_X12_chance rfl ⟨rfl, rfl⟩ nd_chance ⟨Nat.le_of_ble_eq_true rfl, Nat.le_of_ble_eq_true rfl⟩ rfl rfl (Nat.le_of_ble_eq_true rfl) hfit dL_law_966 hF (fun r6 g7 hF => ?_)
      refine lg_icmp_eq (pc := 969) 1426 C dL_law_969 (by decide) (fun hc => ?_) (fun hc => ?_)
      · have hF := hF.1 hc
        obtain ⟨z8, ez8⟩ : ∃ y : Int32, y = y3 + 6 := ⟨_, rfl⟩
        have hF := hF z8 ez8
        refine lg_iinc (pc := 1426) (v := z8) (lv2 := [(3, .int z8), (0, .ref (lg_b X)), (1, .ref a), (2, .ref a2)]) C dL_law_1426 3 rfl (by rw [ez8]; rfl) (by decide) rfl ?_
        refine lg_sub (lv2 := [(0, .ref (lg_b X)), (1, .ref a), (2, .ref a2), (3, .int z8)]) [1, 2, 3, 0] rfl ?_
        refine lg_goto (pc := 1429) 18 C dL_law_1429 (by decide) ?_
        exact hF
      · have hF := hF.2 hc
        exact hF.elim
  · have hF := hF.2 hc
    refine lg_iconst (pc := 929) (v := 1) C dL_law_929 (by decide) ?_
    refine lg_goto (pc := 930) 934 C dL_law_930 (by decide) ?_
    obtain ⟨hk, hfit, hF⟩ := hF
    refine lg_xfI (pc := 934) C [.int (lg_xs X (y3 + 1).toNatClampNeg), .int (lg_xs X (y3 + 2).toNatClampNeg), .int (lg_xs X (y3 + 3).toNatClampNeg), .int 1] hk (met_X11_chance Y a (lg_xs X (y3 + 1).toNatClampNeg) (lg_xs X (y3 + 2).toNatClampNeg) (lg_xs X (y3 + 3).toNatClampNeg) 1 ) gL_law_X11_chance rfl ⟨rfl, rfl⟩ nd_X11_chance ⟨Nat.le_of_ble_eq_true rfl, Nat.le_of_ble_eq_true rfl⟩ rfl rfl (Nat.le_of_ble_eq_true rfl) hfit dL_law_934 hF (fun r9 h10 hF => ?_)
    refine lg_aload_n (pc := 937) C dL_law_937 2 rfl ?_
    refine lg_aload_n (pc := 938) C dL_law_938 0 rfl ?_
    refine lg_iload_n (pc := 939) C dL_law_939 3 rfl ?_
    refine lg_iconst (pc := 940) (v := 1) C dL_law_940 (by decide) ?_
    refine lg_iadd (pc := 941) C dL_law_941 ?_
    obtain ⟨hi, hF⟩ := hF
    refine lg_sld (pc := 942) C hi dL_law_942 ?_
    refine lg_aload_n (pc := 943) C dL_law_943 0 rfl ?_
    refine lg_iload_n (pc := 944) C dL_law_944 3 rfl ?_
    refine lg_iconst (pc := 945) (v := 2) C dL_law_945 (by decide) ?_
    refine lg_iadd (pc := 946) C dL_law_946 ?_
    obtain ⟨hi, hF⟩ := hF
    refine lg_sld (pc := 947) C hi dL_law_947 ?_
    refine lg_aload_n (pc := 948) C dL_law_948 0 rfl ?_
    refine lg_iload_n (pc := 949) C dL_law_949 3 rfl ?_
    refine lg_iconst (pc := 950) (v := 3) C dL_law_950 (by decide) ?_
    refine lg_iadd (pc := 951) C dL_law_951 ?_
    obtain ⟨hi, hF⟩ := hF
    refine lg_sld (pc := 952) C hi dL_law_952 ?_
    refine lg_aload_n (pc := 953) C dL_law_953 0 rfl ?_
    refine lg_iload_n (pc := 954) C dL_law_954 3 rfl ?_
    refine lg_iconst (pc := 955) (v := 4) C dL_law_955 (by decide) ?_
    refine lg_iadd (pc := 956) C dL_law_956 ?_
    obtain ⟨hi, hF⟩ := hF
    refine lg_sld (pc := 957) C hi dL_law_957 ?_
    refine lg_if_eq (pc := 958) 965 C dL_law_958 (by decide) (fun hc => ?_) (fun hc => ?_)
    · have hF := hF.1 hc
      refine lg_iconst (pc := 965) (v := 0) C dL_law_965 (by decide) ?_
      obtain ⟨hfit, hF⟩ := hF
      refine lg_mI (pc := 966) C [.int (lg_xs X (y3 + 1).toNatClampNeg), .int (lg_xs X (y3 + 2).toNatClampNeg), .int (lg_xs X (y3 + 3).toNatClampNeg), .int 0] (met_chance (lg_xs X (y3 + 1).toNatClampNeg) (lg_xs X (y3 + 2).toNatClampNeg) (lg_xs X (y3 + 3).toNatClampNeg) 0 ) gL_law_X12_chance rfl ⟨rfl, rfl⟩ nd_chance ⟨Nat.le_of_ble_eq_true rfl, Nat.le_of_ble_eq_true rfl⟩ rfl rfl (Nat.le_of_ble_eq_true rfl) hfit dL_law_966 hF (fun r11 g12 hF => ?_)
      refine lg_icmp_eq (pc := 969) 1426 C dL_law_969 (by decide) (fun hc => ?_) (fun hc => ?_)
      · have hF := hF.1 hc
        obtain ⟨z13, ez13⟩ : ∃ y : Int32, y = y3 + 6 := ⟨_, rfl⟩
        have hF := hF z13 ez13
        refine lg_iinc (pc := 1426) (v := z13) (lv2 := [(3, .int z13), (0, .ref (lg_b X)), (1, .ref a), (2, .ref a2)]) C dL_law_1426 3 rfl (by rw [ez13]; rfl) (by decide) rfl ?_
        refine lg_sub (lv2 := [(0, .ref (lg_b X)), (1, .ref a), (2, .ref a2), (3, .int z13)]) [1, 2, 3, 0] rfl ?_
        refine lg_goto (pc := 1429) 18 C dL_law_1429 (by decide) ?_
        exact hF
      · have hF := hF.2 hc
        exact hF.elim
    · have hF := hF.2 hc
      refine lg_iconst (pc := 961) (v := 1) C dL_law_961 (by decide) ?_
      refine lg_goto (pc := 962) 966 C dL_law_962 (by decide) ?_
      obtain ⟨hfit, hF⟩ := hF
      refine lg_mI (pc := 966) C [.int (lg_xs X (y3 + 1).toNatClampNeg), .int (lg_xs X (y3 + 2).toNatClampNeg), .int (lg_xs X (y3 + 3).toNatClampNeg), .int 1] (met_chance (lg_xs X (y3 + 1).toNatClampNeg) (lg_xs X (y3 + 2).toNatClampNeg) (lg_xs X (y3 + 3).toNatClampNeg) 1 ) gL_law_X12_chance rfl ⟨rfl, rfl⟩ nd_chance ⟨Nat.le_of_ble_eq_true rfl, Nat.le_of_ble_eq_true rfl⟩ rfl rfl (Nat.le_of_ble_eq_true rfl) hfit dL_law_966 hF (fun r14 g15 hF => ?_)
      refine lg_icmp_eq (pc := 969) 1426 C dL_law_969 (by decide) (fun hc => ?_) (fun hc => ?_)
      · have hF := hF.1 hc
        obtain ⟨z16, ez16⟩ : ∃ y : Int32, y = y3 + 6 := ⟨_, rfl⟩
        have hF := hF z16 ez16
        refine lg_iinc (pc := 1426) (v := z16) (lv2 := [(3, .int z16), (0, .ref (lg_b X)), (1, .ref a), (2, .ref a2)]) C dL_law_1426 3 rfl (by rw [ez16]; rfl) (by decide) rfl ?_
        refine lg_sub (lv2 := [(0, .ref (lg_b X)), (1, .ref a), (2, .ref a2), (3, .int z16)]) [1, 2, 3, 0] rfl ?_
        refine lg_goto (pc := 1429) 18 C dL_law_1429 (by decide) ?_
        exact hF
      · have hF := hF.2 hc
        exact hF.elim
def wp_law_19 (X : lg_X) (a : Nat) (R : Int32 → Nat → Nat → xg_Y → xg_H → mg_H → Prop) (y3 : Int32) (k n : Nat) (Y : xg_Y) (h : xg_H) (g : mg_H) : Prop :=
  vp_in (y3 + 1) (lg_L X) ∧ (vp_in (y3 + 2) (lg_L X) ∧ (vp_in (y3 + 3) (lg_L X) ∧ (xg_is Y a 11 ∧ (k ≤ 600000 ∧ n ≤ 7302250) ∧ wp_X11_fact Y (fun r1 h2 => vp_in (y3 + 1) (lg_L X) ∧ (vp_in (y3 + 2) (lg_L X) ∧ (vp_in (y3 + 3) (lg_L X) ∧ ((k ≤ 600000 ∧ n ≤ 7302250) ∧ wp_fact (fun r3 g4 => (((r1 = r3) → ∀ z5 : Int32, z5 = y3 + 6 → R z5 k n Y h2 g4) ∧ ((¬ r1 = r3) → False))) (lg_xs X (y3 + 1).toNatClampNeg) (lg_xs X (y3 + 2).toNatClampNeg) (lg_xs X (y3 + 3).toNatClampNeg) g)))) a (lg_xs X (y3 + 1).toNatClampNeg) (lg_xs X (y3 + 2).toNatClampNeg) (lg_xs X (y3 + 3).toNatClampNeg) h)))
set_option maxHeartbeats 4000000 in
set_option maxRecDepth 100000 in
theorem met_law_19 (X : lg_X) (C : lg_ok X) (a a2 : Nat) (y3 : Int32) (k n : Nat) (Y : xg_Y) (h : xg_H) (g : mg_H) (hF : wp_law_19 X a (fun (y3 : Int32) (k n : Nat) (Y : xg_Y) (h : xg_H) (g : mg_H) => lg_W X a2 k n 18 [(0, .ref (lg_b X)), (1, .ref a), (2, .ref a2), (3, .int y3)] [] (Y, h, g)) y3 k n Y h g) : lg_W X a2 k n 974 [(0, .ref (lg_b X)), (1, .ref a), (2, .ref a2), (3, .int y3)] [] (Y, h, g) := by
  unfold wp_law_19 at hF
  refine lg_aload_n (pc := 974) C dL_law_974 1 rfl ?_
  refine lg_aload_n (pc := 975) C dL_law_975 0 rfl ?_
  refine lg_iload_n (pc := 976) C dL_law_976 3 rfl ?_
  refine lg_iconst (pc := 977) (v := 1) C dL_law_977 (by decide) ?_
  refine lg_iadd (pc := 978) C dL_law_978 ?_
  obtain ⟨hi, hF⟩ := hF
  refine lg_sld (pc := 979) C hi dL_law_979 ?_
  refine lg_aload_n (pc := 980) C dL_law_980 0 rfl ?_
  refine lg_iload_n (pc := 981) C dL_law_981 3 rfl ?_
  refine lg_iconst (pc := 982) (v := 2) C dL_law_982 (by decide) ?_
  refine lg_iadd (pc := 983) C dL_law_983 ?_
  obtain ⟨hi, hF⟩ := hF
  refine lg_sld (pc := 984) C hi dL_law_984 ?_
  refine lg_aload_n (pc := 985) C dL_law_985 0 rfl ?_
  refine lg_iload_n (pc := 986) C dL_law_986 3 rfl ?_
  refine lg_iconst (pc := 987) (v := 3) C dL_law_987 (by decide) ?_
  refine lg_iadd (pc := 988) C dL_law_988 ?_
  obtain ⟨hi, hF⟩ := hF
  refine lg_sld (pc := 989) C hi dL_law_989 ?_
  obtain ⟨hk, hfit, hF⟩ := hF
  refine lg_xfI (pc := 990) C [.int (lg_xs X (y3 + 1).toNatClampNeg), .int (lg_xs X (y3 + 2).toNatClampNeg), .int (lg_xs X (y3 + 3).toNatClampNeg)] hk (met_X11_fact Y a (lg_xs X (y3 + 1).toNatClampNeg) (lg_xs X (y3 + 2).toNatClampNeg) (lg_xs X (y3 + 3).toNatClampNeg) ) gL_law_X11_fact rfl ⟨rfl, rfl⟩ nd_X11_fact ⟨Nat.le_of_ble_eq_true rfl, Nat.le_of_ble_eq_true rfl⟩ rfl rfl (Nat.le_of_ble_eq_true rfl) hfit dL_law_990 hF (fun r1 h2 hF => ?_)
  refine lg_aload_n (pc := 993) C dL_law_993 2 rfl ?_
  refine lg_aload_n (pc := 994) C dL_law_994 0 rfl ?_
  refine lg_iload_n (pc := 995) C dL_law_995 3 rfl ?_
  refine lg_iconst (pc := 996) (v := 1) C dL_law_996 (by decide) ?_
  refine lg_iadd (pc := 997) C dL_law_997 ?_
  obtain ⟨hi, hF⟩ := hF
  refine lg_sld (pc := 998) C hi dL_law_998 ?_
  refine lg_aload_n (pc := 999) C dL_law_999 0 rfl ?_
  refine lg_iload_n (pc := 1000) C dL_law_1000 3 rfl ?_
  refine lg_iconst (pc := 1001) (v := 2) C dL_law_1001 (by decide) ?_
  refine lg_iadd (pc := 1002) C dL_law_1002 ?_
  obtain ⟨hi, hF⟩ := hF
  refine lg_sld (pc := 1003) C hi dL_law_1003 ?_
  refine lg_aload_n (pc := 1004) C dL_law_1004 0 rfl ?_
  refine lg_iload_n (pc := 1005) C dL_law_1005 3 rfl ?_
  refine lg_iconst (pc := 1006) (v := 3) C dL_law_1006 (by decide) ?_
  refine lg_iadd (pc := 1007) C dL_law_1007 ?_
  obtain ⟨hi, hF⟩ := hF
  refine lg_sld (pc := 1008) C hi dL_law_1008 ?_
  obtain ⟨hfit, hF⟩ := hF
  refine lg_mI (pc := 1009) C [.int (lg_xs X (y3 + 1).toNatClampNeg), .int (lg_xs X (y3 + 2).toNatClampNeg), .int (lg_xs X (y3 + 3).toNatClampNeg)] (met_fact (lg_xs X (y3 + 1).toNatClampNeg) (lg_xs X (y3 + 2).toNatClampNeg) (lg_xs X (y3 + 3).toNatClampNeg) ) gL_law_X12_fact rfl ⟨rfl, rfl⟩ nd_fact ⟨Nat.le_of_ble_eq_true rfl, Nat.le_of_ble_eq_true rfl⟩ rfl rfl (Nat.le_of_ble_eq_true rfl) hfit dL_law_1009 hF (fun r3 g4 hF => ?_)
  refine lg_icmp_eq (pc := 1012) 1426 C dL_law_1012 (by decide) (fun hc => ?_) (fun hc => ?_)
  · have hF := hF.1 hc
    obtain ⟨z5, ez5⟩ : ∃ y : Int32, y = y3 + 6 := ⟨_, rfl⟩
    have hF := hF z5 ez5
    refine lg_iinc (pc := 1426) (v := z5) (lv2 := [(3, .int z5), (0, .ref (lg_b X)), (1, .ref a), (2, .ref a2)]) C dL_law_1426 3 rfl (by rw [ez5]; rfl) (by decide) rfl ?_
    refine lg_sub (lv2 := [(0, .ref (lg_b X)), (1, .ref a), (2, .ref a2), (3, .int z5)]) [1, 2, 3, 0] rfl ?_
    refine lg_goto (pc := 1429) 18 C dL_law_1429 (by decide) ?_
    exact hF
  · have hF := hF.2 hc
    exact hF.elim
def wp_law_20 (X : lg_X) (a : Nat) (R : Int32 → Nat → Nat → xg_Y → xg_H → mg_H → Prop) (y3 : Int32) (k n : Nat) (Y : xg_Y) (h : xg_H) (g : mg_H) : Prop :=
  vp_in (y3 + 1) (lg_L X) ∧ (vp_in (y3 + 2) (lg_L X) ∧ (vp_in (y3 + 3) (lg_L X) ∧ (vp_in (y3 + 4) (lg_L X) ∧ (xg_is Y a 11 ∧ (k ≤ 600000 ∧ n ≤ 7302250) ∧ wp_X11_fits Y (fun r1 h2 => vp_in (y3 + 1) (lg_L X) ∧ (vp_in (y3 + 2) (lg_L X) ∧ (vp_in (y3 + 3) (lg_L X) ∧ (vp_in (y3 + 4) (lg_L X) ∧ ((k ≤ 600000 ∧ n ≤ 7302250) ∧ wp_fits (fun r3 g4 => (((r1 = r3) → ∀ z5 : Int32, z5 = y3 + 6 → R z5 k n Y h2 g4) ∧ ((¬ r1 = r3) → False))) (lg_xs X (y3 + 1).toNatClampNeg) (lg_xs X (y3 + 2).toNatClampNeg) (lg_xs X (y3 + 3).toNatClampNeg) (lg_xs X (y3 + 4).toNatClampNeg) g))))) a (lg_xs X (y3 + 1).toNatClampNeg) (lg_xs X (y3 + 2).toNatClampNeg) (lg_xs X (y3 + 3).toNatClampNeg) (lg_xs X (y3 + 4).toNatClampNeg) h))))
set_option maxHeartbeats 4000000 in
set_option maxRecDepth 100000 in
theorem met_law_20 (X : lg_X) (C : lg_ok X) (a a2 : Nat) (y3 : Int32) (k n : Nat) (Y : xg_Y) (h : xg_H) (g : mg_H) (hF : wp_law_20 X a (fun (y3 : Int32) (k n : Nat) (Y : xg_Y) (h : xg_H) (g : mg_H) => lg_W X a2 k n 18 [(0, .ref (lg_b X)), (1, .ref a), (2, .ref a2), (3, .int y3)] [] (Y, h, g)) y3 k n Y h g) : lg_W X a2 k n 1017 [(0, .ref (lg_b X)), (1, .ref a), (2, .ref a2), (3, .int y3)] [] (Y, h, g) := by
  unfold wp_law_20 at hF
  refine lg_aload_n (pc := 1017) C dL_law_1017 1 rfl ?_
  refine lg_aload_n (pc := 1018) C dL_law_1018 0 rfl ?_
  refine lg_iload_n (pc := 1019) C dL_law_1019 3 rfl ?_
  refine lg_iconst (pc := 1020) (v := 1) C dL_law_1020 (by decide) ?_
  refine lg_iadd (pc := 1021) C dL_law_1021 ?_
  obtain ⟨hi, hF⟩ := hF
  refine lg_sld (pc := 1022) C hi dL_law_1022 ?_
  refine lg_aload_n (pc := 1023) C dL_law_1023 0 rfl ?_
  refine lg_iload_n (pc := 1024) C dL_law_1024 3 rfl ?_
  refine lg_iconst (pc := 1025) (v := 2) C dL_law_1025 (by decide) ?_
  refine lg_iadd (pc := 1026) C dL_law_1026 ?_
  obtain ⟨hi, hF⟩ := hF
  refine lg_sld (pc := 1027) C hi dL_law_1027 ?_
  refine lg_aload_n (pc := 1028) C dL_law_1028 0 rfl ?_
  refine lg_iload_n (pc := 1029) C dL_law_1029 3 rfl ?_
  refine lg_iconst (pc := 1030) (v := 3) C dL_law_1030 (by decide) ?_
  refine lg_iadd (pc := 1031) C dL_law_1031 ?_
  obtain ⟨hi, hF⟩ := hF
  refine lg_sld (pc := 1032) C hi dL_law_1032 ?_
  refine lg_aload_n (pc := 1033) C dL_law_1033 0 rfl ?_
  refine lg_iload_n (pc := 1034) C dL_law_1034 3 rfl ?_
  refine lg_iconst (pc := 1035) (v := 4) C dL_law_1035 (by decide) ?_
  refine lg_iadd (pc := 1036) C dL_law_1036 ?_
  obtain ⟨hi, hF⟩ := hF
  refine lg_sld (pc := 1037) C hi dL_law_1037 ?_
  obtain ⟨hk, hfit, hF⟩ := hF
  refine lg_xfI (pc := 1038) C [.int (lg_xs X (y3 + 1).toNatClampNeg), .int (lg_xs X (y3 + 2).toNatClampNeg), .int (lg_xs X (y3 + 3).toNatClampNeg), .int (lg_xs X (y3 + 4).toNatClampNeg)] hk (met_X11_fits Y a (lg_xs X (y3 + 1).toNatClampNeg) (lg_xs X (y3 + 2).toNatClampNeg) (lg_xs X (y3 + 3).toNatClampNeg) (lg_xs X (y3 + 4).toNatClampNeg) ) gL_law_X11_fits rfl ⟨rfl, rfl⟩ nd_X11_fits ⟨Nat.le_of_ble_eq_true rfl, Nat.le_of_ble_eq_true rfl⟩ rfl rfl (Nat.le_of_ble_eq_true rfl) hfit dL_law_1038 hF (fun r1 h2 hF => ?_)
  refine lg_aload_n (pc := 1041) C dL_law_1041 2 rfl ?_
  refine lg_aload_n (pc := 1042) C dL_law_1042 0 rfl ?_
  refine lg_iload_n (pc := 1043) C dL_law_1043 3 rfl ?_
  refine lg_iconst (pc := 1044) (v := 1) C dL_law_1044 (by decide) ?_
  refine lg_iadd (pc := 1045) C dL_law_1045 ?_
  obtain ⟨hi, hF⟩ := hF
  refine lg_sld (pc := 1046) C hi dL_law_1046 ?_
  refine lg_aload_n (pc := 1047) C dL_law_1047 0 rfl ?_
  refine lg_iload_n (pc := 1048) C dL_law_1048 3 rfl ?_
  refine lg_iconst (pc := 1049) (v := 2) C dL_law_1049 (by decide) ?_
  refine lg_iadd (pc := 1050) C dL_law_1050 ?_
  obtain ⟨hi, hF⟩ := hF
  refine lg_sld (pc := 1051) C hi dL_law_1051 ?_
  refine lg_aload_n (pc := 1052) C dL_law_1052 0 rfl ?_
  refine lg_iload_n (pc := 1053) C dL_law_1053 3 rfl ?_
  refine lg_iconst (pc := 1054) (v := 3) C dL_law_1054 (by decide) ?_
  refine lg_iadd (pc := 1055) C dL_law_1055 ?_
  obtain ⟨hi, hF⟩ := hF
  refine lg_sld (pc := 1056) C hi dL_law_1056 ?_
  refine lg_aload_n (pc := 1057) C dL_law_1057 0 rfl ?_
  refine lg_iload_n (pc := 1058) C dL_law_1058 3 rfl ?_
  refine lg_iconst (pc := 1059) (v := 4) C dL_law_1059 (by decide) ?_
  refine lg_iadd (pc := 1060) C dL_law_1060 ?_
  obtain ⟨hi, hF⟩ := hF
  refine lg_sld (pc := 1061) C hi dL_law_1061 ?_
  obtain ⟨hfit, hF⟩ := hF
  refine lg_mI (pc := 1062) C [.int (lg_xs X (y3 + 1).toNatClampNeg), .int (lg_xs X (y3 + 2).toNatClampNeg), .int (lg_xs X (y3 + 3).toNatClampNeg), .int (lg_xs X (y3 + 4).toNatClampNeg)] (met_fits (lg_xs X (y3 + 1).toNatClampNeg) (lg_xs X (y3 + 2).toNatClampNeg) (lg_xs X (y3 + 3).toNatClampNeg) (lg_xs X (y3 + 4).toNatClampNeg) ) gL_law_X12_fits rfl ⟨rfl, rfl⟩ nd_fits ⟨Nat.le_of_ble_eq_true rfl, Nat.le_of_ble_eq_true rfl⟩ rfl rfl (Nat.le_of_ble_eq_true rfl) hfit dL_law_1062 hF (fun r3 g4 hF => ?_)
  refine lg_icmp_eq (pc := 1065) 1426 C dL_law_1065 (by decide) (fun hc => ?_) (fun hc => ?_)
  · have hF := hF.1 hc
    obtain ⟨z5, ez5⟩ : ∃ y : Int32, y = y3 + 6 := ⟨_, rfl⟩
    have hF := hF z5 ez5
    refine lg_iinc (pc := 1426) (v := z5) (lv2 := [(3, .int z5), (0, .ref (lg_b X)), (1, .ref a), (2, .ref a2)]) C dL_law_1426 3 rfl (by rw [ez5]; rfl) (by decide) rfl ?_
    refine lg_sub (lv2 := [(0, .ref (lg_b X)), (1, .ref a), (2, .ref a2), (3, .int z5)]) [1, 2, 3, 0] rfl ?_
    refine lg_goto (pc := 1429) 18 C dL_law_1429 (by decide) ?_
    exact hF
  · have hF := hF.2 hc
    exact hF.elim
def wp_law_21 (X : lg_X) (a : Nat) (R : Int32 → Nat → Nat → xg_Y → xg_H → mg_H → Prop) (y3 : Int32) (k n : Nat) (Y : xg_Y) (h : xg_H) (g : mg_H) : Prop :=
  vp_in (y3 + 1) (lg_L X) ∧ (vp_in (y3 + 2) (lg_L X) ∧ (vp_in (y3 + 3) (lg_L X) ∧ (vp_in (y3 + 4) (lg_L X) ∧ (xg_is Y a 11 ∧ (k ≤ 600000 ∧ n ≤ 7302250) ∧ wp_X11_drawn Y (fun r1 h2 => vp_in (y3 + 1) (lg_L X) ∧ (vp_in (y3 + 2) (lg_L X) ∧ (vp_in (y3 + 3) (lg_L X) ∧ (vp_in (y3 + 4) (lg_L X) ∧ ((k ≤ 600000 ∧ n ≤ 7302250) ∧ wp_drawn (fun r3 g4 => (((r1 = r3) → ∀ z5 : Int32, z5 = y3 + 6 → R z5 k n Y h2 g4) ∧ ((¬ r1 = r3) → False))) (lg_xs X (y3 + 1).toNatClampNeg) (lg_xs X (y3 + 2).toNatClampNeg) (lg_xs X (y3 + 3).toNatClampNeg) (lg_xs X (y3 + 4).toNatClampNeg) g))))) a (lg_xs X (y3 + 1).toNatClampNeg) (lg_xs X (y3 + 2).toNatClampNeg) (lg_xs X (y3 + 3).toNatClampNeg) (lg_xs X (y3 + 4).toNatClampNeg) h))))
set_option maxHeartbeats 4000000 in
set_option maxRecDepth 100000 in
theorem met_law_21 (X : lg_X) (C : lg_ok X) (a a2 : Nat) (y3 : Int32) (k n : Nat) (Y : xg_Y) (h : xg_H) (g : mg_H) (hF : wp_law_21 X a (fun (y3 : Int32) (k n : Nat) (Y : xg_Y) (h : xg_H) (g : mg_H) => lg_W X a2 k n 18 [(0, .ref (lg_b X)), (1, .ref a), (2, .ref a2), (3, .int y3)] [] (Y, h, g)) y3 k n Y h g) : lg_W X a2 k n 1070 [(0, .ref (lg_b X)), (1, .ref a), (2, .ref a2), (3, .int y3)] [] (Y, h, g) := by
  unfold wp_law_21 at hF
  refine lg_aload_n (pc := 1070) C dL_law_1070 1 rfl ?_
  refine lg_aload_n (pc := 1071) C dL_law_1071 0 rfl ?_
  refine lg_iload_n (pc := 1072) C dL_law_1072 3 rfl ?_
  refine lg_iconst (pc := 1073) (v := 1) C dL_law_1073 (by decide) ?_
  refine lg_iadd (pc := 1074) C dL_law_1074 ?_
  obtain ⟨hi, hF⟩ := hF
  refine lg_sld (pc := 1075) C hi dL_law_1075 ?_
  refine lg_aload_n (pc := 1076) C dL_law_1076 0 rfl ?_
  refine lg_iload_n (pc := 1077) C dL_law_1077 3 rfl ?_
  refine lg_iconst (pc := 1078) (v := 2) C dL_law_1078 (by decide) ?_
  refine lg_iadd (pc := 1079) C dL_law_1079 ?_
  obtain ⟨hi, hF⟩ := hF
  refine lg_sld (pc := 1080) C hi dL_law_1080 ?_
  refine lg_aload_n (pc := 1081) C dL_law_1081 0 rfl ?_
  refine lg_iload_n (pc := 1082) C dL_law_1082 3 rfl ?_
  refine lg_iconst (pc := 1083) (v := 3) C dL_law_1083 (by decide) ?_
  refine lg_iadd (pc := 1084) C dL_law_1084 ?_
  obtain ⟨hi, hF⟩ := hF
  refine lg_sld (pc := 1085) C hi dL_law_1085 ?_
  refine lg_aload_n (pc := 1086) C dL_law_1086 0 rfl ?_
  refine lg_iload_n (pc := 1087) C dL_law_1087 3 rfl ?_
  refine lg_iconst (pc := 1088) (v := 4) C dL_law_1088 (by decide) ?_
  refine lg_iadd (pc := 1089) C dL_law_1089 ?_
  obtain ⟨hi, hF⟩ := hF
  refine lg_sld (pc := 1090) C hi dL_law_1090 ?_
  obtain ⟨hk, hfit, hF⟩ := hF
  refine lg_xfI (pc := 1091) C [.int (lg_xs X (y3 + 1).toNatClampNeg), .int (lg_xs X (y3 + 2).toNatClampNeg), .int (lg_xs X (y3 + 3).toNatClampNeg), .int (lg_xs X (y3 + 4).toNatClampNeg)] hk (met_X11_drawn Y a (lg_xs X (y3 + 1).toNatClampNeg) (lg_xs X (y3 + 2).toNatClampNeg) (lg_xs X (y3 + 3).toNatClampNeg) (lg_xs X (y3 + 4).toNatClampNeg) ) gL_law_X11_drawn rfl ⟨rfl, rfl⟩ nd_X11_drawn ⟨Nat.le_of_ble_eq_true rfl, Nat.le_of_ble_eq_true rfl⟩ rfl rfl (Nat.le_of_ble_eq_true rfl) hfit dL_law_1091 hF (fun r1 h2 hF => ?_)
  refine lg_aload_n (pc := 1094) C dL_law_1094 2 rfl ?_
  refine lg_aload_n (pc := 1095) C dL_law_1095 0 rfl ?_
  refine lg_iload_n (pc := 1096) C dL_law_1096 3 rfl ?_
  refine lg_iconst (pc := 1097) (v := 1) C dL_law_1097 (by decide) ?_
  refine lg_iadd (pc := 1098) C dL_law_1098 ?_
  obtain ⟨hi, hF⟩ := hF
  refine lg_sld (pc := 1099) C hi dL_law_1099 ?_
  refine lg_aload_n (pc := 1100) C dL_law_1100 0 rfl ?_
  refine lg_iload_n (pc := 1101) C dL_law_1101 3 rfl ?_
  refine lg_iconst (pc := 1102) (v := 2) C dL_law_1102 (by decide) ?_
  refine lg_iadd (pc := 1103) C dL_law_1103 ?_
  obtain ⟨hi, hF⟩ := hF
  refine lg_sld (pc := 1104) C hi dL_law_1104 ?_
  refine lg_aload_n (pc := 1105) C dL_law_1105 0 rfl ?_
  refine lg_iload_n (pc := 1106) C dL_law_1106 3 rfl ?_
  refine lg_iconst (pc := 1107) (v := 3) C dL_law_1107 (by decide) ?_
  refine lg_iadd (pc := 1108) C dL_law_1108 ?_
  obtain ⟨hi, hF⟩ := hF
  refine lg_sld (pc := 1109) C hi dL_law_1109 ?_
  refine lg_aload_n (pc := 1110) C dL_law_1110 0 rfl ?_
  refine lg_iload_n (pc := 1111) C dL_law_1111 3 rfl ?_
  refine lg_iconst (pc := 1112) (v := 4) C dL_law_1112 (by decide) ?_
  refine lg_iadd (pc := 1113) C dL_law_1113 ?_
  obtain ⟨hi, hF⟩ := hF
  refine lg_sld (pc := 1114) C hi dL_law_1114 ?_
  obtain ⟨hfit, hF⟩ := hF
  refine lg_mI (pc := 1115) C [.int (lg_xs X (y3 + 1).toNatClampNeg), .int (lg_xs X (y3 + 2).toNatClampNeg), .int (lg_xs X (y3 + 3).toNatClampNeg), .int (lg_xs X (y3 + 4).toNatClampNeg)] (met_drawn (lg_xs X (y3 + 1).toNatClampNeg) (lg_xs X (y3 + 2).toNatClampNeg) (lg_xs X (y3 + 3).toNatClampNeg) (lg_xs X (y3 + 4).toNatClampNeg) ) gL_law_X12_drawn rfl ⟨rfl, rfl⟩ nd_drawn ⟨Nat.le_of_ble_eq_true rfl, Nat.le_of_ble_eq_true rfl⟩ rfl rfl (Nat.le_of_ble_eq_true rfl) hfit dL_law_1115 hF (fun r3 g4 hF => ?_)
  refine lg_icmp_eq (pc := 1118) 1426 C dL_law_1118 (by decide) (fun hc => ?_) (fun hc => ?_)
  · have hF := hF.1 hc
    obtain ⟨z5, ez5⟩ : ∃ y : Int32, y = y3 + 6 := ⟨_, rfl⟩
    have hF := hF z5 ez5
    refine lg_iinc (pc := 1426) (v := z5) (lv2 := [(3, .int z5), (0, .ref (lg_b X)), (1, .ref a), (2, .ref a2)]) C dL_law_1426 3 rfl (by rw [ez5]; rfl) (by decide) rfl ?_
    refine lg_sub (lv2 := [(0, .ref (lg_b X)), (1, .ref a), (2, .ref a2), (3, .int z5)]) [1, 2, 3, 0] rfl ?_
    refine lg_goto (pc := 1429) 18 C dL_law_1429 (by decide) ?_
    exact hF
  · have hF := hF.2 hc
    exact hF.elim
def wp_law_22 (X : lg_X) (a : Nat) (R : Int32 → Nat → Nat → xg_Y → xg_H → mg_H → Prop) (y3 : Int32) (k n : Nat) (Y : xg_Y) (h : xg_H) (g : mg_H) : Prop :=
  vp_in (y3 + 1) (lg_L X) ∧ (vp_in (y3 + 2) (lg_L X) ∧ (xg_is Y a 11 ∧ ∃ mc3 ms3 : Nat, (k + mc3 ≤ 600000 ∧ n + ms3 ≤ 7302250) ∧ wp_X11_times mc3 ms3 Y (fun r1 Y4 h2 => vp_in (y3 + 1) (lg_L X) ∧ (vp_in (y3 + 2) (lg_L X) ∧ (((k + mc3) ≤ 600000 ∧ (n + ms3) ≤ 7302250) ∧ wp_times (fun r5 g6 => (((r1 = r5) → ∀ z7 : Int32, z7 = y3 + 6 → R z7 (k + mc3) (n + ms3) Y4 h2 g6) ∧ ((¬ r1 = r5) → False))) (lg_xs X (y3 + 1).toNatClampNeg) (lg_xs X (y3 + 2).toNatClampNeg) g))) a (lg_xs X (y3 + 1).toNatClampNeg) (lg_xs X (y3 + 2).toNatClampNeg) h))
set_option maxHeartbeats 4000000 in
set_option maxRecDepth 100000 in
theorem met_law_22 (X : lg_X) (C : lg_ok X) (a a2 : Nat) (y3 : Int32) (k n : Nat) (Y : xg_Y) (h : xg_H) (g : mg_H) (hF : wp_law_22 X a (fun (y3 : Int32) (k n : Nat) (Y : xg_Y) (h : xg_H) (g : mg_H) => lg_W X a2 k n 18 [(0, .ref (lg_b X)), (1, .ref a), (2, .ref a2), (3, .int y3)] [] (Y, h, g)) y3 k n Y h g) : lg_W X a2 k n 1123 [(0, .ref (lg_b X)), (1, .ref a), (2, .ref a2), (3, .int y3)] [] (Y, h, g) := by
  unfold wp_law_22 at hF
  refine lg_aload_n (pc := 1123) C dL_law_1123 1 rfl ?_
  refine lg_aload_n (pc := 1124) C dL_law_1124 0 rfl ?_
  refine lg_iload_n (pc := 1125) C dL_law_1125 3 rfl ?_
  refine lg_iconst (pc := 1126) (v := 1) C dL_law_1126 (by decide) ?_
  refine lg_iadd (pc := 1127) C dL_law_1127 ?_
  obtain ⟨hi, hF⟩ := hF
  refine lg_sld (pc := 1128) C hi dL_law_1128 ?_
  refine lg_aload_n (pc := 1129) C dL_law_1129 0 rfl ?_
  refine lg_iload_n (pc := 1130) C dL_law_1130 3 rfl ?_
  refine lg_iconst (pc := 1131) (v := 2) C dL_law_1131 (by decide) ?_
  refine lg_iadd (pc := 1132) C dL_law_1132 ?_
  obtain ⟨hi, hF⟩ := hF
  refine lg_sld (pc := 1133) C hi dL_law_1133 ?_
  obtain ⟨hk, mc3, ms3, hfit, hF⟩ := hF
  refine lg_xvI (pc := 1134) C [.int (lg_xs X (y3 + 1).toNatClampNeg), .int (lg_xs X (y3 + 2).toNatClampNeg)] hk (met_X11_times mc3 ms3 Y a (lg_xs X (y3 + 1).toNatClampNeg) (lg_xs X (y3 + 2).toNatClampNeg) ) gL_law_X11_times rfl nd_X11_times ⟨Nat.le_of_ble_eq_true rfl, Nat.le_of_ble_eq_true rfl⟩ rfl rfl (Nat.le_of_ble_eq_true rfl) hfit dL_law_1134 hF (fun r1 Y4 h2 hF => ?_)
  refine lg_aload_n (pc := 1137) C dL_law_1137 2 rfl ?_
  refine lg_aload_n (pc := 1138) C dL_law_1138 0 rfl ?_
  refine lg_iload_n (pc := 1139) C dL_law_1139 3 rfl ?_
  refine lg_iconst (pc := 1140) (v := 1) C dL_law_1140 (by decide) ?_
  refine lg_iadd (pc := 1141) C dL_law_1141 ?_
  obtain ⟨hi, hF⟩ := hF
  refine lg_sld (pc := 1142) C hi dL_law_1142 ?_
  refine lg_aload_n (pc := 1143) C dL_law_1143 0 rfl ?_
  refine lg_iload_n (pc := 1144) C dL_law_1144 3 rfl ?_
  refine lg_iconst (pc := 1145) (v := 2) C dL_law_1145 (by decide) ?_
  refine lg_iadd (pc := 1146) C dL_law_1146 ?_
  obtain ⟨hi, hF⟩ := hF
  refine lg_sld (pc := 1147) C hi dL_law_1147 ?_
  obtain ⟨hfit, hF⟩ := hF
  refine lg_mI (pc := 1148) C [.int (lg_xs X (y3 + 1).toNatClampNeg), .int (lg_xs X (y3 + 2).toNatClampNeg)] (met_times (lg_xs X (y3 + 1).toNatClampNeg) (lg_xs X (y3 + 2).toNatClampNeg) ) gL_law_X12_times rfl ⟨rfl, rfl⟩ nd_times ⟨Nat.le_of_ble_eq_true rfl, Nat.le_of_ble_eq_true rfl⟩ rfl rfl (Nat.le_of_ble_eq_true rfl) hfit dL_law_1148 hF (fun r5 g6 hF => ?_)
  refine lg_icmp_eq (pc := 1151) 1426 C dL_law_1151 (by decide) (fun hc => ?_) (fun hc => ?_)
  · have hF := hF.1 hc
    obtain ⟨z7, ez7⟩ : ∃ y : Int32, y = y3 + 6 := ⟨_, rfl⟩
    have hF := hF z7 ez7
    refine lg_iinc (pc := 1426) (v := z7) (lv2 := [(3, .int z7), (0, .ref (lg_b X)), (1, .ref a), (2, .ref a2)]) C dL_law_1426 3 rfl (by rw [ez7]; rfl) (by decide) rfl ?_
    refine lg_sub (lv2 := [(0, .ref (lg_b X)), (1, .ref a), (2, .ref a2), (3, .int z7)]) [1, 2, 3, 0] rfl ?_
    refine lg_goto (pc := 1429) 18 C dL_law_1429 (by decide) ?_
    exact hF
  · have hF := hF.2 hc
    exact hF.elim
def wp_law_23 (X : lg_X) (a : Nat) (R : Int32 → Nat → Nat → xg_Y → xg_H → mg_H → Prop) (y3 : Int32) (k n : Nat) (Y : xg_Y) (h : xg_H) (g : mg_H) : Prop :=
  vp_in (y3 + 1) (lg_L X) ∧ (vp_in (y3 + 2) (lg_L X) ∧ (xg_is Y a 11 ∧ ∃ mc3 ms3 : Nat, (k + mc3 ≤ 600000 ∧ n + ms3 ≤ 7302250) ∧ wp_X11_couples mc3 ms3 Y (fun r1 Y4 h2 => vp_in (y3 + 1) (lg_L X) ∧ (vp_in (y3 + 2) (lg_L X) ∧ (((k + mc3) ≤ 600000 ∧ (n + ms3) ≤ 7302250) ∧ wp_couples (fun r5 g6 => (((r1 = r5) → ∀ z7 : Int32, z7 = y3 + 6 → R z7 (k + mc3) (n + ms3) Y4 h2 g6) ∧ ((¬ r1 = r5) → False))) (lg_xs X (y3 + 1).toNatClampNeg) (lg_xs X (y3 + 2).toNatClampNeg) g))) a (lg_xs X (y3 + 1).toNatClampNeg) (lg_xs X (y3 + 2).toNatClampNeg) h))
set_option maxHeartbeats 4000000 in
set_option maxRecDepth 100000 in
theorem met_law_23 (X : lg_X) (C : lg_ok X) (a a2 : Nat) (y3 : Int32) (k n : Nat) (Y : xg_Y) (h : xg_H) (g : mg_H) (hF : wp_law_23 X a (fun (y3 : Int32) (k n : Nat) (Y : xg_Y) (h : xg_H) (g : mg_H) => lg_W X a2 k n 18 [(0, .ref (lg_b X)), (1, .ref a), (2, .ref a2), (3, .int y3)] [] (Y, h, g)) y3 k n Y h g) : lg_W X a2 k n 1156 [(0, .ref (lg_b X)), (1, .ref a), (2, .ref a2), (3, .int y3)] [] (Y, h, g) := by
  unfold wp_law_23 at hF
  refine lg_aload_n (pc := 1156) C dL_law_1156 1 rfl ?_
  refine lg_aload_n (pc := 1157) C dL_law_1157 0 rfl ?_
  refine lg_iload_n (pc := 1158) C dL_law_1158 3 rfl ?_
  refine lg_iconst (pc := 1159) (v := 1) C dL_law_1159 (by decide) ?_
  refine lg_iadd (pc := 1160) C dL_law_1160 ?_
  obtain ⟨hi, hF⟩ := hF
  refine lg_sld (pc := 1161) C hi dL_law_1161 ?_
  refine lg_aload_n (pc := 1162) C dL_law_1162 0 rfl ?_
  refine lg_iload_n (pc := 1163) C dL_law_1163 3 rfl ?_
  refine lg_iconst (pc := 1164) (v := 2) C dL_law_1164 (by decide) ?_
  refine lg_iadd (pc := 1165) C dL_law_1165 ?_
  obtain ⟨hi, hF⟩ := hF
  refine lg_sld (pc := 1166) C hi dL_law_1166 ?_
  obtain ⟨hk, mc3, ms3, hfit, hF⟩ := hF
  refine lg_xvI (pc := 1167) C [.int (lg_xs X (y3 + 1).toNatClampNeg), .int (lg_xs X (y3 + 2).toNatClampNeg)] hk (met_X11_couples mc3 ms3 Y a (lg_xs X (y3 + 1).toNatClampNeg) (lg_xs X (y3 + 2).toNatClampNeg) ) gL_law_X11_couples rfl nd_X11_couples ⟨Nat.le_of_ble_eq_true rfl, Nat.le_of_ble_eq_true rfl⟩ rfl rfl (Nat.le_of_ble_eq_true rfl) hfit dL_law_1167 hF (fun r1 Y4 h2 hF => ?_)
  refine lg_aload_n (pc := 1170) C dL_law_1170 2 rfl ?_
  refine lg_aload_n (pc := 1171) C dL_law_1171 0 rfl ?_
  refine lg_iload_n (pc := 1172) C dL_law_1172 3 rfl ?_
  refine lg_iconst (pc := 1173) (v := 1) C dL_law_1173 (by decide) ?_
  refine lg_iadd (pc := 1174) C dL_law_1174 ?_
  obtain ⟨hi, hF⟩ := hF
  refine lg_sld (pc := 1175) C hi dL_law_1175 ?_
  refine lg_aload_n (pc := 1176) C dL_law_1176 0 rfl ?_
  refine lg_iload_n (pc := 1177) C dL_law_1177 3 rfl ?_
  refine lg_iconst (pc := 1178) (v := 2) C dL_law_1178 (by decide) ?_
  refine lg_iadd (pc := 1179) C dL_law_1179 ?_
  obtain ⟨hi, hF⟩ := hF
  refine lg_sld (pc := 1180) C hi dL_law_1180 ?_
  obtain ⟨hfit, hF⟩ := hF
  refine lg_mI (pc := 1181) C [.int (lg_xs X (y3 + 1).toNatClampNeg), .int (lg_xs X (y3 + 2).toNatClampNeg)] (met_couples (lg_xs X (y3 + 1).toNatClampNeg) (lg_xs X (y3 + 2).toNatClampNeg) ) gL_law_X12_couples rfl ⟨rfl, rfl⟩ nd_couples ⟨Nat.le_of_ble_eq_true rfl, Nat.le_of_ble_eq_true rfl⟩ rfl rfl (Nat.le_of_ble_eq_true rfl) hfit dL_law_1181 hF (fun r5 g6 hF => ?_)
  refine lg_icmp_eq (pc := 1184) 1426 C dL_law_1184 (by decide) (fun hc => ?_) (fun hc => ?_)
  · have hF := hF.1 hc
    obtain ⟨z7, ez7⟩ : ∃ y : Int32, y = y3 + 6 := ⟨_, rfl⟩
    have hF := hF z7 ez7
    refine lg_iinc (pc := 1426) (v := z7) (lv2 := [(3, .int z7), (0, .ref (lg_b X)), (1, .ref a), (2, .ref a2)]) C dL_law_1426 3 rfl (by rw [ez7]; rfl) (by decide) rfl ?_
    refine lg_sub (lv2 := [(0, .ref (lg_b X)), (1, .ref a), (2, .ref a2), (3, .int z7)]) [1, 2, 3, 0] rfl ?_
    refine lg_goto (pc := 1429) 18 C dL_law_1429 (by decide) ?_
    exact hF
  · have hF := hF.2 hc
    exact hF.elim
def wp_law_24 (X : lg_X) (a : Nat) (R : Int32 → Nat → Nat → xg_Y → xg_H → mg_H → Prop) (y3 : Int32) (k n : Nat) (Y : xg_Y) (h : xg_H) (g : mg_H) : Prop :=
  vp_in (y3 + 1) (lg_L X) ∧ (vp_in (y3 + 2) (lg_L X) ∧ (xg_is Y a 11 ∧ ∃ mc3 ms3 : Nat, (k + mc3 ≤ 600000 ∧ n + ms3 ≤ 7302250) ∧ wp_X11_crowd mc3 ms3 Y (fun r1 Y4 h2 => vp_in (y3 + 1) (lg_L X) ∧ (vp_in (y3 + 2) (lg_L X) ∧ (((k + mc3) ≤ 600000 ∧ (n + ms3) ≤ 7302250) ∧ wp_crowd (fun r5 g6 => (((r1 = r5) → ∀ z7 : Int32, z7 = y3 + 6 → R z7 (k + mc3) (n + ms3) Y4 h2 g6) ∧ ((¬ r1 = r5) → False))) (lg_xs X (y3 + 1).toNatClampNeg) (lg_xs X (y3 + 2).toNatClampNeg) g))) a (lg_xs X (y3 + 1).toNatClampNeg) (lg_xs X (y3 + 2).toNatClampNeg) h))
set_option maxHeartbeats 4000000 in
set_option maxRecDepth 100000 in
theorem met_law_24 (X : lg_X) (C : lg_ok X) (a a2 : Nat) (y3 : Int32) (k n : Nat) (Y : xg_Y) (h : xg_H) (g : mg_H) (hF : wp_law_24 X a (fun (y3 : Int32) (k n : Nat) (Y : xg_Y) (h : xg_H) (g : mg_H) => lg_W X a2 k n 18 [(0, .ref (lg_b X)), (1, .ref a), (2, .ref a2), (3, .int y3)] [] (Y, h, g)) y3 k n Y h g) : lg_W X a2 k n 1189 [(0, .ref (lg_b X)), (1, .ref a), (2, .ref a2), (3, .int y3)] [] (Y, h, g) := by
  unfold wp_law_24 at hF
  refine lg_aload_n (pc := 1189) C dL_law_1189 1 rfl ?_
  refine lg_aload_n (pc := 1190) C dL_law_1190 0 rfl ?_
  refine lg_iload_n (pc := 1191) C dL_law_1191 3 rfl ?_
  refine lg_iconst (pc := 1192) (v := 1) C dL_law_1192 (by decide) ?_
  refine lg_iadd (pc := 1193) C dL_law_1193 ?_
  obtain ⟨hi, hF⟩ := hF
  refine lg_sld (pc := 1194) C hi dL_law_1194 ?_
  refine lg_aload_n (pc := 1195) C dL_law_1195 0 rfl ?_
  refine lg_iload_n (pc := 1196) C dL_law_1196 3 rfl ?_
  refine lg_iconst (pc := 1197) (v := 2) C dL_law_1197 (by decide) ?_
  refine lg_iadd (pc := 1198) C dL_law_1198 ?_
  obtain ⟨hi, hF⟩ := hF
  refine lg_sld (pc := 1199) C hi dL_law_1199 ?_
  obtain ⟨hk, mc3, ms3, hfit, hF⟩ := hF
  refine lg_xvI (pc := 1200) C [.int (lg_xs X (y3 + 1).toNatClampNeg), .int (lg_xs X (y3 + 2).toNatClampNeg)] hk (met_X11_crowd mc3 ms3 Y a (lg_xs X (y3 + 1).toNatClampNeg) (lg_xs X (y3 + 2).toNatClampNeg) ) gL_law_X11_crowd rfl nd_X11_crowd ⟨Nat.le_of_ble_eq_true rfl, Nat.le_of_ble_eq_true rfl⟩ rfl rfl (Nat.le_of_ble_eq_true rfl) hfit dL_law_1200 hF (fun r1 Y4 h2 hF => ?_)
  refine lg_aload_n (pc := 1203) C dL_law_1203 2 rfl ?_
  refine lg_aload_n (pc := 1204) C dL_law_1204 0 rfl ?_
  refine lg_iload_n (pc := 1205) C dL_law_1205 3 rfl ?_
  refine lg_iconst (pc := 1206) (v := 1) C dL_law_1206 (by decide) ?_
  refine lg_iadd (pc := 1207) C dL_law_1207 ?_
  obtain ⟨hi, hF⟩ := hF
  refine lg_sld (pc := 1208) C hi dL_law_1208 ?_
  refine lg_aload_n (pc := 1209) C dL_law_1209 0 rfl ?_
  refine lg_iload_n (pc := 1210) C dL_law_1210 3 rfl ?_
  refine lg_iconst (pc := 1211) (v := 2) C dL_law_1211 (by decide) ?_
  refine lg_iadd (pc := 1212) C dL_law_1212 ?_
  obtain ⟨hi, hF⟩ := hF
  refine lg_sld (pc := 1213) C hi dL_law_1213 ?_
  obtain ⟨hfit, hF⟩ := hF
  refine lg_mI (pc := 1214) C [.int (lg_xs X (y3 + 1).toNatClampNeg), .int (lg_xs X (y3 + 2).toNatClampNeg)] (met_crowd (lg_xs X (y3 + 1).toNatClampNeg) (lg_xs X (y3 + 2).toNatClampNeg) ) gL_law_X12_crowd rfl ⟨rfl, rfl⟩ nd_crowd ⟨Nat.le_of_ble_eq_true rfl, Nat.le_of_ble_eq_true rfl⟩ rfl rfl (Nat.le_of_ble_eq_true rfl) hfit dL_law_1214 hF (fun r5 g6 hF => ?_)
  refine lg_icmp_eq (pc := 1217) 1426 C dL_law_1217 (by decide) (fun hc => ?_) (fun hc => ?_)
  · have hF := hF.1 hc
    obtain ⟨z7, ez7⟩ : ∃ y : Int32, y = y3 + 6 := ⟨_, rfl⟩
    have hF := hF z7 ez7
    refine lg_iinc (pc := 1426) (v := z7) (lv2 := [(3, .int z7), (0, .ref (lg_b X)), (1, .ref a), (2, .ref a2)]) C dL_law_1426 3 rfl (by rw [ez7]; rfl) (by decide) rfl ?_
    refine lg_sub (lv2 := [(0, .ref (lg_b X)), (1, .ref a), (2, .ref a2), (3, .int z7)]) [1, 2, 3, 0] rfl ?_
    refine lg_goto (pc := 1429) 18 C dL_law_1429 (by decide) ?_
    exact hF
  · have hF := hF.2 hc
    exact hF.elim
def wp_law_25 (X : lg_X) (a : Nat) (R : Int32 → Nat → Nat → xg_Y → xg_H → mg_H → Prop) (y3 : Int32) (k n : Nat) (Y : xg_Y) (h : xg_H) (g : mg_H) : Prop :=
  vp_in (y3 + 1) (lg_L X) ∧ (vp_in (y3 + 2) (lg_L X) ∧ (xg_is Y a 11 ∧ (k ≤ 600000 ∧ n ≤ 7302250) ∧ wp_X11_same Y (fun r1 h2 => vp_in (y3 + 1) (lg_L X) ∧ (vp_in (y3 + 2) (lg_L X) ∧ ((k ≤ 600000 ∧ n ≤ 7302250) ∧ wp_same (fun r3 g4 => (((r1 = r3) → ∀ z5 : Int32, z5 = y3 + 6 → R z5 k n Y h2 g4) ∧ ((¬ r1 = r3) → False))) (lg_xs X (y3 + 1).toNatClampNeg) (lg_xs X (y3 + 2).toNatClampNeg) g))) a (lg_xs X (y3 + 1).toNatClampNeg) (lg_xs X (y3 + 2).toNatClampNeg) h))
set_option maxHeartbeats 4000000 in
set_option maxRecDepth 100000 in
theorem met_law_25 (X : lg_X) (C : lg_ok X) (a a2 : Nat) (y3 : Int32) (k n : Nat) (Y : xg_Y) (h : xg_H) (g : mg_H) (hF : wp_law_25 X a (fun (y3 : Int32) (k n : Nat) (Y : xg_Y) (h : xg_H) (g : mg_H) => lg_W X a2 k n 18 [(0, .ref (lg_b X)), (1, .ref a), (2, .ref a2), (3, .int y3)] [] (Y, h, g)) y3 k n Y h g) : lg_W X a2 k n 1222 [(0, .ref (lg_b X)), (1, .ref a), (2, .ref a2), (3, .int y3)] [] (Y, h, g) := by
  unfold wp_law_25 at hF
  refine lg_aload_n (pc := 1222) C dL_law_1222 1 rfl ?_
  refine lg_aload_n (pc := 1223) C dL_law_1223 0 rfl ?_
  refine lg_iload_n (pc := 1224) C dL_law_1224 3 rfl ?_
  refine lg_iconst (pc := 1225) (v := 1) C dL_law_1225 (by decide) ?_
  refine lg_iadd (pc := 1226) C dL_law_1226 ?_
  obtain ⟨hi, hF⟩ := hF
  refine lg_sld (pc := 1227) C hi dL_law_1227 ?_
  refine lg_aload_n (pc := 1228) C dL_law_1228 0 rfl ?_
  refine lg_iload_n (pc := 1229) C dL_law_1229 3 rfl ?_
  refine lg_iconst (pc := 1230) (v := 2) C dL_law_1230 (by decide) ?_
  refine lg_iadd (pc := 1231) C dL_law_1231 ?_
  obtain ⟨hi, hF⟩ := hF
  refine lg_sld (pc := 1232) C hi dL_law_1232 ?_
  obtain ⟨hk, hfit, hF⟩ := hF
  refine lg_xfI (pc := 1233) C [.int (lg_xs X (y3 + 1).toNatClampNeg), .int (lg_xs X (y3 + 2).toNatClampNeg)] hk (met_X11_same Y a (lg_xs X (y3 + 1).toNatClampNeg) (lg_xs X (y3 + 2).toNatClampNeg) ) gL_law_X11_same rfl ⟨rfl, rfl⟩ nd_X11_same ⟨Nat.le_of_ble_eq_true rfl, Nat.le_of_ble_eq_true rfl⟩ rfl rfl (Nat.le_of_ble_eq_true rfl) hfit dL_law_1233 hF (fun r1 h2 hF => ?_)
  refine lg_aload_n (pc := 1236) C dL_law_1236 2 rfl ?_
  refine lg_aload_n (pc := 1237) C dL_law_1237 0 rfl ?_
  refine lg_iload_n (pc := 1238) C dL_law_1238 3 rfl ?_
  refine lg_iconst (pc := 1239) (v := 1) C dL_law_1239 (by decide) ?_
  refine lg_iadd (pc := 1240) C dL_law_1240 ?_
  obtain ⟨hi, hF⟩ := hF
  refine lg_sld (pc := 1241) C hi dL_law_1241 ?_
  refine lg_aload_n (pc := 1242) C dL_law_1242 0 rfl ?_
  refine lg_iload_n (pc := 1243) C dL_law_1243 3 rfl ?_
  refine lg_iconst (pc := 1244) (v := 2) C dL_law_1244 (by decide) ?_
  refine lg_iadd (pc := 1245) C dL_law_1245 ?_
  obtain ⟨hi, hF⟩ := hF
  refine lg_sld (pc := 1246) C hi dL_law_1246 ?_
  obtain ⟨hfit, hF⟩ := hF
  refine lg_mI (pc := 1247) C [.int (lg_xs X (y3 + 1).toNatClampNeg), .int (lg_xs X (y3 + 2).toNatClampNeg)] (met_same (lg_xs X (y3 + 1).toNatClampNeg) (lg_xs X (y3 + 2).toNatClampNeg) ) gL_law_X12_same rfl ⟨rfl, rfl⟩ nd_same ⟨Nat.le_of_ble_eq_true rfl, Nat.le_of_ble_eq_true rfl⟩ rfl rfl (Nat.le_of_ble_eq_true rfl) hfit dL_law_1247 hF (fun r3 g4 hF => ?_)
  refine lg_icmp_eq (pc := 1250) 1426 C dL_law_1250 (by decide) (fun hc => ?_) (fun hc => ?_)
  · have hF := hF.1 hc
    obtain ⟨z5, ez5⟩ : ∃ y : Int32, y = y3 + 6 := ⟨_, rfl⟩
    have hF := hF z5 ez5
    refine lg_iinc (pc := 1426) (v := z5) (lv2 := [(3, .int z5), (0, .ref (lg_b X)), (1, .ref a), (2, .ref a2)]) C dL_law_1426 3 rfl (by rw [ez5]; rfl) (by decide) rfl ?_
    refine lg_sub (lv2 := [(0, .ref (lg_b X)), (1, .ref a), (2, .ref a2), (3, .int z5)]) [1, 2, 3, 0] rfl ?_
    refine lg_goto (pc := 1429) 18 C dL_law_1429 (by decide) ?_
    exact hF
  · have hF := hF.2 hc
    exact hF.elim
def wp_law_26 (X : lg_X) (a : Nat) (R : Int32 → Nat → Nat → xg_Y → xg_H → mg_H → Prop) (y3 : Int32) (k n : Nat) (Y : xg_Y) (h : xg_H) (g : mg_H) : Prop :=
  vp_in (y3 + 1) (lg_L X) ∧ (vp_in (y3 + 2) (lg_L X) ∧ (vp_in (y3 + 3) (lg_L X) ∧ (((((lg_xs X (y3 + 3).toNatClampNeg) = 0) → xg_is Y a 11 ∧ ∃ mc3 ms3 : Nat, (k + mc3 ≤ 600000 ∧ n + ms3 ≤ 7302250) ∧ wp_X11_early mc3 ms3 Y (fun r1 Y4 h2 => vp_in (y3 + 1) (lg_L X) ∧ (vp_in (y3 + 2) (lg_L X) ∧ (vp_in (y3 + 3) (lg_L X) ∧ (((((lg_xs X (y3 + 3).toNatClampNeg) = 0) → ((k + mc3) ≤ 600000 ∧ (n + ms3) ≤ 7302250) ∧ wp_early (fun r5 g6 => (((r1 = r5) → ∀ z7 : Int32, z7 = y3 + 6 → R z7 (k + mc3) (n + ms3) Y4 h2 g6) ∧ ((¬ r1 = r5) → False))) (lg_xs X (y3 + 1).toNatClampNeg) (lg_xs X (y3 + 2).toNatClampNeg) 0 g) ∧ ((¬ (lg_xs X (y3 + 3).toNatClampNeg) = 0) → ((k + mc3) ≤ 600000 ∧ (n + ms3) ≤ 7302250) ∧ wp_early (fun r8 g9 => (((r1 = r8) → ∀ z10 : Int32, z10 = y3 + 6 → R z10 (k + mc3) (n + ms3) Y4 h2 g9) ∧ ((¬ r1 = r8) → False))) (lg_xs X (y3 + 1).toNatClampNeg) (lg_xs X (y3 + 2).toNatClampNeg) 1 g)))))) a (lg_xs X (y3 + 1).toNatClampNeg) (lg_xs X (y3 + 2).toNatClampNeg) 0 h) ∧ ((¬ (lg_xs X (y3 + 3).toNatClampNeg) = 0) → xg_is Y a 11 ∧ ∃ mc13 ms13 : Nat, (k + mc13 ≤ 600000 ∧ n + ms13 ≤ 7302250) ∧ wp_X11_early mc13 ms13 Y (fun r11 Y14 h12 => vp_in (y3 + 1) (lg_L X) ∧ (vp_in (y3 + 2) (lg_L X) ∧ (vp_in (y3 + 3) (lg_L X) ∧ (((((lg_xs X (y3 + 3).toNatClampNeg) = 0) → ((k + mc13) ≤ 600000 ∧ (n + ms13) ≤ 7302250) ∧ wp_early (fun r15 g16 => (((r11 = r15) → ∀ z17 : Int32, z17 = y3 + 6 → R z17 (k + mc13) (n + ms13) Y14 h12 g16) ∧ ((¬ r11 = r15) → False))) (lg_xs X (y3 + 1).toNatClampNeg) (lg_xs X (y3 + 2).toNatClampNeg) 0 g) ∧ ((¬ (lg_xs X (y3 + 3).toNatClampNeg) = 0) → ((k + mc13) ≤ 600000 ∧ (n + ms13) ≤ 7302250) ∧ wp_early (fun r18 g19 => (((r11 = r18) → ∀ z20 : Int32, z20 = y3 + 6 → R z20 (k + mc13) (n + ms13) Y14 h12 g19) ∧ ((¬ r11 = r18) → False))) (lg_xs X (y3 + 1).toNatClampNeg) (lg_xs X (y3 + 2).toNatClampNeg) 1 g)))))) a (lg_xs X (y3 + 1).toNatClampNeg) (lg_xs X (y3 + 2).toNatClampNeg) 1 h)))))
set_option maxHeartbeats 4000000 in
set_option maxRecDepth 100000 in
theorem met_law_26 (X : lg_X) (C : lg_ok X) (a a2 : Nat) (y3 : Int32) (k n : Nat) (Y : xg_Y) (h : xg_H) (g : mg_H) (hF : wp_law_26 X a (fun (y3 : Int32) (k n : Nat) (Y : xg_Y) (h : xg_H) (g : mg_H) => lg_W X a2 k n 18 [(0, .ref (lg_b X)), (1, .ref a), (2, .ref a2), (3, .int y3)] [] (Y, h, g)) y3 k n Y h g) : lg_W X a2 k n 1255 [(0, .ref (lg_b X)), (1, .ref a), (2, .ref a2), (3, .int y3)] [] (Y, h, g) := by
  unfold wp_law_26 at hF
  refine lg_aload_n (pc := 1255) C dL_law_1255 1 rfl ?_
  refine lg_aload_n (pc := 1256) C dL_law_1256 0 rfl ?_
  refine lg_iload_n (pc := 1257) C dL_law_1257 3 rfl ?_
  refine lg_iconst (pc := 1258) (v := 1) C dL_law_1258 (by decide) ?_
  refine lg_iadd (pc := 1259) C dL_law_1259 ?_
  obtain ⟨hi, hF⟩ := hF
  refine lg_sld (pc := 1260) C hi dL_law_1260 ?_
  refine lg_aload_n (pc := 1261) C dL_law_1261 0 rfl ?_
  refine lg_iload_n (pc := 1262) C dL_law_1262 3 rfl ?_
  refine lg_iconst (pc := 1263) (v := 2) C dL_law_1263 (by decide) ?_
  refine lg_iadd (pc := 1264) C dL_law_1264 ?_
  obtain ⟨hi, hF⟩ := hF
  refine lg_sld (pc := 1265) C hi dL_law_1265 ?_
  refine lg_aload_n (pc := 1266) C dL_law_1266 0 rfl ?_
  refine lg_iload_n (pc := 1267) C dL_law_1267 3 rfl ?_
  refine lg_iconst (pc := 1268) (v := 3) C dL_law_1268 (by decide) ?_
  refine lg_iadd (pc := 1269) C dL_law_1269 ?_
  obtain ⟨hi, hF⟩ := hF
  refine lg_sld (pc := 1270) C hi dL_law_1270 ?_
  refine lg_if_eq (pc := 1271) 1278 C dL_law_1271 (by decide) (fun hc => ?_) (fun hc => ?_)
  · have hF := hF.1 hc
    refine lg_iconst (pc := 1278) (v := 0) C dL_law_1278 (by decide) ?_
    obtain ⟨hk, mc3, ms3, hfit, hF⟩ := hF
    refine lg_xvI (pc := 1279) C [.int (lg_xs X (y3 + 1).toNatClampNeg), .int (lg_xs X (y3 + 2).toNatClampNeg), .int 0] hk (met_X11_early mc3 ms3 Y a (lg_xs X (y3 + 1).toNatClampNeg) (lg_xs X (y3 + 2).toNatClampNeg) 0 ) gL_law_X11_early rfl nd_X11_early ⟨Nat.le_of_ble_eq_true rfl, Nat.le_of_ble_eq_true rfl⟩ rfl rfl (Nat.le_of_ble_eq_true rfl) hfit dL_law_1279 hF (fun r1 Y4 h2 hF => ?_)
    refine lg_aload_n (pc := 1282) C dL_law_1282 2 rfl ?_
    refine lg_aload_n (pc := 1283) C dL_law_1283 0 rfl ?_
    refine lg_iload_n (pc := 1284) C dL_law_1284 3 rfl ?_
    refine lg_iconst (pc := 1285) (v := 1) C dL_law_1285 (by decide) ?_
    refine lg_iadd (pc := 1286) C dL_law_1286 ?_
    obtain ⟨hi, hF⟩ := hF
    refine lg_sld (pc := 1287) C hi dL_law_1287 ?_
    refine lg_aload_n (pc := 1288) C dL_law_1288 0 rfl ?_
    refine lg_iload_n (pc := 1289) C dL_law_1289 3 rfl ?_
    refine lg_iconst (pc := 1290) (v := 2) C dL_law_1290 (by decide) ?_
    refine lg_iadd (pc := 1291) C dL_law_1291 ?_
    obtain ⟨hi, hF⟩ := hF
    refine lg_sld (pc := 1292) C hi dL_law_1292 ?_
    refine lg_aload_n (pc := 1293) C dL_law_1293 0 rfl ?_
    refine lg_iload_n (pc := 1294) C dL_law_1294 3 rfl ?_
    refine lg_iconst (pc := 1295) (v := 3) C dL_law_1295 (by decide) ?_
    refine lg_iadd (pc := 1296) C dL_law_1296 ?_
    obtain ⟨hi, hF⟩ := hF
    refine lg_sld (pc := 1297) C hi dL_law_1297 ?_
    refine lg_if_eq (pc := 1298) 1305 C dL_law_1298 (by decide) (fun hc => ?_) (fun hc => ?_)
    · have hF := hF.1 hc
      refine lg_iconst (pc := 1305) (v := 0) C dL_law_1305 (by decide) ?_
      obtain ⟨hfit, hF⟩ := hF
      refine lg_mI (pc := 1306) C [.int (lg_xs X (y3 + 1).toNatClampNeg), .int (lg_xs X (y3 + 2).toNatClampNeg), .int 0] (met_early (lg_xs X (y3 + 1).toNatClampNeg) (lg_xs X (y3 + 2).toNatClampNeg) 0 ) gL_law_X12_early rfl ⟨rfl, rfl⟩ nd_early ⟨Nat.le_of_ble_eq_true rfl, Nat.le_of_ble_eq_true rfl⟩ rfl rfl (Nat.le_of_ble_eq_true rfl) hfit dL_law_1306 hF (fun r5 g6 hF => ?_)
      refine lg_icmp_eq (pc := 1309) 1426 C dL_law_1309 (by decide) (fun hc => ?_) (fun hc => ?_)
      · have hF := hF.1 hc
        obtain ⟨z7, ez7⟩ : ∃ y : Int32, y = y3 + 6 := ⟨_, rfl⟩
        have hF := hF z7 ez7
        refine lg_iinc (pc := 1426) (v := z7) (lv2 := [(3, .int z7), (0, .ref (lg_b X)), (1, .ref a), (2, .ref a2)]) C dL_law_1426 3 rfl (by rw [ez7]; rfl) (by decide) rfl ?_
        refine lg_sub (lv2 := [(0, .ref (lg_b X)), (1, .ref a), (2, .ref a2), (3, .int z7)]) [1, 2, 3, 0] rfl ?_
        refine lg_goto (pc := 1429) 18 C dL_law_1429 (by decide) ?_
        exact hF
      · have hF := hF.2 hc
        exact hF.elim
    · have hF := hF.2 hc
      refine lg_iconst (pc := 1301) (v := 1) C dL_law_1301 (by decide) ?_
      refine lg_goto (pc := 1302) 1306 C dL_law_1302 (by decide) ?_
      obtain ⟨hfit, hF⟩ := hF
      refine lg_mI (pc := 1306) C [.int (lg_xs X (y3 + 1).toNatClampNeg), .int (lg_xs X (y3 + 2).toNatClampNeg), .int 1] (met_early (lg_xs X (y3 + 1).toNatClampNeg) (lg_xs X (y3 + 2).toNatClampNeg) 1 ) gL_law_X12_early rfl ⟨rfl, rfl⟩ nd_early ⟨Nat.le_of_ble_eq_true rfl, Nat.le_of_ble_eq_true rfl⟩ rfl rfl (Nat.le_of_ble_eq_true rfl) hfit dL_law_1306 hF (fun r8 g9 hF => ?_)
      refine lg_icmp_eq (pc := 1309) 1426 C dL_law_1309 (by decide) (fun hc => ?_) (fun hc => ?_)
      · have hF := hF.1 hc
        obtain ⟨z10, ez10⟩ : ∃ y : Int32, y = y3 + 6 := ⟨_, rfl⟩
        have hF := hF z10 ez10
        refine lg_iinc (pc := 1426) (v := z10) (lv2 := [(3, .int z10), (0, .ref (lg_b X)), (1, .ref a), (2, .ref a2)]) C dL_law_1426 3 rfl (by rw [ez10]; rfl) (by decide) rfl ?_
        refine lg_sub (lv2 := [(0, .ref (lg_b X)), (1, .ref a), (2, .ref a2), (3, .int z10)]) [1, 2, 3, 0] rfl ?_
        refine lg_goto (pc := 1429) 18 C dL_law_1429 (by decide) ?_
        exact hF
      · have hF := hF.2 hc
        exact hF.elim
  · have hF := hF.2 hc
    refine lg_iconst (pc := 1274) (v := 1) C dL_law_1274 (by decide) ?_
    refine lg_goto (pc := 1275) 1279 C dL_law_1275 (by decide) ?_
    obtain ⟨hk, mc13, ms13, hfit, hF⟩ := hF
    refine lg_xvI (pc := 1279) C [.int (lg_xs X (y3 + 1).toNatClampNeg), .int (lg_xs X (y3 + 2).toNatClampNeg), .int 1] hk (met_X11_early mc13 ms13 Y a (lg_xs X (y3 + 1).toNatClampNeg) (lg_xs X (y3 + 2).toNatClampNeg) 1 ) gL_law_X11_early rfl nd_X11_early ⟨Nat.le_of_ble_eq_true rfl, Nat.le_of_ble_eq_true rfl⟩ rfl rfl (Nat.le_of_ble_eq_true rfl) hfit dL_law_1279 hF (fun r11 Y14 h12 hF => ?_)
    refine lg_aload_n (pc := 1282) C dL_law_1282 2 rfl ?_
    refine lg_aload_n (pc := 1283) C dL_law_1283 0 rfl ?_
    refine lg_iload_n (pc := 1284) C dL_law_1284 3 rfl ?_
    refine lg_iconst (pc := 1285) (v := 1) C dL_law_1285 (by decide) ?_
    refine lg_iadd (pc := 1286) C dL_law_1286 ?_
    obtain ⟨hi, hF⟩ := hF
    refine lg_sld (pc := 1287) C hi dL_law_1287 ?_
    refine lg_aload_n (pc := 1288) C dL_law_1288 0 rfl ?_
    refine lg_iload_n (pc := 1289) C dL_law_1289 3 rfl ?_
    refine lg_iconst (pc := 1290) (v := 2) C dL_law_1290 (by decide) ?_
    refine lg_iadd (pc := 1291) C dL_law_1291 ?_
    obtain ⟨hi, hF⟩ := hF
    refine lg_sld (pc := 1292) C hi dL_law_1292 ?_
    refine lg_aload_n (pc := 1293) C dL_law_1293 0 rfl ?_
    refine lg_iload_n (pc := 1294) C dL_law_1294 3 rfl ?_
    refine lg_iconst (pc := 1295) (v := 3) C dL_law_1295 (by decide) ?_
    refine lg_iadd (pc := 1296) C dL_law_1296 ?_
    obtain ⟨hi, hF⟩ := hF
    refine lg_sld (pc := 1297) C hi dL_law_1297 ?_
    refine lg_if_eq (pc := 1298) 1305 C dL_law_1298 (by decide) (fun hc => ?_) (fun hc => ?_)
    · have hF := hF.1 hc
      refine lg_iconst (pc := 1305) (v := 0) C dL_law_1305 (by decide) ?_
      obtain ⟨hfit, hF⟩ := hF
      refine lg_mI (pc := 1306) C [.int (lg_xs X (y3 + 1).toNatClampNeg), .int (lg_xs X (y3 + 2).toNatClampNeg), .int 0] (met_early (lg_xs X (y3 + 1).toNatClampNeg) (lg_xs X (y3 + 2).toNatClampNeg) 0 ) gL_law_X12_early rfl ⟨rfl, rfl⟩ nd_early ⟨Nat.le_of_ble_eq_true rfl, Nat.le_of_ble_eq_true rfl⟩ rfl rfl (Nat.le_of_ble_eq_true rfl) hfit dL_law_1306 hF (fun r15 g16 hF => ?_)
      refine lg_icmp_eq (pc := 1309) 1426 C dL_law_1309 (by decide) (fun hc => ?_) (fun hc => ?_)
      · have hF := hF.1 hc
        obtain ⟨z17, ez17⟩ : ∃ y : Int32, y = y3 + 6 := ⟨_, rfl⟩
        have hF := hF z17 ez17
        refine lg_iinc (pc := 1426) (v := z17) (lv2 := [(3, .int z17), (0, .ref (lg_b X)), (1, .ref a), (2, .ref a2)]) C dL_law_1426 3 rfl (by rw [ez17]; rfl) (by decide) rfl ?_
        refine lg_sub (lv2 := [(0, .ref (lg_b X)), (1, .ref a), (2, .ref a2), (3, .int z17)]) [1, 2, 3, 0] rfl ?_
        refine lg_goto (pc := 1429) 18 C dL_law_1429 (by decide) ?_
        exact hF
      · have hF := hF.2 hc
        exact hF.elim
    · have hF := hF.2 hc
      refine lg_iconst (pc := 1301) (v := 1) C dL_law_1301 (by decide) ?_
      refine lg_goto (pc := 1302) 1306 C dL_law_1302 (by decide) ?_
      obtain ⟨hfit, hF⟩ := hF
      refine lg_mI (pc := 1306) C [.int (lg_xs X (y3 + 1).toNatClampNeg), .int (lg_xs X (y3 + 2).toNatClampNeg), .int 1] (met_early (lg_xs X (y3 + 1).toNatClampNeg) (lg_xs X (y3 + 2).toNatClampNeg) 1 ) gL_law_X12_early rfl ⟨rfl, rfl⟩ nd_early ⟨Nat.le_of_ble_eq_true rfl, Nat.le_of_ble_eq_true rfl⟩ rfl rfl (Nat.le_of_ble_eq_true rfl) hfit dL_law_1306 hF (fun r18 g19 hF => ?_)
      refine lg_icmp_eq (pc := 1309) 1426 C dL_law_1309 (by decide) (fun hc => ?_) (fun hc => ?_)
      · have hF := hF.1 hc
        obtain ⟨z20, ez20⟩ : ∃ y : Int32, y = y3 + 6 := ⟨_, rfl⟩
        have hF := hF z20 ez20
        refine lg_iinc (pc := 1426) (v := z20) (lv2 := [(3, .int z20), (0, .ref (lg_b X)), (1, .ref a), (2, .ref a2)]) C dL_law_1426 3 rfl (by rw [ez20]; rfl) (by decide) rfl ?_
        refine lg_sub (lv2 := [(0, .ref (lg_b X)), (1, .ref a), (2, .ref a2), (3, .int z20)]) [1, 2, 3, 0] rfl ?_
        refine lg_goto (pc := 1429) 18 C dL_law_1429 (by decide) ?_
        exact hF
      · have hF := hF.2 hc
        exact hF.elim
def wp_law_27 (X : lg_X) (a : Nat) (R : Int32 → Nat → Nat → xg_Y → xg_H → mg_H → Prop) (y3 : Int32) (k n : Nat) (Y : xg_Y) (h : xg_H) (g : mg_H) : Prop :=
  vp_in (y3 + 1) (lg_L X) ∧ (vp_in (y3 + 2) (lg_L X) ∧ (vp_in (y3 + 3) (lg_L X) ∧ (xg_is Y a 11 ∧ (k ≤ 600000 ∧ n ≤ 7302250) ∧ wp_X11_after Y (fun r1 h2 => vp_in (y3 + 1) (lg_L X) ∧ (vp_in (y3 + 2) (lg_L X) ∧ (vp_in (y3 + 3) (lg_L X) ∧ ((k ≤ 600000 ∧ n ≤ 7302250) ∧ wp_after (fun r3 g4 => (((r1 = r3) → ∀ z5 : Int32, z5 = y3 + 6 → R z5 k n Y h2 g4) ∧ ((¬ r1 = r3) → False))) (lg_xs X (y3 + 1).toNatClampNeg) (lg_xs X (y3 + 2).toNatClampNeg) (lg_xs X (y3 + 3).toNatClampNeg) g)))) a (lg_xs X (y3 + 1).toNatClampNeg) (lg_xs X (y3 + 2).toNatClampNeg) (lg_xs X (y3 + 3).toNatClampNeg) h)))
set_option maxHeartbeats 4000000 in
set_option maxRecDepth 100000 in
theorem met_law_27 (X : lg_X) (C : lg_ok X) (a a2 : Nat) (y3 : Int32) (k n : Nat) (Y : xg_Y) (h : xg_H) (g : mg_H) (hF : wp_law_27 X a (fun (y3 : Int32) (k n : Nat) (Y : xg_Y) (h : xg_H) (g : mg_H) => lg_W X a2 k n 18 [(0, .ref (lg_b X)), (1, .ref a), (2, .ref a2), (3, .int y3)] [] (Y, h, g)) y3 k n Y h g) : lg_W X a2 k n 1314 [(0, .ref (lg_b X)), (1, .ref a), (2, .ref a2), (3, .int y3)] [] (Y, h, g) := by
  unfold wp_law_27 at hF
  refine lg_aload_n (pc := 1314) C dL_law_1314 1 rfl ?_
  refine lg_aload_n (pc := 1315) C dL_law_1315 0 rfl ?_
  refine lg_iload_n (pc := 1316) C dL_law_1316 3 rfl ?_
  refine lg_iconst (pc := 1317) (v := 1) C dL_law_1317 (by decide) ?_
  refine lg_iadd (pc := 1318) C dL_law_1318 ?_
  obtain ⟨hi, hF⟩ := hF
  refine lg_sld (pc := 1319) C hi dL_law_1319 ?_
  refine lg_aload_n (pc := 1320) C dL_law_1320 0 rfl ?_
  refine lg_iload_n (pc := 1321) C dL_law_1321 3 rfl ?_
  refine lg_iconst (pc := 1322) (v := 2) C dL_law_1322 (by decide) ?_
  refine lg_iadd (pc := 1323) C dL_law_1323 ?_
  obtain ⟨hi, hF⟩ := hF
  refine lg_sld (pc := 1324) C hi dL_law_1324 ?_
  refine lg_aload_n (pc := 1325) C dL_law_1325 0 rfl ?_
  refine lg_iload_n (pc := 1326) C dL_law_1326 3 rfl ?_
  refine lg_iconst (pc := 1327) (v := 3) C dL_law_1327 (by decide) ?_
  refine lg_iadd (pc := 1328) C dL_law_1328 ?_
  obtain ⟨hi, hF⟩ := hF
  refine lg_sld (pc := 1329) C hi dL_law_1329 ?_
  obtain ⟨hk, hfit, hF⟩ := hF
  refine lg_xfI (pc := 1330) C [.int (lg_xs X (y3 + 1).toNatClampNeg), .int (lg_xs X (y3 + 2).toNatClampNeg), .int (lg_xs X (y3 + 3).toNatClampNeg)] hk (met_X11_after Y a (lg_xs X (y3 + 1).toNatClampNeg) (lg_xs X (y3 + 2).toNatClampNeg) (lg_xs X (y3 + 3).toNatClampNeg) ) gL_law_X11_after rfl ⟨rfl, rfl⟩ nd_X11_after ⟨Nat.le_of_ble_eq_true rfl, Nat.le_of_ble_eq_true rfl⟩ rfl rfl (Nat.le_of_ble_eq_true rfl) hfit dL_law_1330 hF (fun r1 h2 hF => ?_)
  refine lg_aload_n (pc := 1333) C dL_law_1333 2 rfl ?_
  refine lg_aload_n (pc := 1334) C dL_law_1334 0 rfl ?_
  refine lg_iload_n (pc := 1335) C dL_law_1335 3 rfl ?_
  refine lg_iconst (pc := 1336) (v := 1) C dL_law_1336 (by decide) ?_
  refine lg_iadd (pc := 1337) C dL_law_1337 ?_
  obtain ⟨hi, hF⟩ := hF
  refine lg_sld (pc := 1338) C hi dL_law_1338 ?_
  refine lg_aload_n (pc := 1339) C dL_law_1339 0 rfl ?_
  refine lg_iload_n (pc := 1340) C dL_law_1340 3 rfl ?_
  refine lg_iconst (pc := 1341) (v := 2) C dL_law_1341 (by decide) ?_
  refine lg_iadd (pc := 1342) C dL_law_1342 ?_
  obtain ⟨hi, hF⟩ := hF
  refine lg_sld (pc := 1343) C hi dL_law_1343 ?_
  refine lg_aload_n (pc := 1344) C dL_law_1344 0 rfl ?_
  refine lg_iload_n (pc := 1345) C dL_law_1345 3 rfl ?_
  refine lg_iconst (pc := 1346) (v := 3) C dL_law_1346 (by decide) ?_
  refine lg_iadd (pc := 1347) C dL_law_1347 ?_
  obtain ⟨hi, hF⟩ := hF
  refine lg_sld (pc := 1348) C hi dL_law_1348 ?_
  obtain ⟨hfit, hF⟩ := hF
  refine lg_mI (pc := 1349) C [.int (lg_xs X (y3 + 1).toNatClampNeg), .int (lg_xs X (y3 + 2).toNatClampNeg), .int (lg_xs X (y3 + 3).toNatClampNeg)] (met_after (lg_xs X (y3 + 1).toNatClampNeg) (lg_xs X (y3 + 2).toNatClampNeg) (lg_xs X (y3 + 3).toNatClampNeg) ) gL_law_X12_after rfl ⟨rfl, rfl⟩ nd_after ⟨Nat.le_of_ble_eq_true rfl, Nat.le_of_ble_eq_true rfl⟩ rfl rfl (Nat.le_of_ble_eq_true rfl) hfit dL_law_1349 hF (fun r3 g4 hF => ?_)
  refine lg_icmp_eq (pc := 1352) 1426 C dL_law_1352 (by decide) (fun hc => ?_) (fun hc => ?_)
  · have hF := hF.1 hc
    obtain ⟨z5, ez5⟩ : ∃ y : Int32, y = y3 + 6 := ⟨_, rfl⟩
    have hF := hF z5 ez5
    refine lg_iinc (pc := 1426) (v := z5) (lv2 := [(3, .int z5), (0, .ref (lg_b X)), (1, .ref a), (2, .ref a2)]) C dL_law_1426 3 rfl (by rw [ez5]; rfl) (by decide) rfl ?_
    refine lg_sub (lv2 := [(0, .ref (lg_b X)), (1, .ref a), (2, .ref a2), (3, .int z5)]) [1, 2, 3, 0] rfl ?_
    refine lg_goto (pc := 1429) 18 C dL_law_1429 (by decide) ?_
    exact hF
  · have hF := hF.2 hc
    exact hF.elim
def wp_law_28 (X : lg_X) (a : Nat) (R : Int32 → Nat → Nat → xg_Y → xg_H → mg_H → Prop) (y3 : Int32) (k n : Nat) (Y : xg_Y) (h : xg_H) (g : mg_H) : Prop :=
  vp_in (y3 + 1) (lg_L X) ∧ (xg_is Y a 11 ∧ (k ≤ 600000 ∧ n ≤ 7302250) ∧ wp_X11_count Y (fun r1 h2 => vp_in (y3 + 1) (lg_L X) ∧ ((k ≤ 600000 ∧ n ≤ 7302250) ∧ wp_count (fun r3 g4 => (((r1 = r3) → ∀ z5 : Int32, z5 = y3 + 6 → R z5 k n Y h2 g4) ∧ ((¬ r1 = r3) → False))) (lg_xs X (y3 + 1).toNatClampNeg) g)) a (lg_xs X (y3 + 1).toNatClampNeg) h)
set_option maxHeartbeats 4000000 in
set_option maxRecDepth 100000 in
theorem met_law_28 (X : lg_X) (C : lg_ok X) (a a2 : Nat) (y3 : Int32) (k n : Nat) (Y : xg_Y) (h : xg_H) (g : mg_H) (hF : wp_law_28 X a (fun (y3 : Int32) (k n : Nat) (Y : xg_Y) (h : xg_H) (g : mg_H) => lg_W X a2 k n 18 [(0, .ref (lg_b X)), (1, .ref a), (2, .ref a2), (3, .int y3)] [] (Y, h, g)) y3 k n Y h g) : lg_W X a2 k n 1357 [(0, .ref (lg_b X)), (1, .ref a), (2, .ref a2), (3, .int y3)] [] (Y, h, g) := by
  unfold wp_law_28 at hF
  refine lg_aload_n (pc := 1357) C dL_law_1357 1 rfl ?_
  refine lg_aload_n (pc := 1358) C dL_law_1358 0 rfl ?_
  refine lg_iload_n (pc := 1359) C dL_law_1359 3 rfl ?_
  refine lg_iconst (pc := 1360) (v := 1) C dL_law_1360 (by decide) ?_
  refine lg_iadd (pc := 1361) C dL_law_1361 ?_
  obtain ⟨hi, hF⟩ := hF
  refine lg_sld (pc := 1362) C hi dL_law_1362 ?_
  obtain ⟨hk, hfit, hF⟩ := hF
  refine lg_xfI (pc := 1363) C [.int (lg_xs X (y3 + 1).toNatClampNeg)] hk (met_X11_count Y a (lg_xs X (y3 + 1).toNatClampNeg) ) gL_law_X11_count rfl ⟨rfl, rfl⟩ nd_X11_count ⟨Nat.le_of_ble_eq_true rfl, Nat.le_of_ble_eq_true rfl⟩ rfl rfl (Nat.le_of_ble_eq_true rfl) hfit dL_law_1363 hF (fun r1 h2 hF => ?_)
  refine lg_aload_n (pc := 1366) C dL_law_1366 2 rfl ?_
  refine lg_aload_n (pc := 1367) C dL_law_1367 0 rfl ?_
  refine lg_iload_n (pc := 1368) C dL_law_1368 3 rfl ?_
  refine lg_iconst (pc := 1369) (v := 1) C dL_law_1369 (by decide) ?_
  refine lg_iadd (pc := 1370) C dL_law_1370 ?_
  obtain ⟨hi, hF⟩ := hF
  refine lg_sld (pc := 1371) C hi dL_law_1371 ?_
  obtain ⟨hfit, hF⟩ := hF
  refine lg_mI (pc := 1372) C [.int (lg_xs X (y3 + 1).toNatClampNeg)] (met_count (lg_xs X (y3 + 1).toNatClampNeg) ) gL_law_X12_count rfl ⟨rfl, rfl⟩ nd_count ⟨Nat.le_of_ble_eq_true rfl, Nat.le_of_ble_eq_true rfl⟩ rfl rfl (Nat.le_of_ble_eq_true rfl) hfit dL_law_1372 hF (fun r3 g4 hF => ?_)
  refine lg_icmp_eq (pc := 1375) 1426 C dL_law_1375 (by decide) (fun hc => ?_) (fun hc => ?_)
  · have hF := hF.1 hc
    obtain ⟨z5, ez5⟩ : ∃ y : Int32, y = y3 + 6 := ⟨_, rfl⟩
    have hF := hF z5 ez5
    refine lg_iinc (pc := 1426) (v := z5) (lv2 := [(3, .int z5), (0, .ref (lg_b X)), (1, .ref a), (2, .ref a2)]) C dL_law_1426 3 rfl (by rw [ez5]; rfl) (by decide) rfl ?_
    refine lg_sub (lv2 := [(0, .ref (lg_b X)), (1, .ref a), (2, .ref a2), (3, .int z5)]) [1, 2, 3, 0] rfl ?_
    refine lg_goto (pc := 1429) 18 C dL_law_1429 (by decide) ?_
    exact hF
  · have hF := hF.2 hc
    exact hF.elim
def wp_law_29 (X : lg_X) (a : Nat) (R : Int32 → Nat → Nat → xg_Y → xg_H → mg_H → Prop) (y3 : Int32) (k n : Nat) (Y : xg_Y) (h : xg_H) (g : mg_H) : Prop :=
  vp_in (y3 + 1) (lg_L X) ∧ (xg_is Y a 11 ∧ ∃ mc3 ms3 : Nat, (k + mc3 ≤ 600000 ∧ n + ms3 ≤ 7302250) ∧ wp_X11_image mc3 ms3 Y (fun r1 Y4 h2 => vp_in (y3 + 1) (lg_L X) ∧ (((k + mc3) ≤ 600000 ∧ (n + ms3) ≤ 7302250) ∧ wp_image (fun r5 g6 => (((r1 = r5) → ∀ z7 : Int32, z7 = y3 + 6 → R z7 (k + mc3) (n + ms3) Y4 h2 g6) ∧ ((¬ r1 = r5) → False))) (lg_xs X (y3 + 1).toNatClampNeg) g)) a (lg_xs X (y3 + 1).toNatClampNeg) h)
set_option maxHeartbeats 4000000 in
set_option maxRecDepth 100000 in
theorem met_law_29 (X : lg_X) (C : lg_ok X) (a a2 : Nat) (y3 : Int32) (k n : Nat) (Y : xg_Y) (h : xg_H) (g : mg_H) (hF : wp_law_29 X a (fun (y3 : Int32) (k n : Nat) (Y : xg_Y) (h : xg_H) (g : mg_H) => lg_W X a2 k n 18 [(0, .ref (lg_b X)), (1, .ref a), (2, .ref a2), (3, .int y3)] [] (Y, h, g)) y3 k n Y h g) : lg_W X a2 k n 1380 [(0, .ref (lg_b X)), (1, .ref a), (2, .ref a2), (3, .int y3)] [] (Y, h, g) := by
  unfold wp_law_29 at hF
  refine lg_aload_n (pc := 1380) C dL_law_1380 1 rfl ?_
  refine lg_aload_n (pc := 1381) C dL_law_1381 0 rfl ?_
  refine lg_iload_n (pc := 1382) C dL_law_1382 3 rfl ?_
  refine lg_iconst (pc := 1383) (v := 1) C dL_law_1383 (by decide) ?_
  refine lg_iadd (pc := 1384) C dL_law_1384 ?_
  obtain ⟨hi, hF⟩ := hF
  refine lg_sld (pc := 1385) C hi dL_law_1385 ?_
  obtain ⟨hk, mc3, ms3, hfit, hF⟩ := hF
  refine lg_xvI (pc := 1386) C [.int (lg_xs X (y3 + 1).toNatClampNeg)] hk (met_X11_image mc3 ms3 Y a (lg_xs X (y3 + 1).toNatClampNeg) ) gL_law_X11_image rfl nd_X11_image ⟨Nat.le_of_ble_eq_true rfl, Nat.le_of_ble_eq_true rfl⟩ rfl rfl (Nat.le_of_ble_eq_true rfl) hfit dL_law_1386 hF (fun r1 Y4 h2 hF => ?_)
  refine lg_aload_n (pc := 1389) C dL_law_1389 2 rfl ?_
  refine lg_aload_n (pc := 1390) C dL_law_1390 0 rfl ?_
  refine lg_iload_n (pc := 1391) C dL_law_1391 3 rfl ?_
  refine lg_iconst (pc := 1392) (v := 1) C dL_law_1392 (by decide) ?_
  refine lg_iadd (pc := 1393) C dL_law_1393 ?_
  obtain ⟨hi, hF⟩ := hF
  refine lg_sld (pc := 1394) C hi dL_law_1394 ?_
  obtain ⟨hfit, hF⟩ := hF
  refine lg_mI (pc := 1395) C [.int (lg_xs X (y3 + 1).toNatClampNeg)] (met_image (lg_xs X (y3 + 1).toNatClampNeg) ) gL_law_X12_image rfl ⟨rfl, rfl⟩ nd_image ⟨Nat.le_of_ble_eq_true rfl, Nat.le_of_ble_eq_true rfl⟩ rfl rfl (Nat.le_of_ble_eq_true rfl) hfit dL_law_1395 hF (fun r5 g6 hF => ?_)
  refine lg_icmp_eq (pc := 1398) 1426 C dL_law_1398 (by decide) (fun hc => ?_) (fun hc => ?_)
  · have hF := hF.1 hc
    obtain ⟨z7, ez7⟩ : ∃ y : Int32, y = y3 + 6 := ⟨_, rfl⟩
    have hF := hF z7 ez7
    refine lg_iinc (pc := 1426) (v := z7) (lv2 := [(3, .int z7), (0, .ref (lg_b X)), (1, .ref a), (2, .ref a2)]) C dL_law_1426 3 rfl (by rw [ez7]; rfl) (by decide) rfl ?_
    refine lg_sub (lv2 := [(0, .ref (lg_b X)), (1, .ref a), (2, .ref a2), (3, .int z7)]) [1, 2, 3, 0] rfl ?_
    refine lg_goto (pc := 1429) 18 C dL_law_1429 (by decide) ?_
    exact hF
  · have hF := hF.2 hc
    exact hF.elim
def wp_law_30 (X : lg_X) (a : Nat) (R : Int32 → Nat → Nat → xg_Y → xg_H → mg_H → Prop) (y3 : Int32) (k n : Nat) (Y : xg_Y) (h : xg_H) (g : mg_H) : Prop :=
  vp_in (y3 + 1) (lg_L X) ∧ (xg_is Y a 11 ∧ (k ≤ 600000 ∧ n ≤ 7302250) ∧ wp_X11_again Y (fun r1 h2 => vp_in (y3 + 1) (lg_L X) ∧ ((k ≤ 600000 ∧ n ≤ 7302250) ∧ wp_again (fun r3 g4 => (((r1 = r3) → ∀ z5 : Int32, z5 = y3 + 6 → R z5 k n Y h2 g4) ∧ ((¬ r1 = r3) → False))) (lg_xs X (y3 + 1).toNatClampNeg) g)) a (lg_xs X (y3 + 1).toNatClampNeg) h)
set_option maxHeartbeats 4000000 in
set_option maxRecDepth 100000 in
theorem met_law_30 (X : lg_X) (C : lg_ok X) (a a2 : Nat) (y3 : Int32) (k n : Nat) (Y : xg_Y) (h : xg_H) (g : mg_H) (hF : wp_law_30 X a (fun (y3 : Int32) (k n : Nat) (Y : xg_Y) (h : xg_H) (g : mg_H) => lg_W X a2 k n 18 [(0, .ref (lg_b X)), (1, .ref a), (2, .ref a2), (3, .int y3)] [] (Y, h, g)) y3 k n Y h g) : lg_W X a2 k n 1403 [(0, .ref (lg_b X)), (1, .ref a), (2, .ref a2), (3, .int y3)] [] (Y, h, g) := by
  unfold wp_law_30 at hF
  refine lg_aload_n (pc := 1403) C dL_law_1403 1 rfl ?_
  refine lg_aload_n (pc := 1404) C dL_law_1404 0 rfl ?_
  refine lg_iload_n (pc := 1405) C dL_law_1405 3 rfl ?_
  refine lg_iconst (pc := 1406) (v := 1) C dL_law_1406 (by decide) ?_
  refine lg_iadd (pc := 1407) C dL_law_1407 ?_
  obtain ⟨hi, hF⟩ := hF
  refine lg_sld (pc := 1408) C hi dL_law_1408 ?_
  obtain ⟨hk, hfit, hF⟩ := hF
  refine lg_xfI (pc := 1409) C [.int (lg_xs X (y3 + 1).toNatClampNeg)] hk (met_X11_again Y a (lg_xs X (y3 + 1).toNatClampNeg) ) gL_law_X11_again rfl ⟨rfl, rfl⟩ nd_X11_again ⟨Nat.le_of_ble_eq_true rfl, Nat.le_of_ble_eq_true rfl⟩ rfl rfl (Nat.le_of_ble_eq_true rfl) hfit dL_law_1409 hF (fun r1 h2 hF => ?_)
  refine lg_aload_n (pc := 1412) C dL_law_1412 2 rfl ?_
  refine lg_aload_n (pc := 1413) C dL_law_1413 0 rfl ?_
  refine lg_iload_n (pc := 1414) C dL_law_1414 3 rfl ?_
  refine lg_iconst (pc := 1415) (v := 1) C dL_law_1415 (by decide) ?_
  refine lg_iadd (pc := 1416) C dL_law_1416 ?_
  obtain ⟨hi, hF⟩ := hF
  refine lg_sld (pc := 1417) C hi dL_law_1417 ?_
  obtain ⟨hfit, hF⟩ := hF
  refine lg_mI (pc := 1418) C [.int (lg_xs X (y3 + 1).toNatClampNeg)] (met_again (lg_xs X (y3 + 1).toNatClampNeg) ) gL_law_X12_again rfl ⟨rfl, rfl⟩ nd_again ⟨Nat.le_of_ble_eq_true rfl, Nat.le_of_ble_eq_true rfl⟩ rfl rfl (Nat.le_of_ble_eq_true rfl) hfit dL_law_1418 hF (fun r3 g4 hF => ?_)
  refine lg_icmp_eq (pc := 1421) 1426 C dL_law_1421 (by decide) (fun hc => ?_) (fun hc => ?_)
  · have hF := hF.1 hc
    obtain ⟨z5, ez5⟩ : ∃ y : Int32, y = y3 + 6 := ⟨_, rfl⟩
    have hF := hF z5 ez5
    refine lg_iinc (pc := 1426) (v := z5) (lv2 := [(3, .int z5), (0, .ref (lg_b X)), (1, .ref a), (2, .ref a2)]) C dL_law_1426 3 rfl (by rw [ez5]; rfl) (by decide) rfl ?_
    refine lg_sub (lv2 := [(0, .ref (lg_b X)), (1, .ref a), (2, .ref a2), (3, .int z5)]) [1, 2, 3, 0] rfl ?_
    refine lg_goto (pc := 1429) 18 C dL_law_1429 (by decide) ?_
    exact hF
  · have hF := hF.2 hc
    exact hF.elim
def wp_law_31 (X : lg_X) (a : Nat) (R : Int32 → Nat → Nat → xg_Y → xg_H → mg_H → Prop) (y3 : Int32) (k n : Nat) (Y : xg_Y) (h : xg_H) (g : mg_H) : Prop :=
  ∀ z1 : Int32, z1 = y3 + 6 → R z1 k n Y h g
set_option maxHeartbeats 4000000 in
set_option maxRecDepth 100000 in
theorem met_law_31 (X : lg_X) (C : lg_ok X) (a a2 : Nat) (y3 : Int32) (k n : Nat) (Y : xg_Y) (h : xg_H) (g : mg_H) (hF : wp_law_31 X a (fun (y3 : Int32) (k n : Nat) (Y : xg_Y) (h : xg_H) (g : mg_H) => lg_W X a2 k n 18 [(0, .ref (lg_b X)), (1, .ref a), (2, .ref a2), (3, .int y3)] [] (Y, h, g)) y3 k n Y h g) : lg_W X a2 k n 1426 [(0, .ref (lg_b X)), (1, .ref a), (2, .ref a2), (3, .int y3)] [] (Y, h, g) := by
  unfold wp_law_31 at hF
  obtain ⟨z1, ez1⟩ : ∃ y : Int32, y = y3 + 6 := ⟨_, rfl⟩
  have hF := hF z1 ez1
  refine lg_iinc (pc := 1426) (v := z1) (lv2 := [(3, .int z1), (0, .ref (lg_b X)), (1, .ref a), (2, .ref a2)]) C dL_law_1426 3 rfl (by rw [ez1]; rfl) (by decide) rfl ?_
  refine lg_sub (lv2 := [(0, .ref (lg_b X)), (1, .ref a), (2, .ref a2), (3, .int z1)]) [1, 2, 3, 0] rfl ?_
  refine lg_goto (pc := 1429) 18 C dL_law_1429 (by decide) ?_
  exact hF
/-- a round: behind the last whole call of the script the room is kept; else the call's own round -/
def wp_law_round (X : lg_X) (a : Nat) (R : Int32 → Nat → Nat → xg_Y → xg_H → mg_H → Prop) (y3 : Int32) (k n : Nat) (Y : xg_Y) (h : xg_H) (g : mg_H) : Prop :=
  ((nI (lg_L X) - 6 < y3 → (k ≤ 600000 ∧ n ≤ 7302250)) ∧ (¬ nI (lg_L X) - 6 < y3 → vp_in y3 (lg_L X) ∧ ∀ z : Int32, z = lg_xs X y3.toNatClampNeg &&& 31 → ((z = 0 → wp_law_0 X a R y3 k n Y h g) ∧ (z = 1 → wp_law_1 X a R y3 k n Y h g) ∧ (z = 2 → wp_law_2 X a R y3 k n Y h g) ∧ (z = 3 → wp_law_3 X a R y3 k n Y h g) ∧ (z = 4 → wp_law_4 X a R y3 k n Y h g) ∧ (z = 5 → wp_law_5 X a R y3 k n Y h g) ∧ (z = 6 → wp_law_6 X a R y3 k n Y h g) ∧ (z = 7 → wp_law_7 X a R y3 k n Y h g) ∧ (z = 8 → wp_law_8 X a R y3 k n Y h g) ∧ (z = 9 → wp_law_9 X a R y3 k n Y h g) ∧ (z = 10 → wp_law_10 X a R y3 k n Y h g) ∧ (z = 11 → wp_law_11 X a R y3 k n Y h g) ∧ (z = 12 → wp_law_12 X a R y3 k n Y h g) ∧ (z = 13 → wp_law_13 X a R y3 k n Y h g) ∧ (z = 14 → wp_law_14 X a R y3 k n Y h g) ∧ (z = 15 → wp_law_15 X a R y3 k n Y h g) ∧ (z = 16 → wp_law_16 X a R y3 k n Y h g) ∧ (z = 17 → wp_law_17 X a R y3 k n Y h g) ∧ (z = 18 → wp_law_18 X a R y3 k n Y h g) ∧ (z = 19 → wp_law_19 X a R y3 k n Y h g) ∧ (z = 20 → wp_law_20 X a R y3 k n Y h g) ∧ (z = 21 → wp_law_21 X a R y3 k n Y h g) ∧ (z = 22 → wp_law_22 X a R y3 k n Y h g) ∧ (z = 23 → wp_law_23 X a R y3 k n Y h g) ∧ (z = 24 → wp_law_24 X a R y3 k n Y h g) ∧ (z = 25 → wp_law_25 X a R y3 k n Y h g) ∧ (z = 26 → wp_law_26 X a R y3 k n Y h g) ∧ (z = 27 → wp_law_27 X a R y3 k n Y h g) ∧ (z = 28 → wp_law_28 X a R y3 k n Y h g) ∧ (z = 29 → wp_law_29 X a R y3 k n Y h g) ∧ (z = 30 → wp_law_30 X a R y3 k n Y h g) ∧ (¬ z = 0 → ¬ z = 1 → ¬ z = 2 → ¬ z = 3 → ¬ z = 4 → ¬ z = 5 → ¬ z = 6 → ¬ z = 7 → ¬ z = 8 → ¬ z = 9 → ¬ z = 10 → ¬ z = 11 → ¬ z = 12 → ¬ z = 13 → ¬ z = 14 → ¬ z = 15 → ¬ z = 16 → ¬ z = 17 → ¬ z = 18 → ¬ z = 19 → ¬ z = 20 → ¬ z = 21 → ¬ z = 22 → ¬ z = 23 → ¬ z = 24 → ¬ z = 25 → ¬ z = 26 → ¬ z = 27 → ¬ z = 28 → ¬ z = 29 → ¬ z = 30 → wp_law_31 X a R y3 k n Y h g))))
set_option maxHeartbeats 4000000 in
set_option maxRecDepth 100000 in
theorem met_law_round (X : lg_X) (C : lg_ok X) (a a2 : Nat) (y3 : Int32) (k n : Nat) (Y : xg_Y) (h : xg_H) (g : mg_H) (hF : wp_law_round X a (fun (y3 : Int32) (k n : Nat) (Y : xg_Y) (h : xg_H) (g : mg_H) => lg_W X a2 k n 18 [(0, .ref (lg_b X)), (1, .ref a), (2, .ref a2), (3, .int y3)] [] (Y, h, g)) y3 k n Y h g) : lg_W X a2 k n 18 [(0, .ref (lg_b X)), (1, .ref a), (2, .ref a2), (3, .int y3)] [] (Y, h, g) := by
  unfold wp_law_round at hF
  refine lg_iload_n (pc := 18) C dL_law_18 3 rfl ?_
  refine lg_aload_n (pc := 19) C dL_law_19 0 rfl ?_
  refine lg_slen (pc := 20) C dL_law_20 ?_
  refine lg_bipush (pc := 21) (v := 6) C dL_law_21 (by decide) ?_
  refine lg_isub (pc := 23) C dL_law_23 ?_
  refine lg_icmp_gt (pc := 24) 1432 C dL_law_24 (by decide) (fun hc => ?_) (fun hc => ?_)
  · have hF := hF.1 hc
    refine lg_iconst (pc := 1432) (v := 1) C dL_law_1432 (by decide) ?_
    exact lg_ret (pc := 1433) C hF dL_law_1433
  · obtain ⟨hi, hF⟩ := hF.2 hc
    refine lg_aload_n (pc := 27) C dL_law_27 0 rfl ?_
    refine lg_iload_n (pc := 28) C dL_law_28 3 rfl ?_
    refine lg_sld (pc := 29) C hi dL_law_29 ?_
    refine lg_bipush (pc := 30) (v := 31) C dL_law_30 (by decide) ?_
    refine lg_iand (pc := 32) C dL_law_32 ?_
    refine lg_topi (pc := 33) (fun z ez => ?_)
    have hF := hF z ez
    by_cases hs0 : z = 0
    · have hF := hF.1 hs0
      refine lg_tabIn (pc := 33) 172 C dL_law_33 (by rw [hs0]; decide) (by rw [hs0]; decide) (off := 139) (by rw [hs0]; rfl) (by decide) ?_
      exact met_law_0 X C a a2 y3 k n Y h g hF
    have hF := hF.2
    by_cases hs1 : z = 1
    · have hF := hF.1 hs1
      refine lg_tabIn (pc := 33) 235 C dL_law_33 (by rw [hs1]; decide) (by rw [hs1]; decide) (off := 202) (by rw [hs1]; rfl) (by decide) ?_
      exact met_law_1 X C a a2 y3 k n Y h g hF
    have hF := hF.2
    by_cases hs2 : z = 2
    · have hF := hF.1 hs2
      refine lg_tabIn (pc := 33) 258 C dL_law_33 (by rw [hs2]; decide) (by rw [hs2]; decide) (off := 225) (by rw [hs2]; rfl) (by decide) ?_
      exact met_law_2 X C a a2 y3 k n Y h g hF
    have hF := hF.2
    by_cases hs3 : z = 3
    · have hF := hF.1 hs3
      refine lg_tabIn (pc := 33) 291 C dL_law_33 (by rw [hs3]; decide) (by rw [hs3]; decide) (off := 258) (by rw [hs3]; rfl) (by decide) ?_
      exact met_law_3 X C a a2 y3 k n Y h g hF
    have hF := hF.2
    by_cases hs4 : z = 4
    · have hF := hF.1 hs4
      refine lg_tabIn (pc := 33) 314 C dL_law_33 (by rw [hs4]; decide) (by rw [hs4]; decide) (off := 281) (by rw [hs4]; rfl) (by decide) ?_
      exact met_law_4 X C a a2 y3 k n Y h g hF
    have hF := hF.2
    by_cases hs5 : z = 5
    · have hF := hF.1 hs5
      refine lg_tabIn (pc := 33) 347 C dL_law_33 (by rw [hs5]; decide) (by rw [hs5]; decide) (off := 314) (by rw [hs5]; rfl) (by decide) ?_
      exact met_law_5 X C a a2 y3 k n Y h g hF
    have hF := hF.2
    by_cases hs6 : z = 6
    · have hF := hF.1 hs6
      refine lg_tabIn (pc := 33) 390 C dL_law_33 (by rw [hs6]; decide) (by rw [hs6]; decide) (off := 357) (by rw [hs6]; rfl) (by decide) ?_
      exact met_law_6 X C a a2 y3 k n Y h g hF
    have hF := hF.2
    by_cases hs7 : z = 7
    · have hF := hF.1 hs7
      refine lg_tabIn (pc := 33) 423 C dL_law_33 (by rw [hs7]; decide) (by rw [hs7]; decide) (off := 390) (by rw [hs7]; rfl) (by decide) ?_
      exact met_law_7 X C a a2 y3 k n Y h g hF
    have hF := hF.2
    by_cases hs8 : z = 8
    · have hF := hF.1 hs8
      refine lg_tabIn (pc := 33) 476 C dL_law_33 (by rw [hs8]; decide) (by rw [hs8]; decide) (off := 443) (by rw [hs8]; rfl) (by decide) ?_
      exact met_law_8 X C a a2 y3 k n Y h g hF
    have hF := hF.2
    by_cases hs9 : z = 9
    · have hF := hF.1 hs9
      refine lg_tabIn (pc := 33) 519 C dL_law_33 (by rw [hs9]; decide) (by rw [hs9]; decide) (off := 486) (by rw [hs9]; rfl) (by decide) ?_
      exact met_law_9 X C a a2 y3 k n Y h g hF
    have hF := hF.2
    by_cases hs10 : z = 10
    · have hF := hF.1 hs10
      refine lg_tabIn (pc := 33) 552 C dL_law_33 (by rw [hs10]; decide) (by rw [hs10]; decide) (off := 519) (by rw [hs10]; rfl) (by decide) ?_
      exact met_law_10 X C a a2 y3 k n Y h g hF
    have hF := hF.2
    by_cases hs11 : z = 11
    · have hF := hF.1 hs11
      refine lg_tabIn (pc := 33) 585 C dL_law_33 (by rw [hs11]; decide) (by rw [hs11]; decide) (off := 552) (by rw [hs11]; rfl) (by decide) ?_
      exact met_law_11 X C a a2 y3 k n Y h g hF
    have hF := hF.2
    by_cases hs12 : z = 12
    · have hF := hF.1 hs12
      refine lg_tabIn (pc := 33) 618 C dL_law_33 (by rw [hs12]; decide) (by rw [hs12]; decide) (off := 585) (by rw [hs12]; rfl) (by decide) ?_
      exact met_law_12 X C a a2 y3 k n Y h g hF
    have hF := hF.2
    by_cases hs13 : z = 13
    · have hF := hF.1 hs13
      refine lg_tabIn (pc := 33) 677 C dL_law_33 (by rw [hs13]; decide) (by rw [hs13]; decide) (off := 644) (by rw [hs13]; rfl) (by decide) ?_
      exact met_law_13 X C a a2 y3 k n Y h g hF
    have hF := hF.2
    by_cases hs14 : z = 14
    · have hF := hF.1 hs14
      refine lg_tabIn (pc := 33) 710 C dL_law_33 (by rw [hs14]; decide) (by rw [hs14]; decide) (off := 677) (by rw [hs14]; rfl) (by decide) ?_
      exact met_law_14 X C a a2 y3 k n Y h g hF
    have hF := hF.2
    by_cases hs15 : z = 15
    · have hF := hF.1 hs15
      refine lg_tabIn (pc := 33) 753 C dL_law_33 (by rw [hs15]; decide) (by rw [hs15]; decide) (off := 720) (by rw [hs15]; rfl) (by decide) ?_
      exact met_law_15 X C a a2 y3 k n Y h g hF
    have hF := hF.2
    by_cases hs16 : z = 16
    · have hF := hF.1 hs16
      refine lg_tabIn (pc := 33) 786 C dL_law_33 (by rw [hs16]; decide) (by rw [hs16]; decide) (off := 753) (by rw [hs16]; rfl) (by decide) ?_
      exact met_law_16 X C a a2 y3 k n Y h g hF
    have hF := hF.2
    by_cases hs17 : z = 17
    · have hF := hF.1 hs17
      refine lg_tabIn (pc := 33) 846 C dL_law_33 (by rw [hs17]; decide) (by rw [hs17]; decide) (off := 813) (by rw [hs17]; rfl) (by decide) ?_
      exact met_law_17 X C a a2 y3 k n Y h g hF
    have hF := hF.2
    by_cases hs18 : z = 18
    · have hF := hF.1 hs18
      refine lg_tabIn (pc := 33) 905 C dL_law_33 (by rw [hs18]; decide) (by rw [hs18]; decide) (off := 872) (by rw [hs18]; rfl) (by decide) ?_
      exact met_law_18 X C a a2 y3 k n Y h g hF
    have hF := hF.2
    by_cases hs19 : z = 19
    · have hF := hF.1 hs19
      refine lg_tabIn (pc := 33) 974 C dL_law_33 (by rw [hs19]; decide) (by rw [hs19]; decide) (off := 941) (by rw [hs19]; rfl) (by decide) ?_
      exact met_law_19 X C a a2 y3 k n Y h g hF
    have hF := hF.2
    by_cases hs20 : z = 20
    · have hF := hF.1 hs20
      refine lg_tabIn (pc := 33) 1017 C dL_law_33 (by rw [hs20]; decide) (by rw [hs20]; decide) (off := 984) (by rw [hs20]; rfl) (by decide) ?_
      exact met_law_20 X C a a2 y3 k n Y h g hF
    have hF := hF.2
    by_cases hs21 : z = 21
    · have hF := hF.1 hs21
      refine lg_tabIn (pc := 33) 1070 C dL_law_33 (by rw [hs21]; decide) (by rw [hs21]; decide) (off := 1037) (by rw [hs21]; rfl) (by decide) ?_
      exact met_law_21 X C a a2 y3 k n Y h g hF
    have hF := hF.2
    by_cases hs22 : z = 22
    · have hF := hF.1 hs22
      refine lg_tabIn (pc := 33) 1123 C dL_law_33 (by rw [hs22]; decide) (by rw [hs22]; decide) (off := 1090) (by rw [hs22]; rfl) (by decide) ?_
      exact met_law_22 X C a a2 y3 k n Y h g hF
    have hF := hF.2
    by_cases hs23 : z = 23
    · have hF := hF.1 hs23
      refine lg_tabIn (pc := 33) 1156 C dL_law_33 (by rw [hs23]; decide) (by rw [hs23]; decide) (off := 1123) (by rw [hs23]; rfl) (by decide) ?_
      exact met_law_23 X C a a2 y3 k n Y h g hF
    have hF := hF.2
    by_cases hs24 : z = 24
    · have hF := hF.1 hs24
      refine lg_tabIn (pc := 33) 1189 C dL_law_33 (by rw [hs24]; decide) (by rw [hs24]; decide) (off := 1156) (by rw [hs24]; rfl) (by decide) ?_
      exact met_law_24 X C a a2 y3 k n Y h g hF
    have hF := hF.2
    by_cases hs25 : z = 25
    · have hF := hF.1 hs25
      refine lg_tabIn (pc := 33) 1222 C dL_law_33 (by rw [hs25]; decide) (by rw [hs25]; decide) (off := 1189) (by rw [hs25]; rfl) (by decide) ?_
      exact met_law_25 X C a a2 y3 k n Y h g hF
    have hF := hF.2
    by_cases hs26 : z = 26
    · have hF := hF.1 hs26
      refine lg_tabIn (pc := 33) 1255 C dL_law_33 (by rw [hs26]; decide) (by rw [hs26]; decide) (off := 1222) (by rw [hs26]; rfl) (by decide) ?_
      exact met_law_26 X C a a2 y3 k n Y h g hF
    have hF := hF.2
    by_cases hs27 : z = 27
    · have hF := hF.1 hs27
      refine lg_tabIn (pc := 33) 1314 C dL_law_33 (by rw [hs27]; decide) (by rw [hs27]; decide) (off := 1281) (by rw [hs27]; rfl) (by decide) ?_
      exact met_law_27 X C a a2 y3 k n Y h g hF
    have hF := hF.2
    by_cases hs28 : z = 28
    · have hF := hF.1 hs28
      refine lg_tabIn (pc := 33) 1357 C dL_law_33 (by rw [hs28]; decide) (by rw [hs28]; decide) (off := 1324) (by rw [hs28]; rfl) (by decide) ?_
      exact met_law_28 X C a a2 y3 k n Y h g hF
    have hF := hF.2
    by_cases hs29 : z = 29
    · have hF := hF.1 hs29
      refine lg_tabIn (pc := 33) 1380 C dL_law_33 (by rw [hs29]; decide) (by rw [hs29]; decide) (off := 1347) (by rw [hs29]; rfl) (by decide) ?_
      exact met_law_29 X C a a2 y3 k n Y h g hF
    have hF := hF.2
    by_cases hs30 : z = 30
    · have hF := hF.1 hs30
      refine lg_tabIn (pc := 33) 1403 C dL_law_33 (by rw [hs30]; decide) (by rw [hs30]; decide) (off := 1370) (by rw [hs30]; rfl) (by decide) ?_
      exact met_law_30 X C a a2 y3 k n Y h g hF
    have hF := hF.2
    have hF := hF hs0 hs1 hs2 hs3 hs4 hs5 hs6 hs7 hs8 hs9 hs10 hs11 hs12 hs13 hs14 hs15 hs16 hs17 hs18 hs19 hs20 hs21 hs22 hs23 hs24 hs25 hs26 hs27 hs28 hs29 hs30
    refine lg_tabOut (pc := 33) 1426 C dL_law_33 (mg_swd z 0 30 (fun v h1 h2 => ?_)) (by decide) ?_
    · rcases (show v = 0 ∨ v = 1 ∨ v = 2 ∨ v = 3 ∨ v = 4 ∨ v = 5 ∨ v = 6 ∨ v = 7 ∨ v = 8 ∨ v = 9 ∨ v = 10 ∨ v = 11 ∨ v = 12 ∨ v = 13 ∨ v = 14 ∨ v = 15 ∨ v = 16 ∨ v = 17 ∨ v = 18 ∨ v = 19 ∨ v = 20 ∨ v = 21 ∨ v = 22 ∨ v = 23 ∨ v = 24 ∨ v = 25 ∨ v = 26 ∨ v = 27 ∨ v = 28 ∨ v = 29 ∨ v = 30 by omega) with rfl | rfl | rfl | rfl | rfl | rfl | rfl | rfl | rfl | rfl | rfl | rfl | rfl | rfl | rfl | rfl | rfl | rfl | rfl | rfl | rfl | rfl | rfl | rfl | rfl | rfl | rfl | rfl | rfl | rfl | rfl
      · exact hs0
      · exact hs1
      · exact hs2
      · exact hs3
      · exact hs4
      · exact hs5
      · exact hs6
      · exact hs7
      · exact hs8
      · exact hs9
      · exact hs10
      · exact hs11
      · exact hs12
      · exact hs13
      · exact hs14
      · exact hs15
      · exact hs16
      · exact hs17
      · exact hs18
      · exact hs19
      · exact hs20
      · exact hs21
      · exact hs22
      · exact hs23
      · exact hs24
      · exact hs25
      · exact hs26
      · exact hs27
      · exact hs28
      · exact hs29
      · exact hs30
    exact met_law_31 X C a a2 y3 k n Y h g hF
