/-! the law: cases 0 to 8 -/
theorem dl_192 : decode code 192 = .ok (.aload_n 1, 1) := by decide +kernel
theorem dl_193 : decode code 193 = .ok (.aload_n 0, 1) := by decide +kernel
theorem dl_194 : decode code 194 = .ok (.iload_n 3, 1) := by decide +kernel
theorem dl_195 : decode code 195 = .ok (.iconst 1, 1) := by decide +kernel
theorem dl_196 : decode code 196 = .ok (.iadd, 1) := by decide +kernel
theorem dl_197 : decode code 197 = .ok (.iaload, 1) := by decide +kernel
theorem dl_198 : decode code 198 = .ok (.aload_n 0, 1) := by decide +kernel
theorem dl_199 : decode code 199 = .ok (.iload_n 3, 1) := by decide +kernel
theorem dl_200 : decode code 200 = .ok (.iconst 2, 1) := by decide +kernel
theorem dl_201 : decode code 201 = .ok (.iadd, 1) := by decide +kernel
theorem dl_202 : decode code 202 = .ok (.iaload, 1) := by decide +kernel
theorem dl_203 : decode code 203 = .ok (.aload_n 0, 1) := by decide +kernel
theorem dl_204 : decode code 204 = .ok (.iload_n 3, 1) := by decide +kernel
theorem dl_205 : decode code 205 = .ok (.iconst 3, 1) := by decide +kernel
theorem dl_206 : decode code 206 = .ok (.iadd, 1) := by decide +kernel
theorem dl_207 : decode code 207 = .ok (.iaload, 1) := by decide +kernel
theorem dl_208 : decode code 208 = .ok (.invokevirtual 13, 3) := by decide +kernel
theorem dl_211 : decode code 211 = .ok (.aload_n 2, 1) := by decide +kernel
theorem dl_212 : decode code 212 = .ok (.aload_n 0, 1) := by decide +kernel
theorem dl_213 : decode code 213 = .ok (.iload_n 3, 1) := by decide +kernel
theorem dl_214 : decode code 214 = .ok (.iconst 1, 1) := by decide +kernel
theorem dl_215 : decode code 215 = .ok (.iadd, 1) := by decide +kernel
theorem dl_216 : decode code 216 = .ok (.iaload, 1) := by decide +kernel
theorem dl_217 : decode code 217 = .ok (.aload_n 0, 1) := by decide +kernel
theorem dl_218 : decode code 218 = .ok (.iload_n 3, 1) := by decide +kernel
theorem dl_219 : decode code 219 = .ok (.iconst 2, 1) := by decide +kernel
theorem dl_220 : decode code 220 = .ok (.iadd, 1) := by decide +kernel
theorem dl_221 : decode code 221 = .ok (.iaload, 1) := by decide +kernel
theorem dl_222 : decode code 222 = .ok (.aload_n 0, 1) := by decide +kernel
theorem dl_223 : decode code 223 = .ok (.iload_n 3, 1) := by decide +kernel
theorem dl_224 : decode code 224 = .ok (.iconst 3, 1) := by decide +kernel
theorem dl_225 : decode code 225 = .ok (.iadd, 1) := by decide +kernel
theorem dl_226 : decode code 226 = .ok (.iaload, 1) := by decide +kernel
theorem dl_227 : decode code 227 = .ok (.invokevirtual 17, 3) := by decide +kernel
theorem dl_230 : decode code 230 = .ok (.if_icmp .eq 1272, 3) := by decide +kernel
theorem dl_233 : decode code 233 = .ok (.iconst 0, 1) := by decide +kernel
theorem dl_234 : decode code 234 = .ok (.ireturn, 1) := by decide +kernel
set_option maxRecDepth 100000 in
set_option maxHeartbeats 2000000 in
theorem lc_0 {p : Program} (l : Launch) {e : Env} {s : State} {m : MethodId} {below : List Frame} {meth : Method} {c : Code} {H : Heap} {locs : List Loc} {Q : State → Prop} {ls : Array Slot} {G : GG} {B b L i : Nat} {xs : Nat → Int32} {wx : WX} {wm : Mem} (C : CX p s m #[Value.ref b] meth c code 4 R_law TL ret) (hX : va_X b L xs s s.heap) (hbl : b < s.heap.size) (hL : L ≤ 2560) (hi : i + 5 ≤ L) (hR : Rel wx wm) (hG : Gd s G (fun q => s.heap.size ≤ q) 153 B (entX G B wx) (pool 28 (B + 153) (entM G (B + 153) wm)) H locs) (hl : lv_has ls 4 [(0, .ref b), (1, .ref (B + 0)), (2, .ref (B + 153 + 0)), (3, .int (nI i))]) (kk : ∀ (H : Heap) (locs : List Loc) (wx : WX) (wm : Mem), Rel wx wm → Gd s G (fun q => s.heap.size ≤ q) 153 B (entX G B wx) (pool 28 (B + 153) (entM G (B + 153) wm)) H locs → W p l e room_1 s m #[Value.ref b] below meth c H locs 181 4461 Q (F0 m 1502 ls [])) : W p l e room_1 s m #[Value.ref b] below meth c H locs 181 4461 Q (F0 m 192 ls []) := by
  obtain ⟨⟨v, wx'⟩, hv, ⟨u, wm'⟩, hu, heq, hR'⟩ := c_algebra (xs (i + 1)) (xs (i + 2)) (xs (i + 3)) hR
  have hbA : ¬ (fun q : Nat => s.heap.size ≤ q) b := Nat.not_le.mpr hbl
  refine lv_aload_n C.1 C.2.1 dl_192 rfl (lv_at hl 1 rfl) ?_
  refine rl_arg C hX hbl hbA hG.2.2 (i := i) (j := 1) hL (by omega) hl (by decide) dl_193 dl_194 dl_195 dl_196 dl_197 ?_
  refine rl_arg C hX hbl hbA hG.2.2 (i := i) (j := 2) hL (by omega) hl (by decide) dl_198 dl_199 dl_200 dl_201 dl_202 ?_
  refine rl_arg C hX hbl hbA hG.2.2 (i := i) (j := 3) hL (by omega) hl (by decide) dl_203 dl_204 dl_205 dl_206 dl_207 ?_
  refine rl_callV C hG hl.1 (c0 := 0) (As := [.int (xs (i + 1)), .int (xs (i + 2)), .int (xs (i + 3))]) (by decide) (entX_O8 (n := 13) rfl) rfl (mt_X8_algebra l hv) (cwV 3 C.2.2.2.2.1 (gd_V tg_2_50 tg_2_51 tg_2_52 tg_1_1 tg_2_53) rfl rfl rfl cd_X8_algebra ⟨Nat.le_of_ble_eq_true rfl, Nat.le_of_ble_eq_true rfl⟩) (Nat.le_of_ble_eq_true rfl) (Nat.le_of_ble_eq_true rfl) rfl rfl (Nat.le_of_ble_eq_true rfl) dl_208 (fun H locs hG => ?_)
  have hG := hG.swap
  refine lv_aload_n C.1 C.2.1 dl_211 rfl (lv_at hl 2 rfl) ?_
  refine rl_arg C hX hbl hbA hG.2.2 (i := i) (j := 1) hL (by omega) hl (by decide) dl_212 dl_213 dl_214 dl_215 dl_216 ?_
  refine rl_arg C hX hbl hbA hG.2.2 (i := i) (j := 2) hL (by omega) hl (by decide) dl_217 dl_218 dl_219 dl_220 dl_221 ?_
  refine rl_arg C hX hbl hbA hG.2.2 (i := i) (j := 3) hL (by omega) hl (by decide) dl_222 dl_223 dl_224 dl_225 dl_226 ?_
  refine rl_callV C hG hl.1 (c0 := 0) (As := [.int (xs (i + 1)), .int (xs (i + 2)), .int (xs (i + 3))]) (by decide) (entM_O (n := 35) rfl) rfl (mt_X9_algebra l hu) (cwV 3 C.2.2.2.2.1 (gd_V tg_4_190 tg_4_191 tg_4_192 tg_1_10 tg_4_193) rfl rfl rfl cd_X9_algebra ⟨Nat.le_of_ble_eq_true rfl, Nat.le_of_ble_eq_true rfl⟩) (Nat.le_of_ble_eq_true rfl) (Nat.le_of_ble_eq_true rfl) rfl rfl (Nat.le_of_ble_eq_true rfl) dl_227 (fun H locs hG => ?_)
  have hG := hG.swap
  refine lv_icmp_eq (tgt := 1502) C.1 C.2.1 dl_230 (by decide) (fun _ => ?_) (fun q => absurd heq q)
  exact kk H locs _ _ hR' hG
theorem dl_235 : decode code 235 = .ok (.aload_n 1, 1) := by decide +kernel
theorem dl_236 : decode code 236 = .ok (.aload_n 0, 1) := by decide +kernel
theorem dl_237 : decode code 237 = .ok (.iload_n 3, 1) := by decide +kernel
theorem dl_238 : decode code 238 = .ok (.iconst 1, 1) := by decide +kernel
theorem dl_239 : decode code 239 = .ok (.iadd, 1) := by decide +kernel
theorem dl_240 : decode code 240 = .ok (.iaload, 1) := by decide +kernel
theorem dl_241 : decode code 241 = .ok (.aload_n 0, 1) := by decide +kernel
theorem dl_242 : decode code 242 = .ok (.iload_n 3, 1) := by decide +kernel
theorem dl_243 : decode code 243 = .ok (.iconst 2, 1) := by decide +kernel
theorem dl_244 : decode code 244 = .ok (.iadd, 1) := by decide +kernel
theorem dl_245 : decode code 245 = .ok (.iaload, 1) := by decide +kernel
theorem dl_246 : decode code 246 = .ok (.invokevirtual 18, 3) := by decide +kernel
theorem dl_249 : decode code 249 = .ok (.aload_n 2, 1) := by decide +kernel
theorem dl_250 : decode code 250 = .ok (.aload_n 0, 1) := by decide +kernel
theorem dl_251 : decode code 251 = .ok (.iload_n 3, 1) := by decide +kernel
theorem dl_252 : decode code 252 = .ok (.iconst 1, 1) := by decide +kernel
theorem dl_253 : decode code 253 = .ok (.iadd, 1) := by decide +kernel
theorem dl_254 : decode code 254 = .ok (.iaload, 1) := by decide +kernel
theorem dl_255 : decode code 255 = .ok (.aload_n 0, 1) := by decide +kernel
theorem dl_256 : decode code 256 = .ok (.iload_n 3, 1) := by decide +kernel
theorem dl_257 : decode code 257 = .ok (.iconst 2, 1) := by decide +kernel
theorem dl_258 : decode code 258 = .ok (.iadd, 1) := by decide +kernel
theorem dl_259 : decode code 259 = .ok (.iaload, 1) := by decide +kernel
theorem dl_260 : decode code 260 = .ok (.invokevirtual 22, 3) := by decide +kernel
theorem dl_263 : decode code 263 = .ok (.if_icmp .eq 1239, 3) := by decide +kernel
theorem dl_266 : decode code 266 = .ok (.iconst 0, 1) := by decide +kernel
theorem dl_267 : decode code 267 = .ok (.ireturn, 1) := by decide +kernel
set_option maxRecDepth 100000 in
set_option maxHeartbeats 2000000 in
theorem lc_1 {p : Program} (l : Launch) {e : Env} {s : State} {m : MethodId} {below : List Frame} {meth : Method} {c : Code} {H : Heap} {locs : List Loc} {Q : State → Prop} {ls : Array Slot} {G : GG} {B b L i : Nat} {xs : Nat → Int32} {wx : WX} {wm : Mem} (C : CX p s m #[Value.ref b] meth c code 4 R_law TL ret) (hX : va_X b L xs s s.heap) (hbl : b < s.heap.size) (hL : L ≤ 2560) (hi : i + 5 ≤ L) (hR : Rel wx wm) (hG : Gd s G (fun q => s.heap.size ≤ q) 153 B (entX G B wx) (pool 28 (B + 153) (entM G (B + 153) wm)) H locs) (hl : lv_has ls 4 [(0, .ref b), (1, .ref (B + 0)), (2, .ref (B + 153 + 0)), (3, .int (nI i))]) (kk : ∀ (H : Heap) (locs : List Loc) (wx : WX) (wm : Mem), Rel wx wm → Gd s G (fun q => s.heap.size ≤ q) 153 B (entX G B wx) (pool 28 (B + 153) (entM G (B + 153) wm)) H locs → W p l e room_1 s m #[Value.ref b] below meth c H locs 181 4461 Q (F0 m 1502 ls [])) : W p l e room_1 s m #[Value.ref b] below meth c H locs 181 4461 Q (F0 m 235 ls []) := by
  obtain ⟨⟨v, wx'⟩, hv, ⟨u, wm'⟩, hu, heq, hR'⟩ := c_becomes (xs (i + 1)) (xs (i + 2)) hR
  have hbA : ¬ (fun q : Nat => s.heap.size ≤ q) b := Nat.not_le.mpr hbl
  refine lv_aload_n C.1 C.2.1 dl_235 rfl (lv_at hl 1 rfl) ?_
  refine rl_arg C hX hbl hbA hG.2.2 (i := i) (j := 1) hL (by omega) hl (by decide) dl_236 dl_237 dl_238 dl_239 dl_240 ?_
  refine rl_arg C hX hbl hbA hG.2.2 (i := i) (j := 2) hL (by omega) hl (by decide) dl_241 dl_242 dl_243 dl_244 dl_245 ?_
  refine rl_callV C hG hl.1 (c0 := 0) (As := [.int (xs (i + 1)), .int (xs (i + 2))]) (by decide) (entX_O8 (n := 13) rfl) rfl (mt_X8_becomes l hv) (cwV 2 C.2.2.2.2.1 (gd_V tg_2_115 tg_2_116 tg_2_117 tg_1_1 tg_2_118) rfl rfl rfl cd_X8_becomes ⟨Nat.le_of_ble_eq_true rfl, Nat.le_of_ble_eq_true rfl⟩) (Nat.le_of_ble_eq_true rfl) (Nat.le_of_ble_eq_true rfl) rfl rfl (Nat.le_of_ble_eq_true rfl) dl_246 (fun H locs hG => ?_)
  have hG := hG.swap
  refine lv_aload_n C.1 C.2.1 dl_249 rfl (lv_at hl 2 rfl) ?_
  refine rl_arg C hX hbl hbA hG.2.2 (i := i) (j := 1) hL (by omega) hl (by decide) dl_250 dl_251 dl_252 dl_253 dl_254 ?_
  refine rl_arg C hX hbl hbA hG.2.2 (i := i) (j := 2) hL (by omega) hl (by decide) dl_255 dl_256 dl_257 dl_258 dl_259 ?_
  refine rl_callV C hG hl.1 (c0 := 0) (As := [.int (xs (i + 1)), .int (xs (i + 2))]) (by decide) (entM_O (n := 35) rfl) rfl (mt_X9_becomes l hu) (cwV 2 C.2.2.2.2.1 (gd_V tg_4_201 tg_4_202 tg_4_203 tg_1_10 tg_4_204) rfl rfl rfl cd_X9_becomes ⟨Nat.le_of_ble_eq_true rfl, Nat.le_of_ble_eq_true rfl⟩) (Nat.le_of_ble_eq_true rfl) (Nat.le_of_ble_eq_true rfl) rfl rfl (Nat.le_of_ble_eq_true rfl) dl_260 (fun H locs hG => ?_)
  have hG := hG.swap
  refine lv_icmp_eq (tgt := 1502) C.1 C.2.1 dl_263 (by decide) (fun _ => ?_) (fun q => absurd heq q)
  exact kk H locs _ _ hR' hG
theorem dl_268 : decode code 268 = .ok (.aload_n 1, 1) := by decide +kernel
theorem dl_269 : decode code 269 = .ok (.aload_n 0, 1) := by decide +kernel
theorem dl_270 : decode code 270 = .ok (.iload_n 3, 1) := by decide +kernel
theorem dl_271 : decode code 271 = .ok (.iconst 1, 1) := by decide +kernel
theorem dl_272 : decode code 272 = .ok (.iadd, 1) := by decide +kernel
theorem dl_273 : decode code 273 = .ok (.iaload, 1) := by decide +kernel
theorem dl_274 : decode code 274 = .ok (.aload_n 0, 1) := by decide +kernel
theorem dl_275 : decode code 275 = .ok (.iload_n 3, 1) := by decide +kernel
theorem dl_276 : decode code 276 = .ok (.iconst 2, 1) := by decide +kernel
theorem dl_277 : decode code 277 = .ok (.iadd, 1) := by decide +kernel
theorem dl_278 : decode code 278 = .ok (.iaload, 1) := by decide +kernel
theorem dl_279 : decode code 279 = .ok (.invokevirtual 23, 3) := by decide +kernel
theorem dl_282 : decode code 282 = .ok (.aload_n 2, 1) := by decide +kernel
theorem dl_283 : decode code 283 = .ok (.aload_n 0, 1) := by decide +kernel
theorem dl_284 : decode code 284 = .ok (.iload_n 3, 1) := by decide +kernel
theorem dl_285 : decode code 285 = .ok (.iconst 1, 1) := by decide +kernel
theorem dl_286 : decode code 286 = .ok (.iadd, 1) := by decide +kernel
theorem dl_287 : decode code 287 = .ok (.iaload, 1) := by decide +kernel
theorem dl_288 : decode code 288 = .ok (.aload_n 0, 1) := by decide +kernel
theorem dl_289 : decode code 289 = .ok (.iload_n 3, 1) := by decide +kernel
theorem dl_290 : decode code 290 = .ok (.iconst 2, 1) := by decide +kernel
theorem dl_291 : decode code 291 = .ok (.iadd, 1) := by decide +kernel
theorem dl_292 : decode code 292 = .ok (.iaload, 1) := by decide +kernel
theorem dl_293 : decode code 293 = .ok (.invokevirtual 26, 3) := by decide +kernel
theorem dl_296 : decode code 296 = .ok (.if_icmp .eq 1206, 3) := by decide +kernel
theorem dl_299 : decode code 299 = .ok (.iconst 0, 1) := by decide +kernel
theorem dl_300 : decode code 300 = .ok (.ireturn, 1) := by decide +kernel
set_option maxRecDepth 100000 in
set_option maxHeartbeats 2000000 in
theorem lc_2 {p : Program} (l : Launch) {e : Env} {s : State} {m : MethodId} {below : List Frame} {meth : Method} {c : Code} {H : Heap} {locs : List Loc} {Q : State → Prop} {ls : Array Slot} {G : GG} {B b L i : Nat} {xs : Nat → Int32} {wx : WX} {wm : Mem} (C : CX p s m #[Value.ref b] meth c code 4 R_law TL ret) (hX : va_X b L xs s s.heap) (hbl : b < s.heap.size) (hL : L ≤ 2560) (hi : i + 5 ≤ L) (hR : Rel wx wm) (hG : Gd s G (fun q => s.heap.size ≤ q) 153 B (entX G B wx) (pool 28 (B + 153) (entM G (B + 153) wm)) H locs) (hl : lv_has ls 4 [(0, .ref b), (1, .ref (B + 0)), (2, .ref (B + 153 + 0)), (3, .int (nI i))]) (kk : ∀ (H : Heap) (locs : List Loc) (wx : WX) (wm : Mem), Rel wx wm → Gd s G (fun q => s.heap.size ≤ q) 153 B (entX G B wx) (pool 28 (B + 153) (entM G (B + 153) wm)) H locs → W p l e room_1 s m #[Value.ref b] below meth c H locs 181 4461 Q (F0 m 1502 ls [])) : W p l e room_1 s m #[Value.ref b] below meth c H locs 181 4461 Q (F0 m 268 ls []) := by
  obtain ⟨v, hv, hu⟩ := c_of (xs (i + 1)) (xs (i + 2)) hR
  have hbA : ¬ (fun q : Nat => s.heap.size ≤ q) b := Nat.not_le.mpr hbl
  refine lv_aload_n C.1 C.2.1 dl_268 rfl (lv_at hl 1 rfl) ?_
  refine rl_arg C hX hbl hbA hG.2.2 (i := i) (j := 1) hL (by omega) hl (by decide) dl_269 dl_270 dl_271 dl_272 dl_273 ?_
  refine rl_arg C hX hbl hbA hG.2.2 (i := i) (j := 2) hL (by omega) hl (by decide) dl_274 dl_275 dl_276 dl_277 dl_278 ?_
  refine rl_callV C hG hl.1 (c0 := 0) (As := [.int (xs (i + 1)), .int (xs (i + 2))]) (by decide) (entX_O8 (n := 13) rfl) rfl (mt_X8_of l hv) (cwV 2 C.2.2.2.2.1 (gd_V tg_2_123 tg_2_124 tg_2_125 tg_1_1 tg_2_126) rfl rfl rfl cd_X8_of ⟨Nat.le_of_ble_eq_true rfl, Nat.le_of_ble_eq_true rfl⟩) (Nat.le_of_ble_eq_true rfl) (Nat.le_of_ble_eq_true rfl) rfl rfl (Nat.le_of_ble_eq_true rfl) dl_279 (fun H locs hG => ?_)
  have hG := hG.swap
  refine lv_aload_n C.1 C.2.1 dl_282 rfl (lv_at hl 2 rfl) ?_
  refine rl_arg C hX hbl hbA hG.2.2 (i := i) (j := 1) hL (by omega) hl (by decide) dl_283 dl_284 dl_285 dl_286 dl_287 ?_
  refine rl_arg C hX hbl hbA hG.2.2 (i := i) (j := 2) hL (by omega) hl (by decide) dl_288 dl_289 dl_290 dl_291 dl_292 ?_
  refine rl_callV C hG hl.1 (c0 := 0) (As := [.int (xs (i + 1)), .int (xs (i + 2))]) (by decide) (entM_O (n := 35) rfl) rfl (mt_X9_of l hu) (cwV 2 C.2.2.2.2.1 (gd_V tg_4_209 tg_4_210 tg_4_211 tg_1_10 tg_4_212) rfl rfl rfl cd_X9_of ⟨Nat.le_of_ble_eq_true rfl, Nat.le_of_ble_eq_true rfl⟩) (Nat.le_of_ble_eq_true rfl) (Nat.le_of_ble_eq_true rfl) rfl rfl (Nat.le_of_ble_eq_true rfl) dl_293 (fun H locs hG => ?_)
  have hG := hG.swap
  refine lv_icmp_eq (tgt := 1502) C.1 C.2.1 dl_296 (by decide) (fun _ => ?_) (fun q => absurd rfl q)
  exact kk H locs _ _ hR hG
theorem dl_301 : decode code 301 = .ok (.aload_n 1, 1) := by decide +kernel
theorem dl_302 : decode code 302 = .ok (.aload_n 0, 1) := by decide +kernel
theorem dl_303 : decode code 303 = .ok (.iload_n 3, 1) := by decide +kernel
theorem dl_304 : decode code 304 = .ok (.iconst 1, 1) := by decide +kernel
theorem dl_305 : decode code 305 = .ok (.iadd, 1) := by decide +kernel
theorem dl_306 : decode code 306 = .ok (.iaload, 1) := by decide +kernel
theorem dl_307 : decode code 307 = .ok (.aload_n 0, 1) := by decide +kernel
theorem dl_308 : decode code 308 = .ok (.iload_n 3, 1) := by decide +kernel
theorem dl_309 : decode code 309 = .ok (.iconst 2, 1) := by decide +kernel
theorem dl_310 : decode code 310 = .ok (.iadd, 1) := by decide +kernel
theorem dl_311 : decode code 311 = .ok (.iaload, 1) := by decide +kernel
theorem dl_312 : decode code 312 = .ok (.aload_n 0, 1) := by decide +kernel
theorem dl_313 : decode code 313 = .ok (.iload_n 3, 1) := by decide +kernel
theorem dl_314 : decode code 314 = .ok (.iconst 3, 1) := by decide +kernel
theorem dl_315 : decode code 315 = .ok (.iadd, 1) := by decide +kernel
theorem dl_316 : decode code 316 = .ok (.iaload, 1) := by decide +kernel
theorem dl_317 : decode code 317 = .ok (.aload_n 0, 1) := by decide +kernel
theorem dl_318 : decode code 318 = .ok (.iload_n 3, 1) := by decide +kernel
theorem dl_319 : decode code 319 = .ok (.iconst 4, 1) := by decide +kernel
theorem dl_320 : decode code 320 = .ok (.iadd, 1) := by decide +kernel
theorem dl_321 : decode code 321 = .ok (.iaload, 1) := by decide +kernel
theorem dl_322 : decode code 322 = .ok (.invokevirtual 27, 3) := by decide +kernel
theorem dl_325 : decode code 325 = .ok (.aload_n 2, 1) := by decide +kernel
theorem dl_326 : decode code 326 = .ok (.aload_n 0, 1) := by decide +kernel
theorem dl_327 : decode code 327 = .ok (.iload_n 3, 1) := by decide +kernel
theorem dl_328 : decode code 328 = .ok (.iconst 1, 1) := by decide +kernel
theorem dl_329 : decode code 329 = .ok (.iadd, 1) := by decide +kernel
theorem dl_330 : decode code 330 = .ok (.iaload, 1) := by decide +kernel
theorem dl_331 : decode code 331 = .ok (.aload_n 0, 1) := by decide +kernel
theorem dl_332 : decode code 332 = .ok (.iload_n 3, 1) := by decide +kernel
theorem dl_333 : decode code 333 = .ok (.iconst 2, 1) := by decide +kernel
theorem dl_334 : decode code 334 = .ok (.iadd, 1) := by decide +kernel
theorem dl_335 : decode code 335 = .ok (.iaload, 1) := by decide +kernel
theorem dl_336 : decode code 336 = .ok (.aload_n 0, 1) := by decide +kernel
theorem dl_337 : decode code 337 = .ok (.iload_n 3, 1) := by decide +kernel
theorem dl_338 : decode code 338 = .ok (.iconst 3, 1) := by decide +kernel
theorem dl_339 : decode code 339 = .ok (.iadd, 1) := by decide +kernel
theorem dl_340 : decode code 340 = .ok (.iaload, 1) := by decide +kernel
theorem dl_341 : decode code 341 = .ok (.aload_n 0, 1) := by decide +kernel
theorem dl_342 : decode code 342 = .ok (.iload_n 3, 1) := by decide +kernel
theorem dl_343 : decode code 343 = .ok (.iconst 4, 1) := by decide +kernel
theorem dl_344 : decode code 344 = .ok (.iadd, 1) := by decide +kernel
theorem dl_345 : decode code 345 = .ok (.iaload, 1) := by decide +kernel
theorem dl_346 : decode code 346 = .ok (.invokevirtual 31, 3) := by decide +kernel
theorem dl_349 : decode code 349 = .ok (.if_icmp .eq 1153, 3) := by decide +kernel
theorem dl_352 : decode code 352 = .ok (.iconst 0, 1) := by decide +kernel
theorem dl_353 : decode code 353 = .ok (.ireturn, 1) := by decide +kernel
set_option maxRecDepth 100000 in
set_option maxHeartbeats 2000000 in
theorem lc_3 {p : Program} (l : Launch) {e : Env} {s : State} {m : MethodId} {below : List Frame} {meth : Method} {c : Code} {H : Heap} {locs : List Loc} {Q : State → Prop} {ls : Array Slot} {G : GG} {B b L i : Nat} {xs : Nat → Int32} {wx : WX} {wm : Mem} (C : CX p s m #[Value.ref b] meth c code 4 R_law TL ret) (hX : va_X b L xs s s.heap) (hbl : b < s.heap.size) (hL : L ≤ 2560) (hi : i + 5 ≤ L) (hR : Rel wx wm) (hG : Gd s G (fun q => s.heap.size ≤ q) 153 B (entX G B wx) (pool 28 (B + 153) (entM G (B + 153) wm)) H locs) (hl : lv_has ls 4 [(0, .ref b), (1, .ref (B + 0)), (2, .ref (B + 153 + 0)), (3, .int (nI i))]) (kk : ∀ (H : Heap) (locs : List Loc) (wx : WX) (wm : Mem), Rel wx wm → Gd s G (fun q => s.heap.size ≤ q) 153 B (entX G B wx) (pool 28 (B + 153) (entM G (B + 153) wm)) H locs → W p l e room_1 s m #[Value.ref b] below meth c H locs 181 4461 Q (F0 m 1502 ls [])) : W p l e room_1 s m #[Value.ref b] below meth c H locs 181 4461 Q (F0 m 301 ls []) := by
  obtain ⟨v, hv, ⟨u, wm'⟩, hu, heq, hR'⟩ := c_product (xs (i + 1)) (xs (i + 2)) (xs (i + 3)) (xs (i + 4)) hR
  have hbA : ¬ (fun q : Nat => s.heap.size ≤ q) b := Nat.not_le.mpr hbl
  refine lv_aload_n C.1 C.2.1 dl_301 rfl (lv_at hl 1 rfl) ?_
  refine rl_arg C hX hbl hbA hG.2.2 (i := i) (j := 1) hL (by omega) hl (by decide) dl_302 dl_303 dl_304 dl_305 dl_306 ?_
  refine rl_arg C hX hbl hbA hG.2.2 (i := i) (j := 2) hL (by omega) hl (by decide) dl_307 dl_308 dl_309 dl_310 dl_311 ?_
  refine rl_arg C hX hbl hbA hG.2.2 (i := i) (j := 3) hL (by omega) hl (by decide) dl_312 dl_313 dl_314 dl_315 dl_316 ?_
  refine rl_arg C hX hbl hbA hG.2.2 (i := i) (j := 4) hL (by omega) hl (by decide) dl_317 dl_318 dl_319 dl_320 dl_321 ?_
  refine rl_callV C hG hl.1 (c0 := 0) (As := [.int (xs (i + 1)), .int (xs (i + 2)), .int (xs (i + 3)), .int (xs (i + 4))]) (by decide) (entX_O8 (n := 13) rfl) rfl (mt_X8_product l hv) (cwV 4 C.2.2.2.2.1 (gd_V tg_2_127 tg_2_128 tg_2_129 tg_1_1 tg_2_130) rfl rfl rfl cd_X8_product ⟨Nat.le_of_ble_eq_true rfl, Nat.le_of_ble_eq_true rfl⟩) (Nat.le_of_ble_eq_true rfl) (Nat.le_of_ble_eq_true rfl) rfl rfl (Nat.le_of_ble_eq_true rfl) dl_322 (fun H locs hG => ?_)
  have hG := hG.swap
  refine lv_aload_n C.1 C.2.1 dl_325 rfl (lv_at hl 2 rfl) ?_
  refine rl_arg C hX hbl hbA hG.2.2 (i := i) (j := 1) hL (by omega) hl (by decide) dl_326 dl_327 dl_328 dl_329 dl_330 ?_
  refine rl_arg C hX hbl hbA hG.2.2 (i := i) (j := 2) hL (by omega) hl (by decide) dl_331 dl_332 dl_333 dl_334 dl_335 ?_
  refine rl_arg C hX hbl hbA hG.2.2 (i := i) (j := 3) hL (by omega) hl (by decide) dl_336 dl_337 dl_338 dl_339 dl_340 ?_
  refine rl_arg C hX hbl hbA hG.2.2 (i := i) (j := 4) hL (by omega) hl (by decide) dl_341 dl_342 dl_343 dl_344 dl_345 ?_
  refine rl_callV C hG hl.1 (c0 := 0) (As := [.int (xs (i + 1)), .int (xs (i + 2)), .int (xs (i + 3)), .int (xs (i + 4))]) (by decide) (entM_O (n := 35) rfl) rfl (mt_X9_product l hu) (cwV 4 C.2.2.2.2.1 (gd_V tg_4_217 tg_4_218 tg_4_219 tg_1_10 tg_4_220) rfl rfl rfl cd_X9_product ⟨Nat.le_of_ble_eq_true rfl, Nat.le_of_ble_eq_true rfl⟩) (Nat.le_of_ble_eq_true rfl) (Nat.le_of_ble_eq_true rfl) rfl rfl (Nat.le_of_ble_eq_true rfl) dl_346 (fun H locs hG => ?_)
  have hG := hG.swap
  refine lv_icmp_eq (tgt := 1502) C.1 C.2.1 dl_349 (by decide) (fun _ => ?_) (fun q => absurd heq q)
  exact kk H locs _ _ hR' hG
theorem dl_354 : decode code 354 = .ok (.aload_n 1, 1) := by decide +kernel
theorem dl_355 : decode code 355 = .ok (.aload_n 0, 1) := by decide +kernel
theorem dl_356 : decode code 356 = .ok (.iload_n 3, 1) := by decide +kernel
theorem dl_357 : decode code 357 = .ok (.iconst 1, 1) := by decide +kernel
theorem dl_358 : decode code 358 = .ok (.iadd, 1) := by decide +kernel
theorem dl_359 : decode code 359 = .ok (.iaload, 1) := by decide +kernel
theorem dl_360 : decode code 360 = .ok (.aload_n 0, 1) := by decide +kernel
theorem dl_361 : decode code 361 = .ok (.iload_n 3, 1) := by decide +kernel
theorem dl_362 : decode code 362 = .ok (.iconst 2, 1) := by decide +kernel
theorem dl_363 : decode code 363 = .ok (.iadd, 1) := by decide +kernel
theorem dl_364 : decode code 364 = .ok (.iaload, 1) := by decide +kernel
theorem dl_365 : decode code 365 = .ok (.aload_n 0, 1) := by decide +kernel
theorem dl_366 : decode code 366 = .ok (.iload_n 3, 1) := by decide +kernel
theorem dl_367 : decode code 367 = .ok (.iconst 3, 1) := by decide +kernel
theorem dl_368 : decode code 368 = .ok (.iadd, 1) := by decide +kernel
theorem dl_369 : decode code 369 = .ok (.iaload, 1) := by decide +kernel
theorem dl_370 : decode code 370 = .ok (.aload_n 0, 1) := by decide +kernel
theorem dl_371 : decode code 371 = .ok (.iload_n 3, 1) := by decide +kernel
theorem dl_372 : decode code 372 = .ok (.iconst 4, 1) := by decide +kernel
theorem dl_373 : decode code 373 = .ok (.iadd, 1) := by decide +kernel
theorem dl_374 : decode code 374 = .ok (.iaload, 1) := by decide +kernel
theorem dl_375 : decode code 375 = .ok (.invokevirtual 32, 3) := by decide +kernel
theorem dl_378 : decode code 378 = .ok (.aload_n 2, 1) := by decide +kernel
theorem dl_379 : decode code 379 = .ok (.aload_n 0, 1) := by decide +kernel
theorem dl_380 : decode code 380 = .ok (.iload_n 3, 1) := by decide +kernel
theorem dl_381 : decode code 381 = .ok (.iconst 1, 1) := by decide +kernel
theorem dl_382 : decode code 382 = .ok (.iadd, 1) := by decide +kernel
theorem dl_383 : decode code 383 = .ok (.iaload, 1) := by decide +kernel
theorem dl_384 : decode code 384 = .ok (.aload_n 0, 1) := by decide +kernel
theorem dl_385 : decode code 385 = .ok (.iload_n 3, 1) := by decide +kernel
theorem dl_386 : decode code 386 = .ok (.iconst 2, 1) := by decide +kernel
theorem dl_387 : decode code 387 = .ok (.iadd, 1) := by decide +kernel
theorem dl_388 : decode code 388 = .ok (.iaload, 1) := by decide +kernel
theorem dl_389 : decode code 389 = .ok (.aload_n 0, 1) := by decide +kernel
theorem dl_390 : decode code 390 = .ok (.iload_n 3, 1) := by decide +kernel
theorem dl_391 : decode code 391 = .ok (.iconst 3, 1) := by decide +kernel
theorem dl_392 : decode code 392 = .ok (.iadd, 1) := by decide +kernel
theorem dl_393 : decode code 393 = .ok (.iaload, 1) := by decide +kernel
theorem dl_394 : decode code 394 = .ok (.aload_n 0, 1) := by decide +kernel
theorem dl_395 : decode code 395 = .ok (.iload_n 3, 1) := by decide +kernel
theorem dl_396 : decode code 396 = .ok (.iconst 4, 1) := by decide +kernel
theorem dl_397 : decode code 397 = .ok (.iadd, 1) := by decide +kernel
theorem dl_398 : decode code 398 = .ok (.iaload, 1) := by decide +kernel
theorem dl_399 : decode code 399 = .ok (.invokevirtual 35, 3) := by decide +kernel
theorem dl_402 : decode code 402 = .ok (.if_icmp .eq 1100, 3) := by decide +kernel
theorem dl_405 : decode code 405 = .ok (.iconst 0, 1) := by decide +kernel
theorem dl_406 : decode code 406 = .ok (.ireturn, 1) := by decide +kernel
set_option maxRecDepth 100000 in
set_option maxHeartbeats 2000000 in
theorem lc_4 {p : Program} (l : Launch) {e : Env} {s : State} {m : MethodId} {below : List Frame} {meth : Method} {c : Code} {H : Heap} {locs : List Loc} {Q : State → Prop} {ls : Array Slot} {G : GG} {B b L i : Nat} {xs : Nat → Int32} {wx : WX} {wm : Mem} (C : CX p s m #[Value.ref b] meth c code 4 R_law TL ret) (hX : va_X b L xs s s.heap) (hbl : b < s.heap.size) (hL : L ≤ 2560) (hi : i + 5 ≤ L) (hR : Rel wx wm) (hG : Gd s G (fun q => s.heap.size ≤ q) 153 B (entX G B wx) (pool 28 (B + 153) (entM G (B + 153) wm)) H locs) (hl : lv_has ls 4 [(0, .ref b), (1, .ref (B + 0)), (2, .ref (B + 153 + 0)), (3, .int (nI i))]) (kk : ∀ (H : Heap) (locs : List Loc) (wx : WX) (wm : Mem), Rel wx wm → Gd s G (fun q => s.heap.size ≤ q) 153 B (entX G B wx) (pool 28 (B + 153) (entM G (B + 153) wm)) H locs → W p l e room_1 s m #[Value.ref b] below meth c H locs 181 4461 Q (F0 m 1502 ls [])) : W p l e room_1 s m #[Value.ref b] below meth c H locs 181 4461 Q (F0 m 354 ls []) := by
  obtain ⟨v, hv, ⟨u, wm'⟩, hu, heq, hR'⟩ := c_form (xs (i + 1)) (xs (i + 2)) (xs (i + 3)) (xs (i + 4)) hR
  have hbA : ¬ (fun q : Nat => s.heap.size ≤ q) b := Nat.not_le.mpr hbl
  refine lv_aload_n C.1 C.2.1 dl_354 rfl (lv_at hl 1 rfl) ?_
  refine rl_arg C hX hbl hbA hG.2.2 (i := i) (j := 1) hL (by omega) hl (by decide) dl_355 dl_356 dl_357 dl_358 dl_359 ?_
  refine rl_arg C hX hbl hbA hG.2.2 (i := i) (j := 2) hL (by omega) hl (by decide) dl_360 dl_361 dl_362 dl_363 dl_364 ?_
  refine rl_arg C hX hbl hbA hG.2.2 (i := i) (j := 3) hL (by omega) hl (by decide) dl_365 dl_366 dl_367 dl_368 dl_369 ?_
  refine rl_arg C hX hbl hbA hG.2.2 (i := i) (j := 4) hL (by omega) hl (by decide) dl_370 dl_371 dl_372 dl_373 dl_374 ?_
  refine rl_callV C hG hl.1 (c0 := 0) (As := [.int (xs (i + 1)), .int (xs (i + 2)), .int (xs (i + 3)), .int (xs (i + 4))]) (by decide) (entX_O8 (n := 13) rfl) rfl (mt_X8_form l hv) (cwV 4 C.2.2.2.2.1 (gd_V tg_2_139 tg_2_140 tg_2_141 tg_1_1 tg_2_142) rfl rfl rfl cd_X8_form ⟨Nat.le_of_ble_eq_true rfl, Nat.le_of_ble_eq_true rfl⟩) (Nat.le_of_ble_eq_true rfl) (Nat.le_of_ble_eq_true rfl) rfl rfl (Nat.le_of_ble_eq_true rfl) dl_375 (fun H locs hG => ?_)
  have hG := hG.swap
  refine lv_aload_n C.1 C.2.1 dl_378 rfl (lv_at hl 2 rfl) ?_
  refine rl_arg C hX hbl hbA hG.2.2 (i := i) (j := 1) hL (by omega) hl (by decide) dl_379 dl_380 dl_381 dl_382 dl_383 ?_
  refine rl_arg C hX hbl hbA hG.2.2 (i := i) (j := 2) hL (by omega) hl (by decide) dl_384 dl_385 dl_386 dl_387 dl_388 ?_
  refine rl_arg C hX hbl hbA hG.2.2 (i := i) (j := 3) hL (by omega) hl (by decide) dl_389 dl_390 dl_391 dl_392 dl_393 ?_
  refine rl_arg C hX hbl hbA hG.2.2 (i := i) (j := 4) hL (by omega) hl (by decide) dl_394 dl_395 dl_396 dl_397 dl_398 ?_
  refine rl_callV C hG hl.1 (c0 := 0) (As := [.int (xs (i + 1)), .int (xs (i + 2)), .int (xs (i + 3)), .int (xs (i + 4))]) (by decide) (entM_O (n := 35) rfl) rfl (mt_X9_form l hu) (cwV 4 C.2.2.2.2.1 (gd_V tg_5_18 tg_5_19 tg_5_20 tg_1_10 tg_5_21) rfl rfl rfl cd_X9_form ⟨Nat.le_of_ble_eq_true rfl, Nat.le_of_ble_eq_true rfl⟩) (Nat.le_of_ble_eq_true rfl) (Nat.le_of_ble_eq_true rfl) rfl rfl (Nat.le_of_ble_eq_true rfl) dl_399 (fun H locs hG => ?_)
  have hG := hG.swap
  refine lv_icmp_eq (tgt := 1502) C.1 C.2.1 dl_402 (by decide) (fun _ => ?_) (fun q => absurd heq q)
  exact kk H locs _ _ hR' hG
theorem dl_407 : decode code 407 = .ok (.aload_n 1, 1) := by decide +kernel
theorem dl_408 : decode code 408 = .ok (.aload_n 0, 1) := by decide +kernel
theorem dl_409 : decode code 409 = .ok (.iload_n 3, 1) := by decide +kernel
theorem dl_410 : decode code 410 = .ok (.iconst 1, 1) := by decide +kernel
theorem dl_411 : decode code 411 = .ok (.iadd, 1) := by decide +kernel
theorem dl_412 : decode code 412 = .ok (.iaload, 1) := by decide +kernel
theorem dl_413 : decode code 413 = .ok (.aload_n 0, 1) := by decide +kernel
theorem dl_414 : decode code 414 = .ok (.iload_n 3, 1) := by decide +kernel
theorem dl_415 : decode code 415 = .ok (.iconst 2, 1) := by decide +kernel
theorem dl_416 : decode code 416 = .ok (.iadd, 1) := by decide +kernel
theorem dl_417 : decode code 417 = .ok (.iaload, 1) := by decide +kernel
theorem dl_418 : decode code 418 = .ok (.aload_n 0, 1) := by decide +kernel
theorem dl_419 : decode code 419 = .ok (.iload_n 3, 1) := by decide +kernel
theorem dl_420 : decode code 420 = .ok (.iconst 3, 1) := by decide +kernel
theorem dl_421 : decode code 421 = .ok (.iadd, 1) := by decide +kernel
theorem dl_422 : decode code 422 = .ok (.iaload, 1) := by decide +kernel
theorem dl_423 : decode code 423 = .ok (.invokevirtual 36, 3) := by decide +kernel
theorem dl_426 : decode code 426 = .ok (.aload_n 2, 1) := by decide +kernel
theorem dl_427 : decode code 427 = .ok (.aload_n 0, 1) := by decide +kernel
theorem dl_428 : decode code 428 = .ok (.iload_n 3, 1) := by decide +kernel
theorem dl_429 : decode code 429 = .ok (.iconst 1, 1) := by decide +kernel
theorem dl_430 : decode code 430 = .ok (.iadd, 1) := by decide +kernel
theorem dl_431 : decode code 431 = .ok (.iaload, 1) := by decide +kernel
theorem dl_432 : decode code 432 = .ok (.aload_n 0, 1) := by decide +kernel
theorem dl_433 : decode code 433 = .ok (.iload_n 3, 1) := by decide +kernel
theorem dl_434 : decode code 434 = .ok (.iconst 2, 1) := by decide +kernel
theorem dl_435 : decode code 435 = .ok (.iadd, 1) := by decide +kernel
theorem dl_436 : decode code 436 = .ok (.iaload, 1) := by decide +kernel
theorem dl_437 : decode code 437 = .ok (.aload_n 0, 1) := by decide +kernel
theorem dl_438 : decode code 438 = .ok (.iload_n 3, 1) := by decide +kernel
theorem dl_439 : decode code 439 = .ok (.iconst 3, 1) := by decide +kernel
theorem dl_440 : decode code 440 = .ok (.iadd, 1) := by decide +kernel
theorem dl_441 : decode code 441 = .ok (.iaload, 1) := by decide +kernel
theorem dl_442 : decode code 442 = .ok (.invokevirtual 39, 3) := by decide +kernel
theorem dl_445 : decode code 445 = .ok (.if_icmp .eq 1057, 3) := by decide +kernel
theorem dl_448 : decode code 448 = .ok (.iconst 0, 1) := by decide +kernel
theorem dl_449 : decode code 449 = .ok (.ireturn, 1) := by decide +kernel
set_option maxRecDepth 100000 in
set_option maxHeartbeats 2000000 in
theorem lc_5 {p : Program} (l : Launch) {e : Env} {s : State} {m : MethodId} {below : List Frame} {meth : Method} {c : Code} {H : Heap} {locs : List Loc} {Q : State → Prop} {ls : Array Slot} {G : GG} {B b L i : Nat} {xs : Nat → Int32} {wx : WX} {wm : Mem} (C : CX p s m #[Value.ref b] meth c code 4 R_law TL ret) (hX : va_X b L xs s s.heap) (hbl : b < s.heap.size) (hL : L ≤ 2560) (hi : i + 5 ≤ L) (hR : Rel wx wm) (hG : Gd s G (fun q => s.heap.size ≤ q) 153 B (entX G B wx) (pool 28 (B + 153) (entM G (B + 153) wm)) H locs) (hl : lv_has ls 4 [(0, .ref b), (1, .ref (B + 0)), (2, .ref (B + 153 + 0)), (3, .int (nI i))]) (kk : ∀ (H : Heap) (locs : List Loc) (wx : WX) (wm : Mem), Rel wx wm → Gd s G (fun q => s.heap.size ≤ q) 153 B (entX G B wx) (pool 28 (B + 153) (entM G (B + 153) wm)) H locs → W p l e room_1 s m #[Value.ref b] below meth c H locs 181 4461 Q (F0 m 1502 ls [])) : W p l e room_1 s m #[Value.ref b] below meth c H locs 181 4461 Q (F0 m 407 ls []) := by
  obtain ⟨v, hv, ⟨u, wm'⟩, hu, heq, hR'⟩ := c_element (xs (i + 1)) (xs (i + 2)) (xs (i + 3)) hR
  have hbA : ¬ (fun q : Nat => s.heap.size ≤ q) b := Nat.not_le.mpr hbl
  refine lv_aload_n C.1 C.2.1 dl_407 rfl (lv_at hl 1 rfl) ?_
  refine rl_arg C hX hbl hbA hG.2.2 (i := i) (j := 1) hL (by omega) hl (by decide) dl_408 dl_409 dl_410 dl_411 dl_412 ?_
  refine rl_arg C hX hbl hbA hG.2.2 (i := i) (j := 2) hL (by omega) hl (by decide) dl_413 dl_414 dl_415 dl_416 dl_417 ?_
  refine rl_arg C hX hbl hbA hG.2.2 (i := i) (j := 3) hL (by omega) hl (by decide) dl_418 dl_419 dl_420 dl_421 dl_422 ?_
  refine rl_callV C hG hl.1 (c0 := 0) (As := [.int (xs (i + 1)), .int (xs (i + 2)), .int (xs (i + 3))]) (by decide) (entX_O8 (n := 13) rfl) rfl (mt_X8_element l hv) (cwV 3 C.2.2.2.2.1 (gd_V tg_2_148 tg_2_149 tg_2_150 tg_1_1 tg_2_151) rfl rfl rfl cd_X8_element ⟨Nat.le_of_ble_eq_true rfl, Nat.le_of_ble_eq_true rfl⟩) (Nat.le_of_ble_eq_true rfl) (Nat.le_of_ble_eq_true rfl) rfl rfl (Nat.le_of_ble_eq_true rfl) dl_423 (fun H locs hG => ?_)
  have hG := hG.swap
  refine lv_aload_n C.1 C.2.1 dl_426 rfl (lv_at hl 2 rfl) ?_
  refine rl_arg C hX hbl hbA hG.2.2 (i := i) (j := 1) hL (by omega) hl (by decide) dl_427 dl_428 dl_429 dl_430 dl_431 ?_
  refine rl_arg C hX hbl hbA hG.2.2 (i := i) (j := 2) hL (by omega) hl (by decide) dl_432 dl_433 dl_434 dl_435 dl_436 ?_
  refine rl_arg C hX hbl hbA hG.2.2 (i := i) (j := 3) hL (by omega) hl (by decide) dl_437 dl_438 dl_439 dl_440 dl_441 ?_
  refine rl_callV C hG hl.1 (c0 := 0) (As := [.int (xs (i + 1)), .int (xs (i + 2)), .int (xs (i + 3))]) (by decide) (entM_O (n := 35) rfl) rfl (mt_X9_element l hu) (cwV 3 C.2.2.2.2.1 (gd_V tg_5_22 tg_5_23 tg_5_24 tg_1_10 tg_5_25) rfl rfl rfl cd_X9_element ⟨Nat.le_of_ble_eq_true rfl, Nat.le_of_ble_eq_true rfl⟩) (Nat.le_of_ble_eq_true rfl) (Nat.le_of_ble_eq_true rfl) rfl rfl (Nat.le_of_ble_eq_true rfl) dl_442 (fun H locs hG => ?_)
  have hG := hG.swap
  refine lv_icmp_eq (tgt := 1502) C.1 C.2.1 dl_445 (by decide) (fun _ => ?_) (fun q => absurd heq q)
  exact kk H locs _ _ hR' hG
theorem dl_450 : decode code 450 = .ok (.aload_n 1, 1) := by decide +kernel
theorem dl_451 : decode code 451 = .ok (.aload_n 0, 1) := by decide +kernel
theorem dl_452 : decode code 452 = .ok (.iload_n 3, 1) := by decide +kernel
theorem dl_453 : decode code 453 = .ok (.iconst 1, 1) := by decide +kernel
theorem dl_454 : decode code 454 = .ok (.iadd, 1) := by decide +kernel
theorem dl_455 : decode code 455 = .ok (.iaload, 1) := by decide +kernel
theorem dl_456 : decode code 456 = .ok (.aload_n 0, 1) := by decide +kernel
theorem dl_457 : decode code 457 = .ok (.iload_n 3, 1) := by decide +kernel
theorem dl_458 : decode code 458 = .ok (.iconst 2, 1) := by decide +kernel
theorem dl_459 : decode code 459 = .ok (.iadd, 1) := by decide +kernel
theorem dl_460 : decode code 460 = .ok (.iaload, 1) := by decide +kernel
theorem dl_461 : decode code 461 = .ok (.aload_n 0, 1) := by decide +kernel
theorem dl_462 : decode code 462 = .ok (.iload_n 3, 1) := by decide +kernel
theorem dl_463 : decode code 463 = .ok (.iconst 3, 1) := by decide +kernel
theorem dl_464 : decode code 464 = .ok (.iadd, 1) := by decide +kernel
theorem dl_465 : decode code 465 = .ok (.iaload, 1) := by decide +kernel
theorem dl_466 : decode code 466 = .ok (.aload_n 0, 1) := by decide +kernel
theorem dl_467 : decode code 467 = .ok (.iload_n 3, 1) := by decide +kernel
theorem dl_468 : decode code 468 = .ok (.iconst 4, 1) := by decide +kernel
theorem dl_469 : decode code 469 = .ok (.iadd, 1) := by decide +kernel
theorem dl_470 : decode code 470 = .ok (.iaload, 1) := by decide +kernel
theorem dl_471 : decode code 471 = .ok (.invokevirtual 40, 3) := by decide +kernel
theorem dl_474 : decode code 474 = .ok (.aload_n 2, 1) := by decide +kernel
theorem dl_475 : decode code 475 = .ok (.aload_n 0, 1) := by decide +kernel
theorem dl_476 : decode code 476 = .ok (.iload_n 3, 1) := by decide +kernel
theorem dl_477 : decode code 477 = .ok (.iconst 1, 1) := by decide +kernel
theorem dl_478 : decode code 478 = .ok (.iadd, 1) := by decide +kernel
theorem dl_479 : decode code 479 = .ok (.iaload, 1) := by decide +kernel
theorem dl_480 : decode code 480 = .ok (.aload_n 0, 1) := by decide +kernel
theorem dl_481 : decode code 481 = .ok (.iload_n 3, 1) := by decide +kernel
theorem dl_482 : decode code 482 = .ok (.iconst 2, 1) := by decide +kernel
theorem dl_483 : decode code 483 = .ok (.iadd, 1) := by decide +kernel
theorem dl_484 : decode code 484 = .ok (.iaload, 1) := by decide +kernel
theorem dl_485 : decode code 485 = .ok (.aload_n 0, 1) := by decide +kernel
theorem dl_486 : decode code 486 = .ok (.iload_n 3, 1) := by decide +kernel
theorem dl_487 : decode code 487 = .ok (.iconst 3, 1) := by decide +kernel
theorem dl_488 : decode code 488 = .ok (.iadd, 1) := by decide +kernel
theorem dl_489 : decode code 489 = .ok (.iaload, 1) := by decide +kernel
theorem dl_490 : decode code 490 = .ok (.aload_n 0, 1) := by decide +kernel
theorem dl_491 : decode code 491 = .ok (.iload_n 3, 1) := by decide +kernel
theorem dl_492 : decode code 492 = .ok (.iconst 4, 1) := by decide +kernel
theorem dl_493 : decode code 493 = .ok (.iadd, 1) := by decide +kernel
theorem dl_494 : decode code 494 = .ok (.iaload, 1) := by decide +kernel
theorem dl_495 : decode code 495 = .ok (.invokevirtual 43, 3) := by decide +kernel
theorem dl_498 : decode code 498 = .ok (.if_icmp .eq 1004, 3) := by decide +kernel
theorem dl_501 : decode code 501 = .ok (.iconst 0, 1) := by decide +kernel
theorem dl_502 : decode code 502 = .ok (.ireturn, 1) := by decide +kernel
set_option maxRecDepth 100000 in
set_option maxHeartbeats 2000000 in
theorem lc_6 {p : Program} (l : Launch) {e : Env} {s : State} {m : MethodId} {below : List Frame} {meth : Method} {c : Code} {H : Heap} {locs : List Loc} {Q : State → Prop} {ls : Array Slot} {G : GG} {B b L i : Nat} {xs : Nat → Int32} {wx : WX} {wm : Mem} (C : CX p s m #[Value.ref b] meth c code 4 R_law TL ret) (hX : va_X b L xs s s.heap) (hbl : b < s.heap.size) (hL : L ≤ 2560) (hi : i + 5 ≤ L) (hR : Rel wx wm) (hG : Gd s G (fun q => s.heap.size ≤ q) 153 B (entX G B wx) (pool 28 (B + 153) (entM G (B + 153) wm)) H locs) (hl : lv_has ls 4 [(0, .ref b), (1, .ref (B + 0)), (2, .ref (B + 153 + 0)), (3, .int (nI i))]) (kk : ∀ (H : Heap) (locs : List Loc) (wx : WX) (wm : Mem), Rel wx wm → Gd s G (fun q => s.heap.size ≤ q) 153 B (entX G B wx) (pool 28 (B + 153) (entM G (B + 153) wm)) H locs → W p l e room_1 s m #[Value.ref b] below meth c H locs 181 4461 Q (F0 m 1502 ls [])) : W p l e room_1 s m #[Value.ref b] below meth c H locs 181 4461 Q (F0 m 450 ls []) := by
  obtain ⟨v, hv, ⟨u, wm'⟩, hu, heq, hR'⟩ := c_split (xs (i + 1)) (xs (i + 2)) (xs (i + 3)) (xs (i + 4)) hR
  have hbA : ¬ (fun q : Nat => s.heap.size ≤ q) b := Nat.not_le.mpr hbl
  refine lv_aload_n C.1 C.2.1 dl_450 rfl (lv_at hl 1 rfl) ?_
  refine rl_arg C hX hbl hbA hG.2.2 (i := i) (j := 1) hL (by omega) hl (by decide) dl_451 dl_452 dl_453 dl_454 dl_455 ?_
  refine rl_arg C hX hbl hbA hG.2.2 (i := i) (j := 2) hL (by omega) hl (by decide) dl_456 dl_457 dl_458 dl_459 dl_460 ?_
  refine rl_arg C hX hbl hbA hG.2.2 (i := i) (j := 3) hL (by omega) hl (by decide) dl_461 dl_462 dl_463 dl_464 dl_465 ?_
  refine rl_arg C hX hbl hbA hG.2.2 (i := i) (j := 4) hL (by omega) hl (by decide) dl_466 dl_467 dl_468 dl_469 dl_470 ?_
  refine rl_callV C hG hl.1 (c0 := 0) (As := [.int (xs (i + 1)), .int (xs (i + 2)), .int (xs (i + 3)), .int (xs (i + 4))]) (by decide) (entX_O8 (n := 13) rfl) rfl (mt_X8_split l hv) (cwV 4 C.2.2.2.2.1 (gd_V tg_2_152 tg_2_153 tg_2_154 tg_1_1 tg_2_155) rfl rfl rfl cd_X8_split ⟨Nat.le_of_ble_eq_true rfl, Nat.le_of_ble_eq_true rfl⟩) (Nat.le_of_ble_eq_true rfl) (Nat.le_of_ble_eq_true rfl) rfl rfl (Nat.le_of_ble_eq_true rfl) dl_471 (fun H locs hG => ?_)
  have hG := hG.swap
  refine lv_aload_n C.1 C.2.1 dl_474 rfl (lv_at hl 2 rfl) ?_
  refine rl_arg C hX hbl hbA hG.2.2 (i := i) (j := 1) hL (by omega) hl (by decide) dl_475 dl_476 dl_477 dl_478 dl_479 ?_
  refine rl_arg C hX hbl hbA hG.2.2 (i := i) (j := 2) hL (by omega) hl (by decide) dl_480 dl_481 dl_482 dl_483 dl_484 ?_
  refine rl_arg C hX hbl hbA hG.2.2 (i := i) (j := 3) hL (by omega) hl (by decide) dl_485 dl_486 dl_487 dl_488 dl_489 ?_
  refine rl_arg C hX hbl hbA hG.2.2 (i := i) (j := 4) hL (by omega) hl (by decide) dl_490 dl_491 dl_492 dl_493 dl_494 ?_
  refine rl_callV C hG hl.1 (c0 := 0) (As := [.int (xs (i + 1)), .int (xs (i + 2)), .int (xs (i + 3)), .int (xs (i + 4))]) (by decide) (entM_O (n := 35) rfl) rfl (mt_X9_split l hu) (cwV 4 C.2.2.2.2.1 (gd_V tg_5_26 tg_5_27 tg_5_28 tg_1_10 tg_5_29) rfl rfl rfl cd_X9_split ⟨Nat.le_of_ble_eq_true rfl, Nat.le_of_ble_eq_true rfl⟩) (Nat.le_of_ble_eq_true rfl) (Nat.le_of_ble_eq_true rfl) rfl rfl (Nat.le_of_ble_eq_true rfl) dl_495 (fun H locs hG => ?_)
  have hG := hG.swap
  refine lv_icmp_eq (tgt := 1502) C.1 C.2.1 dl_498 (by decide) (fun _ => ?_) (fun q => absurd heq q)
  exact kk H locs _ _ hR' hG
theorem dl_503 : decode code 503 = .ok (.aload_n 1, 1) := by decide +kernel
theorem dl_504 : decode code 504 = .ok (.aload_n 0, 1) := by decide +kernel
theorem dl_505 : decode code 505 = .ok (.iload_n 3, 1) := by decide +kernel
theorem dl_506 : decode code 506 = .ok (.iconst 1, 1) := by decide +kernel
theorem dl_507 : decode code 507 = .ok (.iadd, 1) := by decide +kernel
theorem dl_508 : decode code 508 = .ok (.iaload, 1) := by decide +kernel
theorem dl_509 : decode code 509 = .ok (.aload_n 0, 1) := by decide +kernel
theorem dl_510 : decode code 510 = .ok (.iload_n 3, 1) := by decide +kernel
theorem dl_511 : decode code 511 = .ok (.iconst 2, 1) := by decide +kernel
theorem dl_512 : decode code 512 = .ok (.iadd, 1) := by decide +kernel
theorem dl_513 : decode code 513 = .ok (.iaload, 1) := by decide +kernel
theorem dl_514 : decode code 514 = .ok (.aload_n 0, 1) := by decide +kernel
theorem dl_515 : decode code 515 = .ok (.iload_n 3, 1) := by decide +kernel
theorem dl_516 : decode code 516 = .ok (.iconst 3, 1) := by decide +kernel
theorem dl_517 : decode code 517 = .ok (.iadd, 1) := by decide +kernel
theorem dl_518 : decode code 518 = .ok (.iaload, 1) := by decide +kernel
theorem dl_519 : decode code 519 = .ok (.invokevirtual 44, 3) := by decide +kernel
theorem dl_522 : decode code 522 = .ok (.aload_n 2, 1) := by decide +kernel
theorem dl_523 : decode code 523 = .ok (.aload_n 0, 1) := by decide +kernel
theorem dl_524 : decode code 524 = .ok (.iload_n 3, 1) := by decide +kernel
theorem dl_525 : decode code 525 = .ok (.iconst 1, 1) := by decide +kernel
theorem dl_526 : decode code 526 = .ok (.iadd, 1) := by decide +kernel
theorem dl_527 : decode code 527 = .ok (.iaload, 1) := by decide +kernel
theorem dl_528 : decode code 528 = .ok (.aload_n 0, 1) := by decide +kernel
theorem dl_529 : decode code 529 = .ok (.iload_n 3, 1) := by decide +kernel
theorem dl_530 : decode code 530 = .ok (.iconst 2, 1) := by decide +kernel
theorem dl_531 : decode code 531 = .ok (.iadd, 1) := by decide +kernel
theorem dl_532 : decode code 532 = .ok (.iaload, 1) := by decide +kernel
theorem dl_533 : decode code 533 = .ok (.aload_n 0, 1) := by decide +kernel
theorem dl_534 : decode code 534 = .ok (.iload_n 3, 1) := by decide +kernel
theorem dl_535 : decode code 535 = .ok (.iconst 3, 1) := by decide +kernel
theorem dl_536 : decode code 536 = .ok (.iadd, 1) := by decide +kernel
theorem dl_537 : decode code 537 = .ok (.iaload, 1) := by decide +kernel
theorem dl_538 : decode code 538 = .ok (.invokevirtual 47, 3) := by decide +kernel
theorem dl_541 : decode code 541 = .ok (.if_icmp .eq 961, 3) := by decide +kernel
theorem dl_544 : decode code 544 = .ok (.iconst 0, 1) := by decide +kernel
theorem dl_545 : decode code 545 = .ok (.ireturn, 1) := by decide +kernel
set_option maxRecDepth 100000 in
set_option maxHeartbeats 2000000 in
theorem lc_7 {p : Program} (l : Launch) {e : Env} {s : State} {m : MethodId} {below : List Frame} {meth : Method} {c : Code} {H : Heap} {locs : List Loc} {Q : State → Prop} {ls : Array Slot} {G : GG} {B b L i : Nat} {xs : Nat → Int32} {wx : WX} {wm : Mem} (C : CX p s m #[Value.ref b] meth c code 4 R_law TL ret) (hX : va_X b L xs s s.heap) (hbl : b < s.heap.size) (hL : L ≤ 2560) (hi : i + 5 ≤ L) (hR : Rel wx wm) (hG : Gd s G (fun q => s.heap.size ≤ q) 153 B (entX G B wx) (pool 28 (B + 153) (entM G (B + 153) wm)) H locs) (hl : lv_has ls 4 [(0, .ref b), (1, .ref (B + 0)), (2, .ref (B + 153 + 0)), (3, .int (nI i))]) (kk : ∀ (H : Heap) (locs : List Loc) (wx : WX) (wm : Mem), Rel wx wm → Gd s G (fun q => s.heap.size ≤ q) 153 B (entX G B wx) (pool 28 (B + 153) (entM G (B + 153) wm)) H locs → W p l e room_1 s m #[Value.ref b] below meth c H locs 181 4461 Q (F0 m 1502 ls [])) : W p l e room_1 s m #[Value.ref b] below meth c H locs 181 4461 Q (F0 m 503 ls []) := by
  obtain ⟨⟨v, wx'⟩, hv, ⟨u, wm'⟩, hu, heq, hR'⟩ := c_closed (xs (i + 1)) (xs (i + 2)) (xs (i + 3)) hR
  have hbA : ¬ (fun q : Nat => s.heap.size ≤ q) b := Nat.not_le.mpr hbl
  refine lv_aload_n C.1 C.2.1 dl_503 rfl (lv_at hl 1 rfl) ?_
  refine rl_arg C hX hbl hbA hG.2.2 (i := i) (j := 1) hL (by omega) hl (by decide) dl_504 dl_505 dl_506 dl_507 dl_508 ?_
  refine rl_arg C hX hbl hbA hG.2.2 (i := i) (j := 2) hL (by omega) hl (by decide) dl_509 dl_510 dl_511 dl_512 dl_513 ?_
  refine rl_arg C hX hbl hbA hG.2.2 (i := i) (j := 3) hL (by omega) hl (by decide) dl_514 dl_515 dl_516 dl_517 dl_518 ?_
  refine rl_callV C hG hl.1 (c0 := 0) (As := [.int (xs (i + 1)), .int (xs (i + 2)), .int (xs (i + 3))]) (by decide) (entX_O8 (n := 13) rfl) rfl (mt_X8_closed l hv) (cwV 3 C.2.2.2.2.1 (gd_V tg_2_160 tg_2_161 tg_2_162 tg_1_1 tg_2_163) rfl rfl rfl cd_X8_closed ⟨Nat.le_of_ble_eq_true rfl, Nat.le_of_ble_eq_true rfl⟩) (Nat.le_of_ble_eq_true rfl) (Nat.le_of_ble_eq_true rfl) rfl rfl (Nat.le_of_ble_eq_true rfl) dl_519 (fun H locs hG => ?_)
  have hG := hG.swap
  refine lv_aload_n C.1 C.2.1 dl_522 rfl (lv_at hl 2 rfl) ?_
  refine rl_arg C hX hbl hbA hG.2.2 (i := i) (j := 1) hL (by omega) hl (by decide) dl_523 dl_524 dl_525 dl_526 dl_527 ?_
  refine rl_arg C hX hbl hbA hG.2.2 (i := i) (j := 2) hL (by omega) hl (by decide) dl_528 dl_529 dl_530 dl_531 dl_532 ?_
  refine rl_arg C hX hbl hbA hG.2.2 (i := i) (j := 3) hL (by omega) hl (by decide) dl_533 dl_534 dl_535 dl_536 dl_537 ?_
  refine rl_callV C hG hl.1 (c0 := 0) (As := [.int (xs (i + 1)), .int (xs (i + 2)), .int (xs (i + 3))]) (by decide) (entM_O (n := 35) rfl) rfl (mt_X9_closed l hu) (cwV 3 C.2.2.2.2.1 (gd_V tg_5_34 tg_5_35 tg_5_36 tg_1_10 tg_5_37) rfl rfl rfl cd_X9_closed ⟨Nat.le_of_ble_eq_true rfl, Nat.le_of_ble_eq_true rfl⟩) (Nat.le_of_ble_eq_true rfl) (Nat.le_of_ble_eq_true rfl) rfl rfl (Nat.le_of_ble_eq_true rfl) dl_538 (fun H locs hG => ?_)
  have hG := hG.swap
  refine lv_icmp_eq (tgt := 1502) C.1 C.2.1 dl_541 (by decide) (fun _ => ?_) (fun q => absurd heq q)
  exact kk H locs _ _ hR' hG
theorem dl_546 : decode code 546 = .ok (.aload_n 1, 1) := by decide +kernel
theorem dl_547 : decode code 547 = .ok (.aload_n 0, 1) := by decide +kernel
theorem dl_548 : decode code 548 = .ok (.iload_n 3, 1) := by decide +kernel
theorem dl_549 : decode code 549 = .ok (.iconst 1, 1) := by decide +kernel
theorem dl_550 : decode code 550 = .ok (.iadd, 1) := by decide +kernel
theorem dl_551 : decode code 551 = .ok (.iaload, 1) := by decide +kernel
theorem dl_552 : decode code 552 = .ok (.aload_n 0, 1) := by decide +kernel
theorem dl_553 : decode code 553 = .ok (.iload_n 3, 1) := by decide +kernel
theorem dl_554 : decode code 554 = .ok (.iconst 2, 1) := by decide +kernel
theorem dl_555 : decode code 555 = .ok (.iadd, 1) := by decide +kernel
theorem dl_556 : decode code 556 = .ok (.iaload, 1) := by decide +kernel
theorem dl_557 : decode code 557 = .ok (.aload_n 0, 1) := by decide +kernel
theorem dl_558 : decode code 558 = .ok (.iload_n 3, 1) := by decide +kernel
theorem dl_559 : decode code 559 = .ok (.iconst 3, 1) := by decide +kernel
theorem dl_560 : decode code 560 = .ok (.iadd, 1) := by decide +kernel
theorem dl_561 : decode code 561 = .ok (.iaload, 1) := by decide +kernel
theorem dl_562 : decode code 562 = .ok (.invokevirtual 48, 3) := by decide +kernel
theorem dl_565 : decode code 565 = .ok (.aload_n 2, 1) := by decide +kernel
theorem dl_566 : decode code 566 = .ok (.aload_n 0, 1) := by decide +kernel
theorem dl_567 : decode code 567 = .ok (.iload_n 3, 1) := by decide +kernel
theorem dl_568 : decode code 568 = .ok (.iconst 1, 1) := by decide +kernel
theorem dl_569 : decode code 569 = .ok (.iadd, 1) := by decide +kernel
theorem dl_570 : decode code 570 = .ok (.iaload, 1) := by decide +kernel
theorem dl_571 : decode code 571 = .ok (.aload_n 0, 1) := by decide +kernel
theorem dl_572 : decode code 572 = .ok (.iload_n 3, 1) := by decide +kernel
theorem dl_573 : decode code 573 = .ok (.iconst 2, 1) := by decide +kernel
theorem dl_574 : decode code 574 = .ok (.iadd, 1) := by decide +kernel
theorem dl_575 : decode code 575 = .ok (.iaload, 1) := by decide +kernel
theorem dl_576 : decode code 576 = .ok (.aload_n 0, 1) := by decide +kernel
theorem dl_577 : decode code 577 = .ok (.iload_n 3, 1) := by decide +kernel
theorem dl_578 : decode code 578 = .ok (.iconst 3, 1) := by decide +kernel
theorem dl_579 : decode code 579 = .ok (.iadd, 1) := by decide +kernel
theorem dl_580 : decode code 580 = .ok (.iaload, 1) := by decide +kernel
theorem dl_581 : decode code 581 = .ok (.invokevirtual 51, 3) := by decide +kernel
theorem dl_584 : decode code 584 = .ok (.if_icmp .eq 918, 3) := by decide +kernel
theorem dl_587 : decode code 587 = .ok (.iconst 0, 1) := by decide +kernel
theorem dl_588 : decode code 588 = .ok (.ireturn, 1) := by decide +kernel
set_option maxRecDepth 100000 in
set_option maxHeartbeats 2000000 in
theorem lc_8 {p : Program} (l : Launch) {e : Env} {s : State} {m : MethodId} {below : List Frame} {meth : Method} {c : Code} {H : Heap} {locs : List Loc} {Q : State → Prop} {ls : Array Slot} {G : GG} {B b L i : Nat} {xs : Nat → Int32} {wx : WX} {wm : Mem} (C : CX p s m #[Value.ref b] meth c code 4 R_law TL ret) (hX : va_X b L xs s s.heap) (hbl : b < s.heap.size) (hL : L ≤ 2560) (hi : i + 5 ≤ L) (hR : Rel wx wm) (hG : Gd s G (fun q => s.heap.size ≤ q) 153 B (entX G B wx) (pool 28 (B + 153) (entM G (B + 153) wm)) H locs) (hl : lv_has ls 4 [(0, .ref b), (1, .ref (B + 0)), (2, .ref (B + 153 + 0)), (3, .int (nI i))]) (kk : ∀ (H : Heap) (locs : List Loc) (wx : WX) (wm : Mem), Rel wx wm → Gd s G (fun q => s.heap.size ≤ q) 153 B (entX G B wx) (pool 28 (B + 153) (entM G (B + 153) wm)) H locs → W p l e room_1 s m #[Value.ref b] below meth c H locs 181 4461 Q (F0 m 1502 ls [])) : W p l e room_1 s m #[Value.ref b] below meth c H locs 181 4461 Q (F0 m 546 ls []) := by
  obtain ⟨⟨v, wx'⟩, hv, ⟨u, wm'⟩, hu, heq, hR'⟩ := c_handles (xs (i + 1)) (xs (i + 2)) (xs (i + 3)) hR
  have hbA : ¬ (fun q : Nat => s.heap.size ≤ q) b := Nat.not_le.mpr hbl
  refine lv_aload_n C.1 C.2.1 dl_546 rfl (lv_at hl 1 rfl) ?_
  refine rl_arg C hX hbl hbA hG.2.2 (i := i) (j := 1) hL (by omega) hl (by decide) dl_547 dl_548 dl_549 dl_550 dl_551 ?_
  refine rl_arg C hX hbl hbA hG.2.2 (i := i) (j := 2) hL (by omega) hl (by decide) dl_552 dl_553 dl_554 dl_555 dl_556 ?_
  refine rl_arg C hX hbl hbA hG.2.2 (i := i) (j := 3) hL (by omega) hl (by decide) dl_557 dl_558 dl_559 dl_560 dl_561 ?_
  refine rl_callV C hG hl.1 (c0 := 0) (As := [.int (xs (i + 1)), .int (xs (i + 2)), .int (xs (i + 3))]) (by decide) (entX_O8 (n := 13) rfl) rfl (mt_X8_handles l hv) (cwV 3 C.2.2.2.2.1 (gd_V tg_2_175 tg_2_176 tg_2_177 tg_1_1 tg_2_178) rfl rfl rfl cd_X8_handles ⟨Nat.le_of_ble_eq_true rfl, Nat.le_of_ble_eq_true rfl⟩) (Nat.le_of_ble_eq_true rfl) (Nat.le_of_ble_eq_true rfl) rfl rfl (Nat.le_of_ble_eq_true rfl) dl_562 (fun H locs hG => ?_)
  have hG := hG.swap
  refine lv_aload_n C.1 C.2.1 dl_565 rfl (lv_at hl 2 rfl) ?_
  refine rl_arg C hX hbl hbA hG.2.2 (i := i) (j := 1) hL (by omega) hl (by decide) dl_566 dl_567 dl_568 dl_569 dl_570 ?_
  refine rl_arg C hX hbl hbA hG.2.2 (i := i) (j := 2) hL (by omega) hl (by decide) dl_571 dl_572 dl_573 dl_574 dl_575 ?_
  refine rl_arg C hX hbl hbA hG.2.2 (i := i) (j := 3) hL (by omega) hl (by decide) dl_576 dl_577 dl_578 dl_579 dl_580 ?_
  refine rl_callV C hG hl.1 (c0 := 0) (As := [.int (xs (i + 1)), .int (xs (i + 2)), .int (xs (i + 3))]) (by decide) (entM_O (n := 35) rfl) rfl (mt_X9_handles l hu) (cwV 3 C.2.2.2.2.1 (gd_V tg_5_47 tg_5_48 tg_5_49 tg_1_10 tg_5_50) rfl rfl rfl cd_X9_handles ⟨Nat.le_of_ble_eq_true rfl, Nat.le_of_ble_eq_true rfl⟩) (Nat.le_of_ble_eq_true rfl) (Nat.le_of_ble_eq_true rfl) rfl rfl (Nat.le_of_ble_eq_true rfl) dl_581 (fun H locs hG => ?_)
  have hG := hG.swap
  refine lv_icmp_eq (tgt := 1502) C.1 C.2.1 dl_584 (by decide) (fun _ => ?_) (fun q => absurd heq q)
  exact kk H locs _ _ hR' hG
