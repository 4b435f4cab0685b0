/-! the law: cases 27 to 35 -/
theorem dl_1254 : decode code 1254 = .ok (.aload_n 1, 1) := by decide +kernel
theorem dl_1255 : decode code 1255 = .ok (.aload_n 0, 1) := by decide +kernel
theorem dl_1256 : decode code 1256 = .ok (.iload_n 3, 1) := by decide +kernel
theorem dl_1257 : decode code 1257 = .ok (.iconst 1, 1) := by decide +kernel
theorem dl_1258 : decode code 1258 = .ok (.iadd, 1) := by decide +kernel
theorem dl_1259 : decode code 1259 = .ok (.iaload, 1) := by decide +kernel
theorem dl_1260 : decode code 1260 = .ok (.invokevirtual 126, 3) := by decide +kernel
theorem dl_1263 : decode code 1263 = .ok (.aload_n 2, 1) := by decide +kernel
theorem dl_1264 : decode code 1264 = .ok (.aload_n 0, 1) := by decide +kernel
theorem dl_1265 : decode code 1265 = .ok (.iload_n 3, 1) := by decide +kernel
theorem dl_1266 : decode code 1266 = .ok (.iconst 1, 1) := by decide +kernel
theorem dl_1267 : decode code 1267 = .ok (.iadd, 1) := by decide +kernel
theorem dl_1268 : decode code 1268 = .ok (.iaload, 1) := by decide +kernel
theorem dl_1269 : decode code 1269 = .ok (.invokevirtual 129, 3) := by decide +kernel
theorem dl_1272 : decode code 1272 = .ok (.if_icmp .eq 230, 3) := by decide +kernel
theorem dl_1275 : decode code 1275 = .ok (.iconst 0, 1) := by decide +kernel
theorem dl_1276 : decode code 1276 = .ok (.ireturn, 1) := by decide +kernel
set_option maxRecDepth 100000 in
set_option maxHeartbeats 2000000 in
theorem lc_27 {p : Program} (l : Launch) {e : Env} {s : State} {m : MethodId} {below : List Frame} {meth : Method} {c : Code} {H : Heap} {locs : List Loc} {Q : State → Prop} {ls : Array Slot} {G : GG} {B b L i : Nat} {xs : Nat → Int32} {wx : WX} {wm : Mem} (C : CX p s m #[Value.ref b] meth c code 4 R_law TL ret) (hX : va_X b L xs s s.heap) (hbl : b < s.heap.size) (hL : L ≤ 2560) (hi : i + 5 ≤ L) (hR : Rel wx wm) (hG : Gd s G (fun q => s.heap.size ≤ q) 153 B (entX G B wx) (pool 28 (B + 153) (entM G (B + 153) wm)) H locs) (hl : lv_has ls 4 [(0, .ref b), (1, .ref (B + 0)), (2, .ref (B + 153 + 0)), (3, .int (nI i))]) (kk : ∀ (H : Heap) (locs : List Loc) (wx : WX) (wm : Mem), Rel wx wm → Gd s G (fun q => s.heap.size ≤ q) 153 B (entX G B wx) (pool 28 (B + 153) (entM G (B + 153) wm)) H locs → W p l e room_1 s m #[Value.ref b] below meth c H locs 181 4461 Q (F0 m 1502 ls [])) : W p l e room_1 s m #[Value.ref b] below meth c H locs 181 4461 Q (F0 m 1254 ls []) := by
  obtain ⟨⟨v, wx'⟩, hv, ⟨u, wm'⟩, hu, heq, hR'⟩ := c_write (xs (i + 1)) hR
  have hbA : ¬ (fun q : Nat => s.heap.size ≤ q) b := Nat.not_le.mpr hbl
  refine lv_aload_n C.1 C.2.1 dl_1254 rfl (lv_at hl 1 rfl) ?_
  refine rl_arg C hX hbl hbA hG.2.2 (i := i) (j := 1) hL (by omega) hl (by decide) dl_1255 dl_1256 dl_1257 dl_1258 dl_1259 ?_
  refine rl_callV C hG hl.1 (c0 := 0) (As := [.int (xs (i + 1))]) (by decide) (entX_O8 (n := 13) rfl) rfl (mt_X8_write l hv) (cwV 1 C.2.2.2.2.1 (gd_V tg_4_8 tg_4_9 tg_4_10 tg_1_1 tg_4_11) rfl rfl rfl cd_X8_write ⟨Nat.le_of_ble_eq_true rfl, Nat.le_of_ble_eq_true rfl⟩) (Nat.le_of_ble_eq_true rfl) (Nat.le_of_ble_eq_true rfl) rfl rfl (Nat.le_of_ble_eq_true rfl) dl_1260 (fun H locs hG => ?_)
  have hG := hG.swap
  refine lv_aload_n C.1 C.2.1 dl_1263 rfl (lv_at hl 2 rfl) ?_
  refine rl_arg C hX hbl hbA hG.2.2 (i := i) (j := 1) hL (by omega) hl (by decide) dl_1264 dl_1265 dl_1266 dl_1267 dl_1268 ?_
  refine rl_callV C hG hl.1 (c0 := 0) (As := [.int (xs (i + 1))]) (by decide) (entM_O (n := 35) rfl) rfl (mt_X9_write l hu) (cwV 1 C.2.2.2.2.1 (gd_V tg_6_16 tg_6_17 tg_6_18 tg_1_10 tg_6_19) rfl rfl rfl cd_X9_write ⟨Nat.le_of_ble_eq_true rfl, Nat.le_of_ble_eq_true rfl⟩) (Nat.le_of_ble_eq_true rfl) (Nat.le_of_ble_eq_true rfl) rfl rfl (Nat.le_of_ble_eq_true rfl) dl_1269 (fun H locs hG => ?_)
  have hG := hG.swap
  refine lv_icmp_eq (tgt := 1502) C.1 C.2.1 dl_1272 (by decide) (fun _ => ?_) (fun q => absurd heq q)
  exact kk H locs _ _ hR' hG
theorem dl_1277 : decode code 1277 = .ok (.aload_n 1, 1) := by decide +kernel
theorem dl_1278 : decode code 1278 = .ok (.aload_n 0, 1) := by decide +kernel
theorem dl_1279 : decode code 1279 = .ok (.iload_n 3, 1) := by decide +kernel
theorem dl_1280 : decode code 1280 = .ok (.iconst 1, 1) := by decide +kernel
theorem dl_1281 : decode code 1281 = .ok (.iadd, 1) := by decide +kernel
theorem dl_1282 : decode code 1282 = .ok (.iaload, 1) := by decide +kernel
theorem dl_1283 : decode code 1283 = .ok (.invokevirtual 130, 3) := by decide +kernel
theorem dl_1286 : decode code 1286 = .ok (.aload_n 2, 1) := by decide +kernel
theorem dl_1287 : decode code 1287 = .ok (.aload_n 0, 1) := by decide +kernel
theorem dl_1288 : decode code 1288 = .ok (.iload_n 3, 1) := by decide +kernel
theorem dl_1289 : decode code 1289 = .ok (.iconst 1, 1) := by decide +kernel
theorem dl_1290 : decode code 1290 = .ok (.iadd, 1) := by decide +kernel
theorem dl_1291 : decode code 1291 = .ok (.iaload, 1) := by decide +kernel
theorem dl_1292 : decode code 1292 = .ok (.invokevirtual 133, 3) := by decide +kernel
theorem dl_1295 : decode code 1295 = .ok (.if_icmp .eq 207, 3) := by decide +kernel
theorem dl_1298 : decode code 1298 = .ok (.iconst 0, 1) := by decide +kernel
theorem dl_1299 : decode code 1299 = .ok (.ireturn, 1) := by decide +kernel
set_option maxRecDepth 100000 in
set_option maxHeartbeats 2000000 in
theorem lc_28 {p : Program} (l : Launch) {e : Env} {s : State} {m : MethodId} {below : List Frame} {meth : Method} {c : Code} {H : Heap} {locs : List Loc} {Q : State → Prop} {ls : Array Slot} {G : GG} {B b L i : Nat} {xs : Nat → Int32} {wx : WX} {wm : Mem} (C : CX p s m #[Value.ref b] meth c code 4 R_law TL ret) (hX : va_X b L xs s s.heap) (hbl : b < s.heap.size) (hL : L ≤ 2560) (hi : i + 5 ≤ L) (hR : Rel wx wm) (hG : Gd s G (fun q => s.heap.size ≤ q) 153 B (entX G B wx) (pool 28 (B + 153) (entM G (B + 153) wm)) H locs) (hl : lv_has ls 4 [(0, .ref b), (1, .ref (B + 0)), (2, .ref (B + 153 + 0)), (3, .int (nI i))]) (kk : ∀ (H : Heap) (locs : List Loc) (wx : WX) (wm : Mem), Rel wx wm → Gd s G (fun q => s.heap.size ≤ q) 153 B (entX G B wx) (pool 28 (B + 153) (entM G (B + 153) wm)) H locs → W p l e room_1 s m #[Value.ref b] below meth c H locs 181 4461 Q (F0 m 1502 ls [])) : W p l e room_1 s m #[Value.ref b] below meth c H locs 181 4461 Q (F0 m 1277 ls []) := by
  obtain ⟨v, hv, hu⟩ := c_paper (xs (i + 1)) hR
  have hbA : ¬ (fun q : Nat => s.heap.size ≤ q) b := Nat.not_le.mpr hbl
  refine lv_aload_n C.1 C.2.1 dl_1277 rfl (lv_at hl 1 rfl) ?_
  refine rl_arg C hX hbl hbA hG.2.2 (i := i) (j := 1) hL (by omega) hl (by decide) dl_1278 dl_1279 dl_1280 dl_1281 dl_1282 ?_
  refine rl_callV C hG hl.1 (c0 := 0) (As := [.int (xs (i + 1))]) (by decide) (entX_O8 (n := 13) rfl) rfl (mt_X8_paper l hv) (cwV 1 C.2.2.2.2.1 (gd_V tg_4_13 tg_4_14 tg_4_15 tg_1_1 tg_4_16) rfl rfl rfl cd_X8_paper ⟨Nat.le_of_ble_eq_true rfl, Nat.le_of_ble_eq_true rfl⟩) (Nat.le_of_ble_eq_true rfl) (Nat.le_of_ble_eq_true rfl) rfl rfl (Nat.le_of_ble_eq_true rfl) dl_1283 (fun H locs hG => ?_)
  have hG := hG.swap
  refine lv_aload_n C.1 C.2.1 dl_1286 rfl (lv_at hl 2 rfl) ?_
  refine rl_arg C hX hbl hbA hG.2.2 (i := i) (j := 1) hL (by omega) hl (by decide) dl_1287 dl_1288 dl_1289 dl_1290 dl_1291 ?_
  refine rl_callV C hG hl.1 (c0 := 0) (As := [.int (xs (i + 1))]) (by decide) (entM_O (n := 35) rfl) rfl (mt_X9_paper l hu) (cwV 1 C.2.2.2.2.1 (gd_V tg_6_20 tg_6_21 tg_6_22 tg_1_10 tg_6_23) rfl rfl rfl cd_X9_paper ⟨Nat.le_of_ble_eq_true rfl, Nat.le_of_ble_eq_true rfl⟩) (Nat.le_of_ble_eq_true rfl) (Nat.le_of_ble_eq_true rfl) rfl rfl (Nat.le_of_ble_eq_true rfl) dl_1292 (fun H locs hG => ?_)
  have hG := hG.swap
  refine lv_icmp_eq (tgt := 1502) C.1 C.2.1 dl_1295 (by decide) (fun _ => ?_) (fun q => absurd rfl q)
  exact kk H locs _ _ hR hG
theorem dl_1300 : decode code 1300 = .ok (.aload_n 1, 1) := by decide +kernel
theorem dl_1301 : decode code 1301 = .ok (.aload_n 0, 1) := by decide +kernel
theorem dl_1302 : decode code 1302 = .ok (.iload_n 3, 1) := by decide +kernel
theorem dl_1303 : decode code 1303 = .ok (.iconst 1, 1) := by decide +kernel
theorem dl_1304 : decode code 1304 = .ok (.iadd, 1) := by decide +kernel
theorem dl_1305 : decode code 1305 = .ok (.iaload, 1) := by decide +kernel
theorem dl_1306 : decode code 1306 = .ok (.aload_n 0, 1) := by decide +kernel
theorem dl_1307 : decode code 1307 = .ok (.iload_n 3, 1) := by decide +kernel
theorem dl_1308 : decode code 1308 = .ok (.iconst 2, 1) := by decide +kernel
theorem dl_1309 : decode code 1309 = .ok (.iadd, 1) := by decide +kernel
theorem dl_1310 : decode code 1310 = .ok (.iaload, 1) := by decide +kernel
theorem dl_1311 : decode code 1311 = .ok (.aload_n 0, 1) := by decide +kernel
theorem dl_1312 : decode code 1312 = .ok (.iload_n 3, 1) := by decide +kernel
theorem dl_1313 : decode code 1313 = .ok (.iconst 3, 1) := by decide +kernel
theorem dl_1314 : decode code 1314 = .ok (.iadd, 1) := by decide +kernel
theorem dl_1315 : decode code 1315 = .ok (.iaload, 1) := by decide +kernel
theorem dl_1316 : decode code 1316 = .ok (.invokevirtual 134, 3) := by decide +kernel
theorem dl_1319 : decode code 1319 = .ok (.aload_n 2, 1) := by decide +kernel
theorem dl_1320 : decode code 1320 = .ok (.aload_n 0, 1) := by decide +kernel
theorem dl_1321 : decode code 1321 = .ok (.iload_n 3, 1) := by decide +kernel
theorem dl_1322 : decode code 1322 = .ok (.iconst 1, 1) := by decide +kernel
theorem dl_1323 : decode code 1323 = .ok (.iadd, 1) := by decide +kernel
theorem dl_1324 : decode code 1324 = .ok (.iaload, 1) := by decide +kernel
theorem dl_1325 : decode code 1325 = .ok (.aload_n 0, 1) := by decide +kernel
theorem dl_1326 : decode code 1326 = .ok (.iload_n 3, 1) := by decide +kernel
theorem dl_1327 : decode code 1327 = .ok (.iconst 2, 1) := by decide +kernel
theorem dl_1328 : decode code 1328 = .ok (.iadd, 1) := by decide +kernel
theorem dl_1329 : decode code 1329 = .ok (.iaload, 1) := by decide +kernel
theorem dl_1330 : decode code 1330 = .ok (.aload_n 0, 1) := by decide +kernel
theorem dl_1331 : decode code 1331 = .ok (.iload_n 3, 1) := by decide +kernel
theorem dl_1332 : decode code 1332 = .ok (.iconst 3, 1) := by decide +kernel
theorem dl_1333 : decode code 1333 = .ok (.iadd, 1) := by decide +kernel
theorem dl_1334 : decode code 1334 = .ok (.iaload, 1) := by decide +kernel
theorem dl_1335 : decode code 1335 = .ok (.invokevirtual 137, 3) := by decide +kernel
theorem dl_1338 : decode code 1338 = .ok (.if_icmp .eq 164, 3) := by decide +kernel
theorem dl_1341 : decode code 1341 = .ok (.iconst 0, 1) := by decide +kernel
theorem dl_1342 : decode code 1342 = .ok (.ireturn, 1) := by decide +kernel
set_option maxRecDepth 100000 in
set_option maxHeartbeats 2000000 in
theorem lc_29 {p : Program} (l : Launch) {e : Env} {s : State} {m : MethodId} {below : List Frame} {meth : Method} {c : Code} {H : Heap} {locs : List Loc} {Q : State → Prop} {ls : Array Slot} {G : GG} {B b L i : Nat} {xs : Nat → Int32} {wx : WX} {wm : Mem} (C : CX p s m #[Value.ref b] meth c code 4 R_law TL ret) (hX : va_X b L xs s s.heap) (hbl : b < s.heap.size) (hL : L ≤ 2560) (hi : i + 5 ≤ L) (hR : Rel wx wm) (hG : Gd s G (fun q => s.heap.size ≤ q) 153 B (entX G B wx) (pool 28 (B + 153) (entM G (B + 153) wm)) H locs) (hl : lv_has ls 4 [(0, .ref b), (1, .ref (B + 0)), (2, .ref (B + 153 + 0)), (3, .int (nI i))]) (kk : ∀ (H : Heap) (locs : List Loc) (wx : WX) (wm : Mem), Rel wx wm → Gd s G (fun q => s.heap.size ≤ q) 153 B (entX G B wx) (pool 28 (B + 153) (entM G (B + 153) wm)) H locs → W p l e room_1 s m #[Value.ref b] below meth c H locs 181 4461 Q (F0 m 1502 ls [])) : W p l e room_1 s m #[Value.ref b] below meth c H locs 181 4461 Q (F0 m 1300 ls []) := by
  obtain ⟨⟨v, wx'⟩, hv, ⟨u, wm'⟩, hu, heq, hR'⟩ := c_judge (xs (i + 1)) (xs (i + 2)) (xs (i + 3)) hR
  have hbA : ¬ (fun q : Nat => s.heap.size ≤ q) b := Nat.not_le.mpr hbl
  refine lv_aload_n C.1 C.2.1 dl_1300 rfl (lv_at hl 1 rfl) ?_
  refine rl_arg C hX hbl hbA hG.2.2 (i := i) (j := 1) hL (by omega) hl (by decide) dl_1301 dl_1302 dl_1303 dl_1304 dl_1305 ?_
  refine rl_arg C hX hbl hbA hG.2.2 (i := i) (j := 2) hL (by omega) hl (by decide) dl_1306 dl_1307 dl_1308 dl_1309 dl_1310 ?_
  refine rl_arg C hX hbl hbA hG.2.2 (i := i) (j := 3) hL (by omega) hl (by decide) dl_1311 dl_1312 dl_1313 dl_1314 dl_1315 ?_
  refine rl_callV C hG hl.1 (c0 := 0) (As := [.int (xs (i + 1)), .int (xs (i + 2)), .int (xs (i + 3))]) (by decide) (entX_O8 (n := 13) rfl) rfl (mt_X8_judge l hv) (cwV 3 C.2.2.2.2.1 (gd_V tg_4_17 tg_4_18 tg_4_19 tg_1_1 tg_4_20) rfl rfl rfl cd_X8_judge ⟨Nat.le_of_ble_eq_true rfl, Nat.le_of_ble_eq_true rfl⟩) (Nat.le_of_ble_eq_true rfl) (Nat.le_of_ble_eq_true rfl) rfl rfl (Nat.le_of_ble_eq_true rfl) dl_1316 (fun H locs hG => ?_)
  have hG := hG.swap
  refine lv_aload_n C.1 C.2.1 dl_1319 rfl (lv_at hl 2 rfl) ?_
  refine rl_arg C hX hbl hbA hG.2.2 (i := i) (j := 1) hL (by omega) hl (by decide) dl_1320 dl_1321 dl_1322 dl_1323 dl_1324 ?_
  refine rl_arg C hX hbl hbA hG.2.2 (i := i) (j := 2) hL (by omega) hl (by decide) dl_1325 dl_1326 dl_1327 dl_1328 dl_1329 ?_
  refine rl_arg C hX hbl hbA hG.2.2 (i := i) (j := 3) hL (by omega) hl (by decide) dl_1330 dl_1331 dl_1332 dl_1333 dl_1334 ?_
  refine rl_callV C hG hl.1 (c0 := 0) (As := [.int (xs (i + 1)), .int (xs (i + 2)), .int (xs (i + 3))]) (by decide) (entM_O (n := 35) rfl) rfl (mt_X9_judge l hu) (cwV 3 C.2.2.2.2.1 (gd_V tg_6_24 tg_6_25 tg_6_26 tg_1_10 tg_6_27) rfl rfl rfl cd_X9_judge ⟨Nat.le_of_ble_eq_true rfl, Nat.le_of_ble_eq_true rfl⟩) (Nat.le_of_ble_eq_true rfl) (Nat.le_of_ble_eq_true rfl) rfl rfl (Nat.le_of_ble_eq_true rfl) dl_1335 (fun H locs hG => ?_)
  have hG := hG.swap
  refine lv_icmp_eq (tgt := 1502) C.1 C.2.1 dl_1338 (by decide) (fun _ => ?_) (fun q => absurd heq q)
  exact kk H locs _ _ hR' hG
theorem dl_1343 : decode code 1343 = .ok (.aload_n 1, 1) := by decide +kernel
theorem dl_1344 : decode code 1344 = .ok (.aload_n 0, 1) := by decide +kernel
theorem dl_1345 : decode code 1345 = .ok (.iload_n 3, 1) := by decide +kernel
theorem dl_1346 : decode code 1346 = .ok (.iconst 1, 1) := by decide +kernel
theorem dl_1347 : decode code 1347 = .ok (.iadd, 1) := by decide +kernel
theorem dl_1348 : decode code 1348 = .ok (.iaload, 1) := by decide +kernel
theorem dl_1349 : decode code 1349 = .ok (.aload_n 0, 1) := by decide +kernel
theorem dl_1350 : decode code 1350 = .ok (.iload_n 3, 1) := by decide +kernel
theorem dl_1351 : decode code 1351 = .ok (.iconst 2, 1) := by decide +kernel
theorem dl_1352 : decode code 1352 = .ok (.iadd, 1) := by decide +kernel
theorem dl_1353 : decode code 1353 = .ok (.iaload, 1) := by decide +kernel
theorem dl_1354 : decode code 1354 = .ok (.invokevirtual 138, 3) := by decide +kernel
theorem dl_1357 : decode code 1357 = .ok (.aload_n 2, 1) := by decide +kernel
theorem dl_1358 : decode code 1358 = .ok (.aload_n 0, 1) := by decide +kernel
theorem dl_1359 : decode code 1359 = .ok (.iload_n 3, 1) := by decide +kernel
theorem dl_1360 : decode code 1360 = .ok (.iconst 1, 1) := by decide +kernel
theorem dl_1361 : decode code 1361 = .ok (.iadd, 1) := by decide +kernel
theorem dl_1362 : decode code 1362 = .ok (.iaload, 1) := by decide +kernel
theorem dl_1363 : decode code 1363 = .ok (.aload_n 0, 1) := by decide +kernel
theorem dl_1364 : decode code 1364 = .ok (.iload_n 3, 1) := by decide +kernel
theorem dl_1365 : decode code 1365 = .ok (.iconst 2, 1) := by decide +kernel
theorem dl_1366 : decode code 1366 = .ok (.iadd, 1) := by decide +kernel
theorem dl_1367 : decode code 1367 = .ok (.iaload, 1) := by decide +kernel
theorem dl_1368 : decode code 1368 = .ok (.invokevirtual 141, 3) := by decide +kernel
theorem dl_1371 : decode code 1371 = .ok (.if_icmp .eq 131, 3) := by decide +kernel
theorem dl_1374 : decode code 1374 = .ok (.iconst 0, 1) := by decide +kernel
theorem dl_1375 : decode code 1375 = .ok (.ireturn, 1) := by decide +kernel
set_option maxRecDepth 100000 in
set_option maxHeartbeats 2000000 in
theorem lc_30 {p : Program} (l : Launch) {e : Env} {s : State} {m : MethodId} {below : List Frame} {meth : Method} {c : Code} {H : Heap} {locs : List Loc} {Q : State → Prop} {ls : Array Slot} {G : GG} {B b L i : Nat} {xs : Nat → Int32} {wx : WX} {wm : Mem} (C : CX p s m #[Value.ref b] meth c code 4 R_law TL ret) (hX : va_X b L xs s s.heap) (hbl : b < s.heap.size) (hL : L ≤ 2560) (hi : i + 5 ≤ L) (hR : Rel wx wm) (hG : Gd s G (fun q => s.heap.size ≤ q) 153 B (entX G B wx) (pool 28 (B + 153) (entM G (B + 153) wm)) H locs) (hl : lv_has ls 4 [(0, .ref b), (1, .ref (B + 0)), (2, .ref (B + 153 + 0)), (3, .int (nI i))]) (kk : ∀ (H : Heap) (locs : List Loc) (wx : WX) (wm : Mem), Rel wx wm → Gd s G (fun q => s.heap.size ≤ q) 153 B (entX G B wx) (pool 28 (B + 153) (entM G (B + 153) wm)) H locs → W p l e room_1 s m #[Value.ref b] below meth c H locs 181 4461 Q (F0 m 1502 ls [])) : W p l e room_1 s m #[Value.ref b] below meth c H locs 181 4461 Q (F0 m 1343 ls []) := by
  obtain ⟨⟨v, wx'⟩, hv, ⟨u, wm'⟩, hu, heq, hR'⟩ := c_list (xs (i + 1)) (xs (i + 2)) hR
  have hbA : ¬ (fun q : Nat => s.heap.size ≤ q) b := Nat.not_le.mpr hbl
  refine lv_aload_n C.1 C.2.1 dl_1343 rfl (lv_at hl 1 rfl) ?_
  refine rl_arg C hX hbl hbA hG.2.2 (i := i) (j := 1) hL (by omega) hl (by decide) dl_1344 dl_1345 dl_1346 dl_1347 dl_1348 ?_
  refine rl_arg C hX hbl hbA hG.2.2 (i := i) (j := 2) hL (by omega) hl (by decide) dl_1349 dl_1350 dl_1351 dl_1352 dl_1353 ?_
  refine rl_callV C hG hl.1 (c0 := 0) (As := [.int (xs (i + 1)), .int (xs (i + 2))]) (by decide) (entX_O8 (n := 13) rfl) rfl (mt_X8_list l hv) (cwV 2 C.2.2.2.2.1 (gd_V tg_4_30 tg_4_31 tg_4_32 tg_1_1 tg_4_33) rfl rfl rfl cd_X8_list ⟨Nat.le_of_ble_eq_true rfl, Nat.le_of_ble_eq_true rfl⟩) (Nat.le_of_ble_eq_true rfl) (Nat.le_of_ble_eq_true rfl) rfl rfl (Nat.le_of_ble_eq_true rfl) dl_1354 (fun H locs hG => ?_)
  have hG := hG.swap
  refine lv_aload_n C.1 C.2.1 dl_1357 rfl (lv_at hl 2 rfl) ?_
  refine rl_arg C hX hbl hbA hG.2.2 (i := i) (j := 1) hL (by omega) hl (by decide) dl_1358 dl_1359 dl_1360 dl_1361 dl_1362 ?_
  refine rl_arg C hX hbl hbA hG.2.2 (i := i) (j := 2) hL (by omega) hl (by decide) dl_1363 dl_1364 dl_1365 dl_1366 dl_1367 ?_
  refine rl_callV C hG hl.1 (c0 := 0) (As := [.int (xs (i + 1)), .int (xs (i + 2))]) (by decide) (entM_O (n := 35) rfl) rfl (mt_X9_list l hu) (cwV 2 C.2.2.2.2.1 (gd_V tg_6_31 tg_6_32 tg_6_33 tg_1_10 tg_6_34) rfl rfl rfl cd_X9_list ⟨Nat.le_of_ble_eq_true rfl, Nat.le_of_ble_eq_true rfl⟩) (Nat.le_of_ble_eq_true rfl) (Nat.le_of_ble_eq_true rfl) rfl rfl (Nat.le_of_ble_eq_true rfl) dl_1368 (fun H locs hG => ?_)
  have hG := hG.swap
  refine lv_icmp_eq (tgt := 1502) C.1 C.2.1 dl_1371 (by decide) (fun _ => ?_) (fun q => absurd heq q)
  exact kk H locs _ _ hR' hG
theorem dl_1376 : decode code 1376 = .ok (.aload_n 1, 1) := by decide +kernel
theorem dl_1377 : decode code 1377 = .ok (.aload_n 0, 1) := by decide +kernel
theorem dl_1378 : decode code 1378 = .ok (.iload_n 3, 1) := by decide +kernel
theorem dl_1379 : decode code 1379 = .ok (.iconst 1, 1) := by decide +kernel
theorem dl_1380 : decode code 1380 = .ok (.iadd, 1) := by decide +kernel
theorem dl_1381 : decode code 1381 = .ok (.iaload, 1) := by decide +kernel
theorem dl_1382 : decode code 1382 = .ok (.aload_n 0, 1) := by decide +kernel
theorem dl_1383 : decode code 1383 = .ok (.iload_n 3, 1) := by decide +kernel
theorem dl_1384 : decode code 1384 = .ok (.iconst 2, 1) := by decide +kernel
theorem dl_1385 : decode code 1385 = .ok (.iadd, 1) := by decide +kernel
theorem dl_1386 : decode code 1386 = .ok (.iaload, 1) := by decide +kernel
theorem dl_1387 : decode code 1387 = .ok (.aload_n 0, 1) := by decide +kernel
theorem dl_1388 : decode code 1388 = .ok (.iload_n 3, 1) := by decide +kernel
theorem dl_1389 : decode code 1389 = .ok (.iconst 3, 1) := by decide +kernel
theorem dl_1390 : decode code 1390 = .ok (.iadd, 1) := by decide +kernel
theorem dl_1391 : decode code 1391 = .ok (.iaload, 1) := by decide +kernel
theorem dl_1392 : decode code 1392 = .ok (.invokevirtual 142, 3) := by decide +kernel
theorem dl_1395 : decode code 1395 = .ok (.aload_n 2, 1) := by decide +kernel
theorem dl_1396 : decode code 1396 = .ok (.aload_n 0, 1) := by decide +kernel
theorem dl_1397 : decode code 1397 = .ok (.iload_n 3, 1) := by decide +kernel
theorem dl_1398 : decode code 1398 = .ok (.iconst 1, 1) := by decide +kernel
theorem dl_1399 : decode code 1399 = .ok (.iadd, 1) := by decide +kernel
theorem dl_1400 : decode code 1400 = .ok (.iaload, 1) := by decide +kernel
theorem dl_1401 : decode code 1401 = .ok (.aload_n 0, 1) := by decide +kernel
theorem dl_1402 : decode code 1402 = .ok (.iload_n 3, 1) := by decide +kernel
theorem dl_1403 : decode code 1403 = .ok (.iconst 2, 1) := by decide +kernel
theorem dl_1404 : decode code 1404 = .ok (.iadd, 1) := by decide +kernel
theorem dl_1405 : decode code 1405 = .ok (.iaload, 1) := by decide +kernel
theorem dl_1406 : decode code 1406 = .ok (.aload_n 0, 1) := by decide +kernel
theorem dl_1407 : decode code 1407 = .ok (.iload_n 3, 1) := by decide +kernel
theorem dl_1408 : decode code 1408 = .ok (.iconst 3, 1) := by decide +kernel
theorem dl_1409 : decode code 1409 = .ok (.iadd, 1) := by decide +kernel
theorem dl_1410 : decode code 1410 = .ok (.iaload, 1) := by decide +kernel
theorem dl_1411 : decode code 1411 = .ok (.invokevirtual 145, 3) := by decide +kernel
theorem dl_1414 : decode code 1414 = .ok (.if_icmp .eq 88, 3) := by decide +kernel
theorem dl_1417 : decode code 1417 = .ok (.iconst 0, 1) := by decide +kernel
theorem dl_1418 : decode code 1418 = .ok (.ireturn, 1) := by decide +kernel
set_option maxRecDepth 100000 in
set_option maxHeartbeats 2000000 in
theorem lc_31 {p : Program} (l : Launch) {e : Env} {s : State} {m : MethodId} {below : List Frame} {meth : Method} {c : Code} {H : Heap} {locs : List Loc} {Q : State → Prop} {ls : Array Slot} {G : GG} {B b L i : Nat} {xs : Nat → Int32} {wx : WX} {wm : Mem} (C : CX p s m #[Value.ref b] meth c code 4 R_law TL ret) (hX : va_X b L xs s s.heap) (hbl : b < s.heap.size) (hL : L ≤ 2560) (hi : i + 5 ≤ L) (hR : Rel wx wm) (hG : Gd s G (fun q => s.heap.size ≤ q) 153 B (entX G B wx) (pool 28 (B + 153) (entM G (B + 153) wm)) H locs) (hl : lv_has ls 4 [(0, .ref b), (1, .ref (B + 0)), (2, .ref (B + 153 + 0)), (3, .int (nI i))]) (kk : ∀ (H : Heap) (locs : List Loc) (wx : WX) (wm : Mem), Rel wx wm → Gd s G (fun q => s.heap.size ≤ q) 153 B (entX G B wx) (pool 28 (B + 153) (entM G (B + 153) wm)) H locs → W p l e room_1 s m #[Value.ref b] below meth c H locs 181 4461 Q (F0 m 1502 ls [])) : W p l e room_1 s m #[Value.ref b] below meth c H locs 181 4461 Q (F0 m 1376 ls []) := by
  obtain ⟨⟨v, wx'⟩, hv, ⟨u, wm'⟩, hu, heq, hR'⟩ := c_put (xs (i + 1)) (xs (i + 2)) (xs (i + 3)) hR
  have hbA : ¬ (fun q : Nat => s.heap.size ≤ q) b := Nat.not_le.mpr hbl
  refine lv_aload_n C.1 C.2.1 dl_1376 rfl (lv_at hl 1 rfl) ?_
  refine rl_arg C hX hbl hbA hG.2.2 (i := i) (j := 1) hL (by omega) hl (by decide) dl_1377 dl_1378 dl_1379 dl_1380 dl_1381 ?_
  refine rl_arg C hX hbl hbA hG.2.2 (i := i) (j := 2) hL (by omega) hl (by decide) dl_1382 dl_1383 dl_1384 dl_1385 dl_1386 ?_
  refine rl_arg C hX hbl hbA hG.2.2 (i := i) (j := 3) hL (by omega) hl (by decide) dl_1387 dl_1388 dl_1389 dl_1390 dl_1391 ?_
  refine rl_callV C hG hl.1 (c0 := 0) (As := [.int (xs (i + 1)), .int (xs (i + 2)), .int (xs (i + 3))]) (by decide) (entX_O8 (n := 13) rfl) rfl (mt_X8_put l hv) (cwV 3 C.2.2.2.2.1 (gd_V tg_4_38 tg_4_39 tg_4_40 tg_1_1 tg_4_41) rfl rfl rfl cd_X8_put ⟨Nat.le_of_ble_eq_true rfl, Nat.le_of_ble_eq_true rfl⟩) (Nat.le_of_ble_eq_true rfl) (Nat.le_of_ble_eq_true rfl) rfl rfl (Nat.le_of_ble_eq_true rfl) dl_1392 (fun H locs hG => ?_)
  have hG := hG.swap
  refine lv_aload_n C.1 C.2.1 dl_1395 rfl (lv_at hl 2 rfl) ?_
  refine rl_arg C hX hbl hbA hG.2.2 (i := i) (j := 1) hL (by omega) hl (by decide) dl_1396 dl_1397 dl_1398 dl_1399 dl_1400 ?_
  refine rl_arg C hX hbl hbA hG.2.2 (i := i) (j := 2) hL (by omega) hl (by decide) dl_1401 dl_1402 dl_1403 dl_1404 dl_1405 ?_
  refine rl_arg C hX hbl hbA hG.2.2 (i := i) (j := 3) hL (by omega) hl (by decide) dl_1406 dl_1407 dl_1408 dl_1409 dl_1410 ?_
  refine rl_callV C hG hl.1 (c0 := 0) (As := [.int (xs (i + 1)), .int (xs (i + 2)), .int (xs (i + 3))]) (by decide) (entM_O (n := 35) rfl) rfl (mt_X9_put l hu) (cwV 3 C.2.2.2.2.1 (gd_V tg_6_35 tg_6_36 tg_6_37 tg_1_10 tg_6_38) rfl rfl rfl cd_X9_put ⟨Nat.le_of_ble_eq_true rfl, Nat.le_of_ble_eq_true rfl⟩) (Nat.le_of_ble_eq_true rfl) (Nat.le_of_ble_eq_true rfl) rfl rfl (Nat.le_of_ble_eq_true rfl) dl_1411 (fun H locs hG => ?_)
  have hG := hG.swap
  refine lv_icmp_eq (tgt := 1502) C.1 C.2.1 dl_1414 (by decide) (fun _ => ?_) (fun q => absurd heq q)
  exact kk H locs _ _ hR' hG
theorem dl_1419 : decode code 1419 = .ok (.aload_n 1, 1) := by decide +kernel
theorem dl_1420 : decode code 1420 = .ok (.aload_n 0, 1) := by decide +kernel
theorem dl_1421 : decode code 1421 = .ok (.iload_n 3, 1) := by decide +kernel
theorem dl_1422 : decode code 1422 = .ok (.iconst 1, 1) := by decide +kernel
theorem dl_1423 : decode code 1423 = .ok (.iadd, 1) := by decide +kernel
theorem dl_1424 : decode code 1424 = .ok (.iaload, 1) := by decide +kernel
theorem dl_1425 : decode code 1425 = .ok (.aload_n 0, 1) := by decide +kernel
theorem dl_1426 : decode code 1426 = .ok (.iload_n 3, 1) := by decide +kernel
theorem dl_1427 : decode code 1427 = .ok (.iconst 2, 1) := by decide +kernel
theorem dl_1428 : decode code 1428 = .ok (.iadd, 1) := by decide +kernel
theorem dl_1429 : decode code 1429 = .ok (.iaload, 1) := by decide +kernel
theorem dl_1430 : decode code 1430 = .ok (.invokevirtual 146, 3) := by decide +kernel
theorem dl_1433 : decode code 1433 = .ok (.aload_n 2, 1) := by decide +kernel
theorem dl_1434 : decode code 1434 = .ok (.aload_n 0, 1) := by decide +kernel
theorem dl_1435 : decode code 1435 = .ok (.iload_n 3, 1) := by decide +kernel
theorem dl_1436 : decode code 1436 = .ok (.iconst 1, 1) := by decide +kernel
theorem dl_1437 : decode code 1437 = .ok (.iadd, 1) := by decide +kernel
theorem dl_1438 : decode code 1438 = .ok (.iaload, 1) := by decide +kernel
theorem dl_1439 : decode code 1439 = .ok (.aload_n 0, 1) := by decide +kernel
theorem dl_1440 : decode code 1440 = .ok (.iload_n 3, 1) := by decide +kernel
theorem dl_1441 : decode code 1441 = .ok (.iconst 2, 1) := by decide +kernel
theorem dl_1442 : decode code 1442 = .ok (.iadd, 1) := by decide +kernel
theorem dl_1443 : decode code 1443 = .ok (.iaload, 1) := by decide +kernel
theorem dl_1444 : decode code 1444 = .ok (.invokevirtual 150, 3) := by decide +kernel
theorem dl_1447 : decode code 1447 = .ok (.lcmp, 1) := by decide +kernel
theorem dl_1448 : decode code 1448 = .ok (.ifCond .eq 54, 3) := by decide +kernel
theorem dl_1451 : decode code 1451 = .ok (.iconst 0, 1) := by decide +kernel
theorem dl_1452 : decode code 1452 = .ok (.ireturn, 1) := by decide +kernel
set_option maxRecDepth 100000 in
set_option maxHeartbeats 2000000 in
theorem lc_32 {p : Program} (l : Launch) {e : Env} {s : State} {m : MethodId} {below : List Frame} {meth : Method} {c : Code} {H : Heap} {locs : List Loc} {Q : State → Prop} {ls : Array Slot} {G : GG} {B b L i : Nat} {xs : Nat → Int32} {wx : WX} {wm : Mem} (C : CX p s m #[Value.ref b] meth c code 4 R_law TL ret) (hX : va_X b L xs s s.heap) (hbl : b < s.heap.size) (hL : L ≤ 2560) (hi : i + 5 ≤ L) (hR : Rel wx wm) (hG : Gd s G (fun q => s.heap.size ≤ q) 153 B (entX G B wx) (pool 28 (B + 153) (entM G (B + 153) wm)) H locs) (hl : lv_has ls 4 [(0, .ref b), (1, .ref (B + 0)), (2, .ref (B + 153 + 0)), (3, .int (nI i))]) (kk : ∀ (H : Heap) (locs : List Loc) (wx : WX) (wm : Mem), Rel wx wm → Gd s G (fun q => s.heap.size ≤ q) 153 B (entX G B wx) (pool 28 (B + 153) (entM G (B + 153) wm)) H locs → W p l e room_1 s m #[Value.ref b] below meth c H locs 181 4461 Q (F0 m 1502 ls [])) : W p l e room_1 s m #[Value.ref b] below meth c H locs 181 4461 Q (F0 m 1419 ls []) := by
  obtain ⟨v, hv, hu⟩ := c_get (xs (i + 1)) (xs (i + 2)) hR
  have hbA : ¬ (fun q : Nat => s.heap.size ≤ q) b := Nat.not_le.mpr hbl
  refine lv_aload_n C.1 C.2.1 dl_1419 rfl (lv_at hl 1 rfl) ?_
  refine rl_arg C hX hbl hbA hG.2.2 (i := i) (j := 1) hL (by omega) hl (by decide) dl_1420 dl_1421 dl_1422 dl_1423 dl_1424 ?_
  refine rl_arg C hX hbl hbA hG.2.2 (i := i) (j := 2) hL (by omega) hl (by decide) dl_1425 dl_1426 dl_1427 dl_1428 dl_1429 ?_
  refine rl_callV C hG hl.1 (c0 := 0) (As := [.int (xs (i + 1)), .int (xs (i + 2))]) (by decide) (entX_O8 (n := 13) rfl) rfl (mt_X8_get l hv) (cwV 2 C.2.2.2.2.1 (gd_V tg_4_47 tg_4_48 tg_4_49 tg_1_1 tg_4_50) rfl rfl rfl cd_X8_get ⟨Nat.le_of_ble_eq_true rfl, Nat.le_of_ble_eq_true rfl⟩) (Nat.le_of_ble_eq_true rfl) (Nat.le_of_ble_eq_true rfl) rfl rfl (Nat.le_of_ble_eq_true rfl) dl_1430 (fun H locs hG => ?_)
  have hG := hG.swap
  refine lv_aload_n C.1 C.2.1 dl_1433 rfl (lv_at hl 2 rfl) ?_
  refine rl_arg C hX hbl hbA hG.2.2 (i := i) (j := 1) hL (by omega) hl (by decide) dl_1434 dl_1435 dl_1436 dl_1437 dl_1438 ?_
  refine rl_arg C hX hbl hbA hG.2.2 (i := i) (j := 2) hL (by omega) hl (by decide) dl_1439 dl_1440 dl_1441 dl_1442 dl_1443 ?_
  refine rl_callV C hG hl.1 (c0 := 0) (As := [.int (xs (i + 1)), .int (xs (i + 2))]) (by decide) (entM_O (n := 35) rfl) rfl (mt_X9_get l hu) (cwV 2 C.2.2.2.2.1 (gd_V tg_6_43 tg_6_44 tg_6_45 tg_1_10 tg_6_46) rfl rfl rfl cd_X9_get ⟨Nat.le_of_ble_eq_true rfl, Nat.le_of_ble_eq_true rfl⟩) (Nat.le_of_ble_eq_true rfl) (Nat.le_of_ble_eq_true rfl) rfl rfl (Nat.le_of_ble_eq_true rfl) dl_1444 (fun H locs hG => ?_)
  have hG := hG.swap
  refine W.lcmp C.1 C.2.1 dl_1447 ?_
  refine lv_if_eq (tgt := 1502) C.1 C.2.1 dl_1448 (by decide) (fun _ => ?_) (fun q => absurd lg_same q)
  exact kk H locs _ _ hR hG
theorem dl_1453 : decode code 1453 = .ok (.aload_n 1, 1) := by decide +kernel
theorem dl_1454 : decode code 1454 = .ok (.invokevirtual 151, 3) := by decide +kernel
theorem dl_1457 : decode code 1457 = .ok (.aload_n 2, 1) := by decide +kernel
theorem dl_1458 : decode code 1458 = .ok (.invokevirtual 155, 3) := by decide +kernel
theorem dl_1461 : decode code 1461 = .ok (.if_icmp .eq 41, 3) := by decide +kernel
theorem dl_1464 : decode code 1464 = .ok (.iconst 0, 1) := by decide +kernel
theorem dl_1465 : decode code 1465 = .ok (.ireturn, 1) := by decide +kernel
set_option maxRecDepth 100000 in
set_option maxHeartbeats 2000000 in
theorem lc_33 {p : Program} (l : Launch) {e : Env} {s : State} {m : MethodId} {below : List Frame} {meth : Method} {c : Code} {H : Heap} {locs : List Loc} {Q : State → Prop} {ls : Array Slot} {G : GG} {B b L i : Nat} {xs : Nat → Int32} {wx : WX} {wm : Mem} (C : CX p s m #[Value.ref b] meth c code 4 R_law TL ret) (hX : va_X b L xs s s.heap) (hbl : b < s.heap.size) (hL : L ≤ 2560) (hi : i + 5 ≤ L) (hR : Rel wx wm) (hG : Gd s G (fun q => s.heap.size ≤ q) 153 B (entX G B wx) (pool 28 (B + 153) (entM G (B + 153) wm)) H locs) (hl : lv_has ls 4 [(0, .ref b), (1, .ref (B + 0)), (2, .ref (B + 153 + 0)), (3, .int (nI i))]) (kk : ∀ (H : Heap) (locs : List Loc) (wx : WX) (wm : Mem), Rel wx wm → Gd s G (fun q => s.heap.size ≤ q) 153 B (entX G B wx) (pool 28 (B + 153) (entM G (B + 153) wm)) H locs → W p l e room_1 s m #[Value.ref b] below meth c H locs 181 4461 Q (F0 m 1502 ls [])) : W p l e room_1 s m #[Value.ref b] below meth c H locs 181 4461 Q (F0 m 1453 ls []) := by
  obtain ⟨⟨v, wx'⟩, hv, ⟨u, wm'⟩, hu, heq, hR'⟩ := c_image hR
  have hbA : ¬ (fun q : Nat => s.heap.size ≤ q) b := Nat.not_le.mpr hbl
  refine lv_aload_n C.1 C.2.1 dl_1453 rfl (lv_at hl 1 rfl) ?_
  refine rl_callV C hG hl.1 (c0 := 0) (As := []) (by decide) (entX_O8 (n := 13) rfl) rfl (mt_X8_image l hv) (cwV 0 C.2.2.2.2.1 (gd_V tg_4_51 tg_4_52 tg_4_53 tg_1_1 tg_4_54) rfl rfl rfl cd_X8_image ⟨Nat.le_of_ble_eq_true rfl, Nat.le_of_ble_eq_true rfl⟩) (Nat.le_of_ble_eq_true rfl) (Nat.le_of_ble_eq_true rfl) rfl rfl (Nat.le_of_ble_eq_true rfl) dl_1454 (fun H locs hG => ?_)
  have hG := hG.swap
  refine lv_aload_n C.1 C.2.1 dl_1457 rfl (lv_at hl 2 rfl) ?_
  refine rl_callV C hG hl.1 (c0 := 0) (As := []) (by decide) (entM_O (n := 35) rfl) rfl (mt_X9_image l hu) (cwV 0 C.2.2.2.2.1 (gd_V tg_6_47 tg_6_48 tg_6_49 tg_1_10 tg_6_50) rfl rfl rfl cd_X9_image ⟨Nat.le_of_ble_eq_true rfl, Nat.le_of_ble_eq_true rfl⟩) (Nat.le_of_ble_eq_true rfl) (Nat.le_of_ble_eq_true rfl) rfl rfl (Nat.le_of_ble_eq_true rfl) dl_1458 (fun H locs hG => ?_)
  have hG := hG.swap
  refine lv_icmp_eq (tgt := 1502) C.1 C.2.1 dl_1461 (by decide) (fun _ => ?_) (fun q => absurd heq q)
  exact kk H locs _ _ hR' hG
theorem dl_1466 : decode code 1466 = .ok (.aload_n 1, 1) := by decide +kernel
theorem dl_1467 : decode code 1467 = .ok (.invokevirtual 156, 3) := by decide +kernel
theorem dl_1470 : decode code 1470 = .ok (.aload_n 2, 1) := by decide +kernel
theorem dl_1471 : decode code 1471 = .ok (.invokevirtual 159, 3) := by decide +kernel
theorem dl_1474 : decode code 1474 = .ok (.if_icmp .eq 28, 3) := by decide +kernel
theorem dl_1477 : decode code 1477 = .ok (.iconst 0, 1) := by decide +kernel
theorem dl_1478 : decode code 1478 = .ok (.ireturn, 1) := by decide +kernel
set_option maxRecDepth 100000 in
set_option maxHeartbeats 2000000 in
theorem lc_34 {p : Program} (l : Launch) {e : Env} {s : State} {m : MethodId} {below : List Frame} {meth : Method} {c : Code} {H : Heap} {locs : List Loc} {Q : State → Prop} {ls : Array Slot} {G : GG} {B b L i : Nat} {xs : Nat → Int32} {wx : WX} {wm : Mem} (C : CX p s m #[Value.ref b] meth c code 4 R_law TL ret) (hX : va_X b L xs s s.heap) (hbl : b < s.heap.size) (hL : L ≤ 2560) (hi : i + 5 ≤ L) (hR : Rel wx wm) (hG : Gd s G (fun q => s.heap.size ≤ q) 153 B (entX G B wx) (pool 28 (B + 153) (entM G (B + 153) wm)) H locs) (hl : lv_has ls 4 [(0, .ref b), (1, .ref (B + 0)), (2, .ref (B + 153 + 0)), (3, .int (nI i))]) (kk : ∀ (H : Heap) (locs : List Loc) (wx : WX) (wm : Mem), Rel wx wm → Gd s G (fun q => s.heap.size ≤ q) 153 B (entX G B wx) (pool 28 (B + 153) (entM G (B + 153) wm)) H locs → W p l e room_1 s m #[Value.ref b] below meth c H locs 181 4461 Q (F0 m 1502 ls [])) : W p l e room_1 s m #[Value.ref b] below meth c H locs 181 4461 Q (F0 m 1466 ls []) := by
  obtain ⟨⟨v, wx'⟩, hv, ⟨u, wm'⟩, hu, heq, hR'⟩ := c_undo hR
  have hbA : ¬ (fun q : Nat => s.heap.size ≤ q) b := Nat.not_le.mpr hbl
  refine lv_aload_n C.1 C.2.1 dl_1466 rfl (lv_at hl 1 rfl) ?_
  refine rl_callV C hG hl.1 (c0 := 0) (As := []) (by decide) (entX_O8 (n := 13) rfl) rfl (mt_X8_undo l hv) (cwV 0 C.2.2.2.2.1 (gd_V tg_4_66 tg_4_67 tg_4_68 tg_1_1 tg_4_69) rfl rfl rfl cd_X8_undo ⟨Nat.le_of_ble_eq_true rfl, Nat.le_of_ble_eq_true rfl⟩) (Nat.le_of_ble_eq_true rfl) (Nat.le_of_ble_eq_true rfl) rfl rfl (Nat.le_of_ble_eq_true rfl) dl_1467 (fun H locs hG => ?_)
  have hG := hG.swap
  refine lv_aload_n C.1 C.2.1 dl_1470 rfl (lv_at hl 2 rfl) ?_
  refine rl_callV C hG hl.1 (c0 := 0) (As := []) (by decide) (entM_O (n := 35) rfl) rfl (mt_X9_undo l hu) (cwV 0 C.2.2.2.2.1 (gd_V tg_6_51 tg_6_52 tg_6_53 tg_1_10 tg_6_54) rfl rfl rfl cd_X9_undo ⟨Nat.le_of_ble_eq_true rfl, Nat.le_of_ble_eq_true rfl⟩) (Nat.le_of_ble_eq_true rfl) (Nat.le_of_ble_eq_true rfl) rfl rfl (Nat.le_of_ble_eq_true rfl) dl_1471 (fun H locs hG => ?_)
  have hG := hG.swap
  refine lv_icmp_eq (tgt := 1502) C.1 C.2.1 dl_1474 (by decide) (fun _ => ?_) (fun q => absurd heq q)
  exact kk H locs _ _ hR' hG
theorem dl_1479 : decode code 1479 = .ok (.aload_n 1, 1) := by decide +kernel
theorem dl_1480 : decode code 1480 = .ok (.aload_n 0, 1) := by decide +kernel
theorem dl_1481 : decode code 1481 = .ok (.iload_n 3, 1) := by decide +kernel
theorem dl_1482 : decode code 1482 = .ok (.iconst 1, 1) := by decide +kernel
theorem dl_1483 : decode code 1483 = .ok (.iadd, 1) := by decide +kernel
theorem dl_1484 : decode code 1484 = .ok (.iaload, 1) := by decide +kernel
theorem dl_1485 : decode code 1485 = .ok (.invokevirtual 160, 3) := by decide +kernel
theorem dl_1488 : decode code 1488 = .ok (.aload_n 2, 1) := by decide +kernel
theorem dl_1489 : decode code 1489 = .ok (.aload_n 0, 1) := by decide +kernel
theorem dl_1490 : decode code 1490 = .ok (.iload_n 3, 1) := by decide +kernel
theorem dl_1491 : decode code 1491 = .ok (.iconst 1, 1) := by decide +kernel
theorem dl_1492 : decode code 1492 = .ok (.iadd, 1) := by decide +kernel
theorem dl_1493 : decode code 1493 = .ok (.iaload, 1) := by decide +kernel
theorem dl_1494 : decode code 1494 = .ok (.invokevirtual 163, 3) := by decide +kernel
theorem dl_1497 : decode code 1497 = .ok (.if_icmp .eq 5, 3) := by decide +kernel
theorem dl_1500 : decode code 1500 = .ok (.iconst 0, 1) := by decide +kernel
theorem dl_1501 : decode code 1501 = .ok (.ireturn, 1) := by decide +kernel
set_option maxRecDepth 100000 in
set_option maxHeartbeats 2000000 in
theorem lc_35 {p : Program} (l : Launch) {e : Env} {s : State} {m : MethodId} {below : List Frame} {meth : Method} {c : Code} {H : Heap} {locs : List Loc} {Q : State → Prop} {ls : Array Slot} {G : GG} {B b L i : Nat} {xs : Nat → Int32} {wx : WX} {wm : Mem} (C : CX p s m #[Value.ref b] meth c code 4 R_law TL ret) (hX : va_X b L xs s s.heap) (hbl : b < s.heap.size) (hL : L ≤ 2560) (hi : i + 5 ≤ L) (hR : Rel wx wm) (hG : Gd s G (fun q => s.heap.size ≤ q) 153 B (entX G B wx) (pool 28 (B + 153) (entM G (B + 153) wm)) H locs) (hl : lv_has ls 4 [(0, .ref b), (1, .ref (B + 0)), (2, .ref (B + 153 + 0)), (3, .int (nI i))]) (kk : ∀ (H : Heap) (locs : List Loc) (wx : WX) (wm : Mem), Rel wx wm → Gd s G (fun q => s.heap.size ≤ q) 153 B (entX G B wx) (pool 28 (B + 153) (entM G (B + 153) wm)) H locs → W p l e room_1 s m #[Value.ref b] below meth c H locs 181 4461 Q (F0 m 1502 ls [])) : W p l e room_1 s m #[Value.ref b] below meth c H locs 181 4461 Q (F0 m 1479 ls []) := by
  obtain ⟨v, hv, hu⟩ := c_count (xs (i + 1)) hR
  have hbA : ¬ (fun q : Nat => s.heap.size ≤ q) b := Nat.not_le.mpr hbl
  refine lv_aload_n C.1 C.2.1 dl_1479 rfl (lv_at hl 1 rfl) ?_
  refine rl_arg C hX hbl hbA hG.2.2 (i := i) (j := 1) hL (by omega) hl (by decide) dl_1480 dl_1481 dl_1482 dl_1483 dl_1484 ?_
  refine rl_callV C hG hl.1 (c0 := 0) (As := [.int (xs (i + 1))]) (by decide) (entX_O8 (n := 13) rfl) rfl (mt_X8_count l hv) (cwV 1 C.2.2.2.2.1 (gd_V tg_4_70 tg_4_71 tg_4_72 tg_1_1 tg_4_73) rfl rfl rfl cd_X8_count ⟨Nat.le_of_ble_eq_true rfl, Nat.le_of_ble_eq_true rfl⟩) (Nat.le_of_ble_eq_true rfl) (Nat.le_of_ble_eq_true rfl) rfl rfl (Nat.le_of_ble_eq_true rfl) dl_1485 (fun H locs hG => ?_)
  have hG := hG.swap
  refine lv_aload_n C.1 C.2.1 dl_1488 rfl (lv_at hl 2 rfl) ?_
  refine rl_arg C hX hbl hbA hG.2.2 (i := i) (j := 1) hL (by omega) hl (by decide) dl_1489 dl_1490 dl_1491 dl_1492 dl_1493 ?_
  refine rl_callV C hG hl.1 (c0 := 0) (As := [.int (xs (i + 1))]) (by decide) (entM_O (n := 35) rfl) rfl (mt_X9_count l hu) (cwV 1 C.2.2.2.2.1 (gd_V tg_6_55 tg_6_56 tg_6_57 tg_1_10 tg_6_58) rfl rfl rfl cd_X9_count ⟨Nat.le_of_ble_eq_true rfl, Nat.le_of_ble_eq_true rfl⟩) (Nat.le_of_ble_eq_true rfl) (Nat.le_of_ble_eq_true rfl) rfl rfl (Nat.le_of_ble_eq_true rfl) dl_1494 (fun H locs hG => ?_)
  have hG := hG.swap
  refine lv_icmp_eq (tgt := 1502) C.1 C.2.1 dl_1497 (by decide) (fun _ => ?_) (fun q => absurd rfl q)
  exact kk H locs _ _ hR hG
