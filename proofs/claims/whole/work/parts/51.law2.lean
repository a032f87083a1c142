/-! THE LAW, 2: its cases -/
section LV2
variable {p : Program} {l : Launch} {e : Env} {s : State} {mi : MethodId} {below : List Frame} {meth : Method} {co : Code} {dC : Nat → ClassId} {dI : Nat → Nat → Nat} {cI cJ cZ : ClassId} {b L : Nat} {xs : Nat → Int32} {A : Nat → Prop} {xa ya : Nat → Nat} {ls : Array Slot}
set_option maxHeartbeats 4000000 in
set_option maxRecDepth 100000 in
/-- insert -/
theorem lc_140 (C : LwC p s mi co dC dI cI cJ cZ b L xs A) {i0 : Nat} {ii : Int32} (hii : ii.toInt = (i0 : Int)) (hi0 : i0 + 3 ≤ L) (ss : MS) (u : CT) (um : MTt) (H : Heap) (locs : List Loc) (hR : RC u ss) (hM : RM um ss) (hI : Inv ss) (h : LwS s dC dI cI cJ cZ A xa ya u um H locs) (hl : lv_has ls 4 [(0, .ref b), (1, .ref (xa 0)), (2, .ref (ya 0)), (3, .int ii)]) (kk : ∀ (ss : MS) (u : CT) (um : MTt) (H : Heap) (locs : List Loc), RC u ss → RM um ss → Inv ss → LwS s dC dI cI cJ cZ A xa ya u um H locs → W p l e room_1 s mi #[Value.ref b] below meth co H locs 39 2706 (lw_Z below #[Value.ref b] s) (F0 mi 728 ls [])) : W p l e room_1 s mi #[Value.ref b] below meth co H locs 39 2706 (lw_Z below #[Value.ref b] s) (F0 mi 140 ls []) := by
  have hx := C.1
  have hb := C.2.1
  have hts := C.2.2.2.2.1
  refine lv_aload_n hx hb dL_law_140 rfl (lv_at hl 1 rfl) ?_
  refine l_arg C h hl hii hi0 (k := 1) (by decide) (by decide) dL_law_141 dL_law_142 dL_law_143 dL_law_144 dL_law_145 ?_
  refine l_arg C h hl hii hi0 (k := 2) (by decide) (by decide) dL_law_146 dL_law_147 dL_law_148 dL_law_149 dL_law_150 ?_
  refine l_Xl C h (As := [.int (xs (i0 + 1)), .int (xs (i0 + 2))]) (rest := []) (kX3_insert l dC dI cI cJ cZ xa H.size u ss hR hI (xs (i0 + 1)) (xs (i0 + 2))) (cwV 2 hts gL_law_X3_insert rfl rfl rfl (by decide +kernel) ⟨Nat.le_of_ble_eq_true rfl, Nat.le_of_ble_eq_true rfl⟩) rfl hl.1 _ rfl (Nat.le_of_ble_eq_true rfl) dL_law_151 (fun r1 u1 H locs hp1 h => ?_)
  refine lv_aload_n hx hb dL_law_154 rfl (lv_at hl 2 rfl) ?_
  refine l_arg C h hl hii hi0 (k := 1) (by decide) (by decide) dL_law_155 dL_law_156 dL_law_157 dL_law_158 dL_law_159 ?_
  refine l_arg C h hl hii hi0 (k := 2) (by decide) (by decide) dL_law_160 dL_law_161 dL_law_162 dL_law_163 dL_law_164 ?_
  refine l_Yl C h (As := [.int (xs (i0 + 1)), .int (xs (i0 + 2))]) (rest := [.long r1]) (kX4_insert l dC dI cI cJ cZ ya H.size um ss hM hI (xs (i0 + 1)) (xs (i0 + 2))) (cwV 2 hts gL_law_X4_insert rfl rfl rfl (by decide +kernel) ⟨Nat.le_of_ble_eq_true rfl, Nat.le_of_ble_eq_true rfl⟩) rfl hl.1 _ rfl (Nat.le_of_ble_eq_true rfl) dL_law_165 (fun r2 u2 H locs hp2 h => ?_)
  refine x_lcmp_eq (tgt := 728) hx hb dL_law_168 dL_law_169 (by decide) (fun _ => ?_) (fun c => absurd (hp1.2.trans hp2.2.symm) c)
  exact kk _ _ _ _ _ hp1.1 hp2.1 (inv_ins hI _ _) h
set_option maxHeartbeats 4000000 in
set_option maxRecDepth 100000 in
/-- remove -/
theorem lc_174 (C : LwC p s mi co dC dI cI cJ cZ b L xs A) {i0 : Nat} {ii : Int32} (hii : ii.toInt = (i0 : Int)) (hi0 : i0 + 3 ≤ L) (ss : MS) (u : CT) (um : MTt) (H : Heap) (locs : List Loc) (hR : RC u ss) (hM : RM um ss) (hI : Inv ss) (h : LwS s dC dI cI cJ cZ A xa ya u um H locs) (hl : lv_has ls 4 [(0, .ref b), (1, .ref (xa 0)), (2, .ref (ya 0)), (3, .int ii)]) (kk : ∀ (ss : MS) (u : CT) (um : MTt) (H : Heap) (locs : List Loc), RC u ss → RM um ss → Inv ss → LwS s dC dI cI cJ cZ A xa ya u um H locs → W p l e room_1 s mi #[Value.ref b] below meth co H locs 39 2706 (lw_Z below #[Value.ref b] s) (F0 mi 728 ls [])) : W p l e room_1 s mi #[Value.ref b] below meth co H locs 39 2706 (lw_Z below #[Value.ref b] s) (F0 mi 174 ls []) := by
  have hx := C.1
  have hb := C.2.1
  have hts := C.2.2.2.2.1
  refine lv_aload_n hx hb dL_law_174 rfl (lv_at hl 1 rfl) ?_
  refine l_arg C h hl hii hi0 (k := 1) (by decide) (by decide) dL_law_175 dL_law_176 dL_law_177 dL_law_178 dL_law_179 ?_
  refine l_Xl C h (As := [.int (xs (i0 + 1))]) (rest := []) (kX3_remove l dC dI cI cJ cZ xa H.size u ss hR hI (xs (i0 + 1))) (cwV 1 hts gL_law_X3_remove rfl rfl rfl (by decide +kernel) ⟨Nat.le_of_ble_eq_true rfl, Nat.le_of_ble_eq_true rfl⟩) rfl hl.1 _ rfl (Nat.le_of_ble_eq_true rfl) dL_law_180 (fun r1 u1 H locs hp1 h => ?_)
  refine lv_aload_n hx hb dL_law_183 rfl (lv_at hl 2 rfl) ?_
  refine l_arg C h hl hii hi0 (k := 1) (by decide) (by decide) dL_law_184 dL_law_185 dL_law_186 dL_law_187 dL_law_188 ?_
  refine l_Yl C h (As := [.int (xs (i0 + 1))]) (rest := [.long r1]) (kX4_remove l dC dI cI cJ cZ ya H.size um ss hM hI (xs (i0 + 1))) (cwV 1 hts gL_law_X4_remove rfl rfl rfl (by decide +kernel) ⟨Nat.le_of_ble_eq_true rfl, Nat.le_of_ble_eq_true rfl⟩) rfl hl.1 _ rfl (Nat.le_of_ble_eq_true rfl) dL_law_189 (fun r2 u2 H locs hp2 h => ?_)
  refine x_lcmp_eq (tgt := 728) hx hb dL_law_192 dL_law_193 (by decide) (fun _ => ?_) (fun c => absurd (hp1.2.trans hp2.2.symm) c)
  exact kk _ _ _ _ _ hp1.1 hp2.1 (inv_rem hI _) h
set_option maxHeartbeats 4000000 in
set_option maxRecDepth 100000 in
/-- setVelocity -/
theorem lc_198 (C : LwC p s mi co dC dI cI cJ cZ b L xs A) {i0 : Nat} {ii : Int32} (hii : ii.toInt = (i0 : Int)) (hi0 : i0 + 3 ≤ L) (ss : MS) (u : CT) (um : MTt) (H : Heap) (locs : List Loc) (hR : RC u ss) (hM : RM um ss) (hI : Inv ss) (h : LwS s dC dI cI cJ cZ A xa ya u um H locs) (hl : lv_has ls 4 [(0, .ref b), (1, .ref (xa 0)), (2, .ref (ya 0)), (3, .int ii)]) (kk : ∀ (ss : MS) (u : CT) (um : MTt) (H : Heap) (locs : List Loc), RC u ss → RM um ss → Inv ss → LwS s dC dI cI cJ cZ A xa ya u um H locs → W p l e room_1 s mi #[Value.ref b] below meth co H locs 39 2706 (lw_Z below #[Value.ref b] s) (F0 mi 728 ls [])) : W p l e room_1 s mi #[Value.ref b] below meth co H locs 39 2706 (lw_Z below #[Value.ref b] s) (F0 mi 198 ls []) := by
  have hx := C.1
  have hb := C.2.1
  have hts := C.2.2.2.2.1
  refine lv_aload_n hx hb dL_law_198 rfl (lv_at hl 1 rfl) ?_
  refine l_arg C h hl hii hi0 (k := 1) (by decide) (by decide) dL_law_199 dL_law_200 dL_law_201 dL_law_202 dL_law_203 ?_
  refine l_arg C h hl hii hi0 (k := 2) (by decide) (by decide) dL_law_204 dL_law_205 dL_law_206 dL_law_207 dL_law_208 ?_
  refine l_Xl C h (As := [.int (xs (i0 + 1)), .int (xs (i0 + 2))]) (rest := []) (kX3_setVelocity l dC dI cI cJ cZ xa H.size u ss hR hI (xs (i0 + 1)) (xs (i0 + 2))) (cwV 2 hts gL_law_X3_setVelocity rfl rfl rfl (by decide +kernel) ⟨Nat.le_of_ble_eq_true rfl, Nat.le_of_ble_eq_true rfl⟩) rfl hl.1 _ rfl (Nat.le_of_ble_eq_true rfl) dL_law_209 (fun r1 u1 H locs hp1 h => ?_)
  refine lv_aload_n hx hb dL_law_212 rfl (lv_at hl 2 rfl) ?_
  refine l_arg C h hl hii hi0 (k := 1) (by decide) (by decide) dL_law_213 dL_law_214 dL_law_215 dL_law_216 dL_law_217 ?_
  refine l_arg C h hl hii hi0 (k := 2) (by decide) (by decide) dL_law_218 dL_law_219 dL_law_220 dL_law_221 dL_law_222 ?_
  refine l_Yl C h (As := [.int (xs (i0 + 1)), .int (xs (i0 + 2))]) (rest := [.long r1]) (kX4_setVelocity l dC dI cI cJ cZ ya H.size um ss hM hI (xs (i0 + 1)) (xs (i0 + 2))) (cwV 2 hts gL_law_X4_setVelocity rfl rfl rfl (by decide +kernel) ⟨Nat.le_of_ble_eq_true rfl, Nat.le_of_ble_eq_true rfl⟩) rfl hl.1 _ rfl (Nat.le_of_ble_eq_true rfl) dL_law_223 (fun r2 u2 H locs hp2 h => ?_)
  refine x_lcmp_eq (tgt := 728) hx hb dL_law_226 dL_law_227 (by decide) (fun _ => ?_) (fun c => absurd (hp1.2.trans hp2.2.symm) c)
  exact kk _ _ _ _ _ hp1.1 hp2.1 (inv_vel hI _ _) h
set_option maxHeartbeats 4000000 in
set_option maxRecDepth 100000 in
/-- jump -/
theorem lc_232 (C : LwC p s mi co dC dI cI cJ cZ b L xs A) {i0 : Nat} {ii : Int32} (hii : ii.toInt = (i0 : Int)) (hi0 : i0 + 3 ≤ L) (ss : MS) (u : CT) (um : MTt) (H : Heap) (locs : List Loc) (hR : RC u ss) (hM : RM um ss) (hI : Inv ss) (h : LwS s dC dI cI cJ cZ A xa ya u um H locs) (hl : lv_has ls 4 [(0, .ref b), (1, .ref (xa 0)), (2, .ref (ya 0)), (3, .int ii)]) (kk : ∀ (ss : MS) (u : CT) (um : MTt) (H : Heap) (locs : List Loc), RC u ss → RM um ss → Inv ss → LwS s dC dI cI cJ cZ A xa ya u um H locs → W p l e room_1 s mi #[Value.ref b] below meth co H locs 39 2706 (lw_Z below #[Value.ref b] s) (F0 mi 728 ls [])) : W p l e room_1 s mi #[Value.ref b] below meth co H locs 39 2706 (lw_Z below #[Value.ref b] s) (F0 mi 232 ls []) := by
  have hx := C.1
  have hb := C.2.1
  have hts := C.2.2.2.2.1
  refine lv_aload_n hx hb dL_law_232 rfl (lv_at hl 1 rfl) ?_
  refine l_arg C h hl hii hi0 (k := 1) (by decide) (by decide) dL_law_233 dL_law_234 dL_law_235 dL_law_236 dL_law_237 ?_
  refine l_arg C h hl hii hi0 (k := 2) (by decide) (by decide) dL_law_238 dL_law_239 dL_law_240 dL_law_241 dL_law_242 ?_
  refine l_Xl C h (As := [.int (xs (i0 + 1)), .int (xs (i0 + 2))]) (rest := []) (kX3_jump l dC dI cI cJ cZ xa H.size u ss hR hI (xs (i0 + 1)) (xs (i0 + 2))) (cwV 2 hts gL_law_X3_jump rfl rfl rfl (by decide +kernel) ⟨Nat.le_of_ble_eq_true rfl, Nat.le_of_ble_eq_true rfl⟩) rfl hl.1 _ rfl (Nat.le_of_ble_eq_true rfl) dL_law_243 (fun r1 u1 H locs hp1 h => ?_)
  refine lv_aload_n hx hb dL_law_246 rfl (lv_at hl 2 rfl) ?_
  refine l_arg C h hl hii hi0 (k := 1) (by decide) (by decide) dL_law_247 dL_law_248 dL_law_249 dL_law_250 dL_law_251 ?_
  refine l_arg C h hl hii hi0 (k := 2) (by decide) (by decide) dL_law_252 dL_law_253 dL_law_254 dL_law_255 dL_law_256 ?_
  refine l_Yl C h (As := [.int (xs (i0 + 1)), .int (xs (i0 + 2))]) (rest := [.long r1]) (kX4_jump l dC dI cI cJ cZ ya H.size um ss hM hI (xs (i0 + 1)) (xs (i0 + 2))) (cwV 2 hts gL_law_X4_jump rfl rfl rfl (by decide +kernel) ⟨Nat.le_of_ble_eq_true rfl, Nat.le_of_ble_eq_true rfl⟩) rfl hl.1 _ rfl (Nat.le_of_ble_eq_true rfl) dL_law_257 (fun r2 u2 H locs hp2 h => ?_)
  refine x_lcmp_eq (tgt := 728) hx hb dL_law_260 dL_law_261 (by decide) (fun _ => ?_) (fun c => absurd (hp1.2.trans hp2.2.symm) c)
  exact kk _ _ _ _ _ hp1.1 hp2.1 (inv_jmp hI _ _) h
set_option maxHeartbeats 4000000 in
set_option maxRecDepth 100000 in
/-- size -/
theorem lc_266 (C : LwC p s mi co dC dI cI cJ cZ b L xs A) {i0 : Nat} {ii : Int32} (hii : ii.toInt = (i0 : Int)) (hi0 : i0 + 3 ≤ L) (ss : MS) (u : CT) (um : MTt) (H : Heap) (locs : List Loc) (hR : RC u ss) (hM : RM um ss) (hI : Inv ss) (h : LwS s dC dI cI cJ cZ A xa ya u um H locs) (hl : lv_has ls 4 [(0, .ref b), (1, .ref (xa 0)), (2, .ref (ya 0)), (3, .int ii)]) (kk : ∀ (ss : MS) (u : CT) (um : MTt) (H : Heap) (locs : List Loc), RC u ss → RM um ss → Inv ss → LwS s dC dI cI cJ cZ A xa ya u um H locs → W p l e room_1 s mi #[Value.ref b] below meth co H locs 39 2706 (lw_Z below #[Value.ref b] s) (F0 mi 728 ls [])) : W p l e room_1 s mi #[Value.ref b] below meth co H locs 39 2706 (lw_Z below #[Value.ref b] s) (F0 mi 266 ls []) := by
  have hx := C.1
  have hb := C.2.1
  have hts := C.2.2.2.2.1
  refine lv_aload_n hx hb dL_law_266 rfl (lv_at hl 1 rfl) ?_
  refine l_Xi C h (As := []) (rest := []) (kX3_size l dC dI cI cJ cZ xa H.size u ss hR hI) (cwV 0 hts gL_law_X3_size rfl rfl rfl (by decide +kernel) ⟨Nat.le_of_ble_eq_true rfl, Nat.le_of_ble_eq_true rfl⟩) rfl hl.1 _ rfl (Nat.le_of_ble_eq_true rfl) dL_law_267 (fun r1 u1 H locs hp1 h => ?_)
  refine lv_aload_n hx hb dL_law_270 rfl (lv_at hl 2 rfl) ?_
  refine l_Yi C h (As := []) (rest := [.int r1]) (kX4_size l dC dI cI cJ cZ ya H.size um ss hM hI) (cwV 0 hts gL_law_X4_size rfl rfl rfl (by decide +kernel) ⟨Nat.le_of_ble_eq_true rfl, Nat.le_of_ble_eq_true rfl⟩) rfl hl.1 _ rfl (Nat.le_of_ble_eq_true rfl) dL_law_271 (fun r2 u2 H locs hp2 h => ?_)
  refine x_icmp_eq (tgt := 728) hx hb dL_law_274 (by decide) (fun _ => ?_) (fun c => absurd (hp1.2.trans hp2.2.symm) c)
  exact kk _ _ _ _ _ hp1.1 hp2.1 hI h
set_option maxHeartbeats 4000000 in
set_option maxRecDepth 100000 in
/-- point -/
theorem lc_279 (C : LwC p s mi co dC dI cI cJ cZ b L xs A) {i0 : Nat} {ii : Int32} (hii : ii.toInt = (i0 : Int)) (hi0 : i0 + 3 ≤ L) (ss : MS) (u : CT) (um : MTt) (H : Heap) (locs : List Loc) (hR : RC u ss) (hM : RM um ss) (hI : Inv ss) (h : LwS s dC dI cI cJ cZ A xa ya u um H locs) (hl : lv_has ls 4 [(0, .ref b), (1, .ref (xa 0)), (2, .ref (ya 0)), (3, .int ii)]) (kk : ∀ (ss : MS) (u : CT) (um : MTt) (H : Heap) (locs : List Loc), RC u ss → RM um ss → Inv ss → LwS s dC dI cI cJ cZ A xa ya u um H locs → W p l e room_1 s mi #[Value.ref b] below meth co H locs 39 2706 (lw_Z below #[Value.ref b] s) (F0 mi 728 ls [])) : W p l e room_1 s mi #[Value.ref b] below meth co H locs 39 2706 (lw_Z below #[Value.ref b] s) (F0 mi 279 ls []) := by
  have hx := C.1
  have hb := C.2.1
  have hts := C.2.2.2.2.1
  refine lv_aload_n hx hb dL_law_279 rfl (lv_at hl 1 rfl) ?_
  refine l_arg C h hl hii hi0 (k := 1) (by decide) (by decide) dL_law_280 dL_law_281 dL_law_282 dL_law_283 dL_law_284 ?_
  refine l_arg C h hl hii hi0 (k := 2) (by decide) (by decide) dL_law_285 dL_law_286 dL_law_287 dL_law_288 dL_law_289 ?_
  refine l_Xl C h (As := [.int (xs (i0 + 1)), .int (xs (i0 + 2))]) (rest := []) (kX3_point l dC dI cI cJ cZ xa H.size u ss hR hI (xs (i0 + 1)) (xs (i0 + 2))) (cwV 2 hts gL_law_X3_point rfl rfl rfl (by decide +kernel) ⟨Nat.le_of_ble_eq_true rfl, Nat.le_of_ble_eq_true rfl⟩) rfl hl.1 _ rfl (Nat.le_of_ble_eq_true rfl) dL_law_290 (fun r1 u1 H locs hp1 h => ?_)
  refine lv_aload_n hx hb dL_law_293 rfl (lv_at hl 2 rfl) ?_
  refine l_arg C h hl hii hi0 (k := 1) (by decide) (by decide) dL_law_294 dL_law_295 dL_law_296 dL_law_297 dL_law_298 ?_
  refine l_arg C h hl hii hi0 (k := 2) (by decide) (by decide) dL_law_299 dL_law_300 dL_law_301 dL_law_302 dL_law_303 ?_
  refine l_Yl C h (As := [.int (xs (i0 + 1)), .int (xs (i0 + 2))]) (rest := [.long r1]) (kX4_point l dC dI cI cJ cZ ya H.size um ss hM hI (xs (i0 + 1)) (xs (i0 + 2))) (cwV 2 hts gL_law_X4_point rfl rfl rfl (by decide +kernel) ⟨Nat.le_of_ble_eq_true rfl, Nat.le_of_ble_eq_true rfl⟩) rfl hl.1 _ rfl (Nat.le_of_ble_eq_true rfl) dL_law_304 (fun r2 u2 H locs hp2 h => ?_)
  refine x_lcmp_eq (tgt := 728) hx hb dL_law_307 dL_law_308 (by decide) (fun _ => ?_) (fun c => absurd (hp1.2.trans hp2.2.symm) c)
  exact kk _ _ _ _ _ hp1.1 hp2.1 hI h
set_option maxHeartbeats 4000000 in
set_option maxRecDepth 100000 in
/-- at -/
theorem lc_313 (C : LwC p s mi co dC dI cI cJ cZ b L xs A) {i0 : Nat} {ii : Int32} (hii : ii.toInt = (i0 : Int)) (hi0 : i0 + 3 ≤ L) (ss : MS) (u : CT) (um : MTt) (H : Heap) (locs : List Loc) (hR : RC u ss) (hM : RM um ss) (hI : Inv ss) (h : LwS s dC dI cI cJ cZ A xa ya u um H locs) (hl : lv_has ls 4 [(0, .ref b), (1, .ref (xa 0)), (2, .ref (ya 0)), (3, .int ii)]) (kk : ∀ (ss : MS) (u : CT) (um : MTt) (H : Heap) (locs : List Loc), RC u ss → RM um ss → Inv ss → LwS s dC dI cI cJ cZ A xa ya u um H locs → W p l e room_1 s mi #[Value.ref b] below meth co H locs 39 2706 (lw_Z below #[Value.ref b] s) (F0 mi 728 ls [])) : W p l e room_1 s mi #[Value.ref b] below meth co H locs 39 2706 (lw_Z below #[Value.ref b] s) (F0 mi 313 ls []) := by
  have hx := C.1
  have hb := C.2.1
  have hts := C.2.2.2.2.1
  refine lv_aload_n hx hb dL_law_313 rfl (lv_at hl 1 rfl) ?_
  refine l_arg C h hl hii hi0 (k := 1) (by decide) (by decide) dL_law_314 dL_law_315 dL_law_316 dL_law_317 dL_law_318 ?_
  refine l_Xl C h (As := [.int (xs (i0 + 1))]) (rest := []) (kX3_at l dC dI cI cJ cZ xa H.size u ss hR hI (xs (i0 + 1))) (cwV 1 hts gL_law_X3_at rfl rfl rfl (by decide +kernel) ⟨Nat.le_of_ble_eq_true rfl, Nat.le_of_ble_eq_true rfl⟩) rfl hl.1 _ rfl (Nat.le_of_ble_eq_true rfl) dL_law_319 (fun r1 u1 H locs hp1 h => ?_)
  refine lv_aload_n hx hb dL_law_322 rfl (lv_at hl 2 rfl) ?_
  refine l_arg C h hl hii hi0 (k := 1) (by decide) (by decide) dL_law_323 dL_law_324 dL_law_325 dL_law_326 dL_law_327 ?_
  refine l_Yl C h (As := [.int (xs (i0 + 1))]) (rest := [.long r1]) (kX4_at l dC dI cI cJ cZ ya H.size um ss hM hI (xs (i0 + 1))) (cwV 1 hts gL_law_X4_at rfl rfl rfl (by decide +kernel) ⟨Nat.le_of_ble_eq_true rfl, Nat.le_of_ble_eq_true rfl⟩) rfl hl.1 _ rfl (Nat.le_of_ble_eq_true rfl) dL_law_328 (fun r2 u2 H locs hp2 h => ?_)
  refine x_lcmp_eq (tgt := 728) hx hb dL_law_331 dL_law_332 (by decide) (fun _ => ?_) (fun c => absurd (hp1.2.trans hp2.2.symm) c)
  exact kk _ _ _ _ _ hp1.1 hp2.1 hI h
set_option maxHeartbeats 4000000 in
set_option maxRecDepth 100000 in
/-- pass -/
theorem lc_337 (C : LwC p s mi co dC dI cI cJ cZ b L xs A) {i0 : Nat} {ii : Int32} (hii : ii.toInt = (i0 : Int)) (hi0 : i0 + 3 ≤ L) (ss : MS) (u : CT) (um : MTt) (H : Heap) (locs : List Loc) (hR : RC u ss) (hM : RM um ss) (hI : Inv ss) (h : LwS s dC dI cI cJ cZ A xa ya u um H locs) (hl : lv_has ls 4 [(0, .ref b), (1, .ref (xa 0)), (2, .ref (ya 0)), (3, .int ii)]) (kk : ∀ (ss : MS) (u : CT) (um : MTt) (H : Heap) (locs : List Loc), RC u ss → RM um ss → Inv ss → LwS s dC dI cI cJ cZ A xa ya u um H locs → W p l e room_1 s mi #[Value.ref b] below meth co H locs 39 2706 (lw_Z below #[Value.ref b] s) (F0 mi 728 ls [])) : W p l e room_1 s mi #[Value.ref b] below meth co H locs 39 2706 (lw_Z below #[Value.ref b] s) (F0 mi 337 ls []) := by
  have hx := C.1
  have hb := C.2.1
  have hts := C.2.2.2.2.1
  refine lv_aload_n hx hb dL_law_337 rfl (lv_at hl 1 rfl) ?_
  refine l_arg C h hl hii hi0 (k := 1) (by decide) (by decide) dL_law_338 dL_law_339 dL_law_340 dL_law_341 dL_law_342 ?_
  refine l_Xl C h (As := [.int (xs (i0 + 1))]) (rest := []) (kX3_pass l dC dI cI cJ cZ xa H.size u ss hR hI (xs (i0 + 1))) (cwV 1 hts gL_law_X3_pass rfl rfl rfl (by decide +kernel) ⟨Nat.le_of_ble_eq_true rfl, Nat.le_of_ble_eq_true rfl⟩) rfl hl.1 _ rfl (Nat.le_of_ble_eq_true rfl) dL_law_343 (fun r1 u1 H locs hp1 h => ?_)
  refine lv_aload_n hx hb dL_law_346 rfl (lv_at hl 2 rfl) ?_
  refine l_arg C h hl hii hi0 (k := 1) (by decide) (by decide) dL_law_347 dL_law_348 dL_law_349 dL_law_350 dL_law_351 ?_
  refine l_Yl C h (As := [.int (xs (i0 + 1))]) (rest := [.long r1]) (kX4_pass l dC dI cI cJ cZ ya H.size um ss hM hI (xs (i0 + 1))) (cwV 1 hts gL_law_X4_pass rfl rfl rfl (by decide +kernel) ⟨Nat.le_of_ble_eq_true rfl, Nat.le_of_ble_eq_true rfl⟩) rfl hl.1 _ rfl (Nat.le_of_ble_eq_true rfl) dL_law_352 (fun r2 u2 H locs hp2 h => ?_)
  refine x_lcmp_eq (tgt := 728) hx hb dL_law_355 dL_law_356 (by decide) (fun _ => ?_) (fun c => absurd (hp1.2.trans hp2.2.symm) c)
  exact kk _ _ _ _ _ hp1.1 hp2.1 (inv_pas hI _) h
set_option maxHeartbeats 4000000 in
set_option maxRecDepth 100000 in
/-- step -/
theorem lc_361 (C : LwC p s mi co dC dI cI cJ cZ b L xs A) {i0 : Nat} {ii : Int32} (hii : ii.toInt = (i0 : Int)) (hi0 : i0 + 3 ≤ L) (ss : MS) (u : CT) (um : MTt) (H : Heap) (locs : List Loc) (hR : RC u ss) (hM : RM um ss) (hI : Inv ss) (h : LwS s dC dI cI cJ cZ A xa ya u um H locs) (hl : lv_has ls 4 [(0, .ref b), (1, .ref (xa 0)), (2, .ref (ya 0)), (3, .int ii)]) (kk : ∀ (ss : MS) (u : CT) (um : MTt) (H : Heap) (locs : List Loc), RC u ss → RM um ss → Inv ss → LwS s dC dI cI cJ cZ A xa ya u um H locs → W p l e room_1 s mi #[Value.ref b] below meth co H locs 39 2706 (lw_Z below #[Value.ref b] s) (F0 mi 728 ls [])) : W p l e room_1 s mi #[Value.ref b] below meth co H locs 39 2706 (lw_Z below #[Value.ref b] s) (F0 mi 361 ls []) := by
  have hx := C.1
  have hb := C.2.1
  have hts := C.2.2.2.2.1
  refine lv_aload_n hx hb dL_law_361 rfl (lv_at hl 1 rfl) ?_
  refine l_Xl C h (As := []) (rest := []) (kX3_step l dC dI cI cJ cZ xa H.size u ss hR hI) (cwV 0 hts gL_law_X3_step rfl rfl rfl (by decide +kernel) ⟨Nat.le_of_ble_eq_true rfl, Nat.le_of_ble_eq_true rfl⟩) rfl hl.1 _ rfl (Nat.le_of_ble_eq_true rfl) dL_law_362 (fun r1 u1 H locs hp1 h => ?_)
  refine lv_aload_n hx hb dL_law_365 rfl (lv_at hl 2 rfl) ?_
  refine l_Yl C h (As := []) (rest := [.long r1]) (kX4_step l dC dI cI cJ cZ ya H.size um ss hM hI) (cwV 0 hts gL_law_X4_step rfl rfl rfl (by decide +kernel) ⟨Nat.le_of_ble_eq_true rfl, Nat.le_of_ble_eq_true rfl⟩) rfl hl.1 _ rfl (Nat.le_of_ble_eq_true rfl) dL_law_366 (fun r2 u2 H locs hp2 h => ?_)
  refine x_lcmp_eq (tgt := 728) hx hb dL_law_369 dL_law_370 (by decide) (fun _ => ?_) (fun c => absurd (hp1.2.trans hp2.2.symm) c)
  exact kk _ _ _ _ _ hp1.1 hp2.1 (inv_ste hI) h
set_option maxHeartbeats 4000000 in
set_option maxRecDepth 100000 in
/-- time -/
theorem lc_375 (C : LwC p s mi co dC dI cI cJ cZ b L xs A) {i0 : Nat} {ii : Int32} (hii : ii.toInt = (i0 : Int)) (hi0 : i0 + 3 ≤ L) (ss : MS) (u : CT) (um : MTt) (H : Heap) (locs : List Loc) (hR : RC u ss) (hM : RM um ss) (hI : Inv ss) (h : LwS s dC dI cI cJ cZ A xa ya u um H locs) (hl : lv_has ls 4 [(0, .ref b), (1, .ref (xa 0)), (2, .ref (ya 0)), (3, .int ii)]) (kk : ∀ (ss : MS) (u : CT) (um : MTt) (H : Heap) (locs : List Loc), RC u ss → RM um ss → Inv ss → LwS s dC dI cI cJ cZ A xa ya u um H locs → W p l e room_1 s mi #[Value.ref b] below meth co H locs 39 2706 (lw_Z below #[Value.ref b] s) (F0 mi 728 ls [])) : W p l e room_1 s mi #[Value.ref b] below meth co H locs 39 2706 (lw_Z below #[Value.ref b] s) (F0 mi 375 ls []) := by
  have hx := C.1
  have hb := C.2.1
  have hts := C.2.2.2.2.1
  refine lv_aload_n hx hb dL_law_375 rfl (lv_at hl 1 rfl) ?_
  refine l_Xi C h (As := []) (rest := []) (kX3_time l dC dI cI cJ cZ xa H.size u ss hR hI) (cwV 0 hts gL_law_X3_time rfl rfl rfl (by decide +kernel) ⟨Nat.le_of_ble_eq_true rfl, Nat.le_of_ble_eq_true rfl⟩) rfl hl.1 _ rfl (Nat.le_of_ble_eq_true rfl) dL_law_376 (fun r1 u1 H locs hp1 h => ?_)
  refine lv_aload_n hx hb dL_law_379 rfl (lv_at hl 2 rfl) ?_
  refine l_Yi C h (As := []) (rest := [.int r1]) (kX4_time l dC dI cI cJ cZ ya H.size um ss hM hI) (cwV 0 hts gL_law_X4_time rfl rfl rfl (by decide +kernel) ⟨Nat.le_of_ble_eq_true rfl, Nat.le_of_ble_eq_true rfl⟩) rfl hl.1 _ rfl (Nat.le_of_ble_eq_true rfl) dL_law_380 (fun r2 u2 H locs hp2 h => ?_)
  refine x_icmp_eq (tgt := 728) hx hb dL_law_383 (by decide) (fun _ => ?_) (fun c => absurd (hp1.2.trans hp2.2.symm) c)
  exact kk _ _ _ _ _ hp1.1 hp2.1 hI h
set_option maxHeartbeats 4000000 in
set_option maxRecDepth 100000 in
/-- count -/
theorem lc_388 (C : LwC p s mi co dC dI cI cJ cZ b L xs A) {i0 : Nat} {ii : Int32} (hii : ii.toInt = (i0 : Int)) (hi0 : i0 + 3 ≤ L) (ss : MS) (u : CT) (um : MTt) (H : Heap) (locs : List Loc) (hR : RC u ss) (hM : RM um ss) (hI : Inv ss) (h : LwS s dC dI cI cJ cZ A xa ya u um H locs) (hl : lv_has ls 4 [(0, .ref b), (1, .ref (xa 0)), (2, .ref (ya 0)), (3, .int ii)]) (kk : ∀ (ss : MS) (u : CT) (um : MTt) (H : Heap) (locs : List Loc), RC u ss → RM um ss → Inv ss → LwS s dC dI cI cJ cZ A xa ya u um H locs → W p l e room_1 s mi #[Value.ref b] below meth co H locs 39 2706 (lw_Z below #[Value.ref b] s) (F0 mi 728 ls [])) : W p l e room_1 s mi #[Value.ref b] below meth co H locs 39 2706 (lw_Z below #[Value.ref b] s) (F0 mi 388 ls []) := by
  have hx := C.1
  have hb := C.2.1
  have hts := C.2.2.2.2.1
  refine lv_aload_n hx hb dL_law_388 rfl (lv_at hl 1 rfl) ?_
  refine l_arg C h hl hii hi0 (k := 1) (by decide) (by decide) dL_law_389 dL_law_390 dL_law_391 dL_law_392 dL_law_393 ?_
  refine l_XlN C h (As := [.int (xs (i0 + 1))]) (rest := []) (kX3_count l dC dI cI cJ cZ xa H.size u ss hR hI (xs (i0 + 1))) (cwV 1 hts gL_law_X3_count rfl rfl rfl (by decide +kernel) ⟨Nat.le_of_ble_eq_true rfl, Nat.le_of_ble_eq_true rfl⟩) rfl hl.1 _ rfl (Nat.le_of_ble_eq_true rfl) dL_law_394 (fun r1 u1 H locs hp1 h => ?_)
  refine lv_aload_n hx hb dL_law_397 rfl (lv_at hl 2 rfl) ?_
  refine l_arg C h hl hii hi0 (k := 1) (by decide) (by decide) dL_law_398 dL_law_399 dL_law_400 dL_law_401 dL_law_402 ?_
  refine l_Yl C h (As := [.int (xs (i0 + 1))]) (rest := [.long r1]) (kX4_count l dC dI cI cJ cZ ya H.size um ss hM hI (xs (i0 + 1))) (cwV 1 hts gL_law_X4_count rfl rfl rfl (by decide +kernel) ⟨Nat.le_of_ble_eq_true rfl, Nat.le_of_ble_eq_true rfl⟩) rfl hl.1 _ rfl (Nat.le_of_ble_eq_true rfl) dL_law_403 (fun r2 u2 H locs hp2 h => ?_)
  refine x_lcmp_eq (tgt := 728) hx hb dL_law_406 dL_law_407 (by decide) (fun _ => ?_) (fun c => absurd (hp1.2.trans hp2.2.symm) c)
  exact kk _ _ _ _ _ hp1.1 hp2.1 hI h
set_option maxHeartbeats 4000000 in
set_option maxRecDepth 100000 in
/-- failure -/
theorem lc_412 (C : LwC p s mi co dC dI cI cJ cZ b L xs A) {i0 : Nat} {ii : Int32} (hii : ii.toInt = (i0 : Int)) (hi0 : i0 + 3 ≤ L) (ss : MS) (u : CT) (um : MTt) (H : Heap) (locs : List Loc) (hR : RC u ss) (hM : RM um ss) (hI : Inv ss) (h : LwS s dC dI cI cJ cZ A xa ya u um H locs) (hl : lv_has ls 4 [(0, .ref b), (1, .ref (xa 0)), (2, .ref (ya 0)), (3, .int ii)]) (kk : ∀ (ss : MS) (u : CT) (um : MTt) (H : Heap) (locs : List Loc), RC u ss → RM um ss → Inv ss → LwS s dC dI cI cJ cZ A xa ya u um H locs → W p l e room_1 s mi #[Value.ref b] below meth co H locs 39 2706 (lw_Z below #[Value.ref b] s) (F0 mi 728 ls [])) : W p l e room_1 s mi #[Value.ref b] below meth co H locs 39 2706 (lw_Z below #[Value.ref b] s) (F0 mi 412 ls []) := by
  have hx := C.1
  have hb := C.2.1
  have hts := C.2.2.2.2.1
  refine lv_aload_n hx hb dL_law_412 rfl (lv_at hl 1 rfl) ?_
  refine l_arg C h hl hii hi0 (k := 1) (by decide) (by decide) dL_law_413 dL_law_414 dL_law_415 dL_law_416 dL_law_417 ?_
  refine l_Xl C h (As := [.int (xs (i0 + 1))]) (rest := []) (kX3_failure l dC dI cI cJ cZ xa H.size u ss hR hI (xs (i0 + 1))) (cwV 1 hts gL_law_X3_failure rfl rfl rfl (by decide +kernel) ⟨Nat.le_of_ble_eq_true rfl, Nat.le_of_ble_eq_true rfl⟩) rfl hl.1 _ rfl (Nat.le_of_ble_eq_true rfl) dL_law_418 (fun r1 u1 H locs hp1 h => ?_)
  refine lv_aload_n hx hb dL_law_421 rfl (lv_at hl 2 rfl) ?_
  refine l_arg C h hl hii hi0 (k := 1) (by decide) (by decide) dL_law_422 dL_law_423 dL_law_424 dL_law_425 dL_law_426 ?_
  refine l_Yl C h (As := [.int (xs (i0 + 1))]) (rest := [.long r1]) (kX4_failure l dC dI cI cJ cZ ya H.size um ss hM hI (xs (i0 + 1))) (cwV 1 hts gL_law_X4_failure rfl rfl rfl (by decide +kernel) ⟨Nat.le_of_ble_eq_true rfl, Nat.le_of_ble_eq_true rfl⟩) rfl hl.1 _ rfl (Nat.le_of_ble_eq_true rfl) dL_law_427 (fun r2 u2 H locs hp2 h => ?_)
  refine x_lcmp_eq (tgt := 728) hx hb dL_law_430 dL_law_431 (by decide) (fun _ => ?_) (fun c => absurd (hp1.2.trans hp2.2.symm) c)
  exact kk _ _ _ _ _ hp1.1 hp2.1 hI h
set_option maxHeartbeats 4000000 in
set_option maxRecDepth 100000 in
/-- calendar -/
theorem lc_436 (C : LwC p s mi co dC dI cI cJ cZ b L xs A) {i0 : Nat} {ii : Int32} (hii : ii.toInt = (i0 : Int)) (hi0 : i0 + 3 ≤ L) (ss : MS) (u : CT) (um : MTt) (H : Heap) (locs : List Loc) (hR : RC u ss) (hM : RM um ss) (hI : Inv ss) (h : LwS s dC dI cI cJ cZ A xa ya u um H locs) (hl : lv_has ls 4 [(0, .ref b), (1, .ref (xa 0)), (2, .ref (ya 0)), (3, .int ii)]) (kk : ∀ (ss : MS) (u : CT) (um : MTt) (H : Heap) (locs : List Loc), RC u ss → RM um ss → Inv ss → LwS s dC dI cI cJ cZ A xa ya u um H locs → W p l e room_1 s mi #[Value.ref b] below meth co H locs 39 2706 (lw_Z below #[Value.ref b] s) (F0 mi 728 ls [])) : W p l e room_1 s mi #[Value.ref b] below meth co H locs 39 2706 (lw_Z below #[Value.ref b] s) (F0 mi 436 ls []) := by
  have hx := C.1
  have hb := C.2.1
  have hts := C.2.2.2.2.1
  refine lv_aload_n hx hb dL_law_436 rfl (lv_at hl 1 rfl) ?_
  refine l_arg C h hl hii hi0 (k := 1) (by decide) (by decide) dL_law_437 dL_law_438 dL_law_439 dL_law_440 dL_law_441 ?_
  refine l_arg C h hl hii hi0 (k := 2) (by decide) (by decide) dL_law_442 dL_law_443 dL_law_444 dL_law_445 dL_law_446 ?_
  refine l_Xl C h (As := [.int (xs (i0 + 1)), .int (xs (i0 + 2))]) (rest := []) (kX3_calendar l dC dI cI cJ cZ xa H.size u ss hR hI (xs (i0 + 1)) (xs (i0 + 2))) (cwV 2 hts gL_law_X3_calendar rfl rfl rfl (by decide +kernel) ⟨Nat.le_of_ble_eq_true rfl, Nat.le_of_ble_eq_true rfl⟩) rfl hl.1 _ rfl (Nat.le_of_ble_eq_true rfl) dL_law_447 (fun r1 u1 H locs hp1 h => ?_)
  refine lv_aload_n hx hb dL_law_450 rfl (lv_at hl 2 rfl) ?_
  refine l_arg C h hl hii hi0 (k := 1) (by decide) (by decide) dL_law_451 dL_law_452 dL_law_453 dL_law_454 dL_law_455 ?_
  refine l_arg C h hl hii hi0 (k := 2) (by decide) (by decide) dL_law_456 dL_law_457 dL_law_458 dL_law_459 dL_law_460 ?_
  refine l_Yl C h (As := [.int (xs (i0 + 1)), .int (xs (i0 + 2))]) (rest := [.long r1]) (kX4_calendar l dC dI cI cJ cZ ya H.size um ss hM hI (xs (i0 + 1)) (xs (i0 + 2))) (cwV 2 hts gL_law_X4_calendar rfl rfl rfl (by decide +kernel) ⟨Nat.le_of_ble_eq_true rfl, Nat.le_of_ble_eq_true rfl⟩) rfl hl.1 _ rfl (Nat.le_of_ble_eq_true rfl) dL_law_461 (fun r2 u2 H locs hp2 h => ?_)
  refine x_lcmp_eq (tgt := 728) hx hb dL_law_464 dL_law_465 (by decide) (fun _ => ?_) (fun c => absurd (hp1.2.trans hp2.2.symm) c)
  exact kk _ _ _ _ _ hp1.1 hp2.1 hI h
set_option maxHeartbeats 4000000 in
set_option maxRecDepth 100000 in
/-- calendarSize -/
theorem lc_470 (C : LwC p s mi co dC dI cI cJ cZ b L xs A) {i0 : Nat} {ii : Int32} (hii : ii.toInt = (i0 : Int)) (hi0 : i0 + 3 ≤ L) (ss : MS) (u : CT) (um : MTt) (H : Heap) (locs : List Loc) (hR : RC u ss) (hM : RM um ss) (hI : Inv ss) (h : LwS s dC dI cI cJ cZ A xa ya u um H locs) (hl : lv_has ls 4 [(0, .ref b), (1, .ref (xa 0)), (2, .ref (ya 0)), (3, .int ii)]) (kk : ∀ (ss : MS) (u : CT) (um : MTt) (H : Heap) (locs : List Loc), RC u ss → RM um ss → Inv ss → LwS s dC dI cI cJ cZ A xa ya u um H locs → W p l e room_1 s mi #[Value.ref b] below meth co H locs 39 2706 (lw_Z below #[Value.ref b] s) (F0 mi 728 ls [])) : W p l e room_1 s mi #[Value.ref b] below meth co H locs 39 2706 (lw_Z below #[Value.ref b] s) (F0 mi 470 ls []) := by
  have hx := C.1
  have hb := C.2.1
  have hts := C.2.2.2.2.1
  refine lv_aload_n hx hb dL_law_470 rfl (lv_at hl 1 rfl) ?_
  refine l_Xi C h (As := []) (rest := []) (kX3_calendarSize l dC dI cI cJ cZ xa H.size u ss hR hI) (cwV 0 hts gL_law_X3_calendarSize rfl rfl rfl (by decide +kernel) ⟨Nat.le_of_ble_eq_true rfl, Nat.le_of_ble_eq_true rfl⟩) rfl hl.1 _ rfl (Nat.le_of_ble_eq_true rfl) dL_law_471 (fun r1 u1 H locs hp1 h => ?_)
  refine lv_aload_n hx hb dL_law_474 rfl (lv_at hl 2 rfl) ?_
  refine l_Yi C h (As := []) (rest := [.int r1]) (kX4_calendarSize l dC dI cI cJ cZ ya H.size um ss hM hI) (cwV 0 hts gL_law_X4_calendarSize rfl rfl rfl (by decide +kernel) ⟨Nat.le_of_ble_eq_true rfl, Nat.le_of_ble_eq_true rfl⟩) rfl hl.1 _ rfl (Nat.le_of_ble_eq_true rfl) dL_law_475 (fun r2 u2 H locs hp2 h => ?_)
  refine x_icmp_eq (tgt := 728) hx hb dL_law_478 (by decide) (fun _ => ?_) (fun c => absurd (hp1.2.trans hp2.2.symm) c)
  exact kk _ _ _ _ _ hp1.1 hp2.1 hI h
set_option maxHeartbeats 4000000 in
set_option maxRecDepth 100000 in
/-- topChange -/
theorem lc_483 (C : LwC p s mi co dC dI cI cJ cZ b L xs A) {i0 : Nat} {ii : Int32} (hii : ii.toInt = (i0 : Int)) (hi0 : i0 + 3 ≤ L) (ss : MS) (u : CT) (um : MTt) (H : Heap) (locs : List Loc) (hR : RC u ss) (hM : RM um ss) (hI : Inv ss) (h : LwS s dC dI cI cJ cZ A xa ya u um H locs) (hl : lv_has ls 4 [(0, .ref b), (1, .ref (xa 0)), (2, .ref (ya 0)), (3, .int ii)]) (kk : ∀ (ss : MS) (u : CT) (um : MTt) (H : Heap) (locs : List Loc), RC u ss → RM um ss → Inv ss → LwS s dC dI cI cJ cZ A xa ya u um H locs → W p l e room_1 s mi #[Value.ref b] below meth co H locs 39 2706 (lw_Z below #[Value.ref b] s) (F0 mi 728 ls [])) : W p l e room_1 s mi #[Value.ref b] below meth co H locs 39 2706 (lw_Z below #[Value.ref b] s) (F0 mi 483 ls []) := by
  have hx := C.1
  have hb := C.2.1
  have hts := C.2.2.2.2.1
  refine lv_aload_n hx hb dL_law_483 rfl (lv_at hl 1 rfl) ?_
  refine l_Xl C h (As := []) (rest := []) (kX3_topChange l dC dI cI cJ cZ xa H.size u ss hR hI) (cwV 0 hts gL_law_X3_topChange rfl rfl rfl (by decide +kernel) ⟨Nat.le_of_ble_eq_true rfl, Nat.le_of_ble_eq_true rfl⟩) rfl hl.1 _ rfl (Nat.le_of_ble_eq_true rfl) dL_law_484 (fun r1 u1 H locs hp1 h => ?_)
  refine lv_aload_n hx hb dL_law_487 rfl (lv_at hl 2 rfl) ?_
  refine l_Yl C h (As := []) (rest := [.long r1]) (kX4_topChange l dC dI cI cJ cZ ya H.size um ss hM hI) (cwV 0 hts gL_law_X4_topChange rfl rfl rfl (by decide +kernel) ⟨Nat.le_of_ble_eq_true rfl, Nat.le_of_ble_eq_true rfl⟩) rfl hl.1 _ rfl (Nat.le_of_ble_eq_true rfl) dL_law_488 (fun r2 u2 H locs hp2 h => ?_)
  refine x_lcmp_eq (tgt := 728) hx hb dL_law_491 dL_law_492 (by decide) (fun _ => ?_) (fun c => absurd (hp1.2.trans hp2.2.symm) c)
  exact kk _ _ _ _ _ hp1.1 hp2.1 hI h
set_option maxHeartbeats 4000000 in
set_option maxRecDepth 100000 in
/-- meeting -/
theorem lc_497 (C : LwC p s mi co dC dI cI cJ cZ b L xs A) {i0 : Nat} {ii : Int32} (hii : ii.toInt = (i0 : Int)) (hi0 : i0 + 3 ≤ L) (ss : MS) (u : CT) (um : MTt) (H : Heap) (locs : List Loc) (hR : RC u ss) (hM : RM um ss) (hI : Inv ss) (h : LwS s dC dI cI cJ cZ A xa ya u um H locs) (hl : lv_has ls 4 [(0, .ref b), (1, .ref (xa 0)), (2, .ref (ya 0)), (3, .int ii)]) (kk : ∀ (ss : MS) (u : CT) (um : MTt) (H : Heap) (locs : List Loc), RC u ss → RM um ss → Inv ss → LwS s dC dI cI cJ cZ A xa ya u um H locs → W p l e room_1 s mi #[Value.ref b] below meth co H locs 39 2706 (lw_Z below #[Value.ref b] s) (F0 mi 728 ls [])) : W p l e room_1 s mi #[Value.ref b] below meth co H locs 39 2706 (lw_Z below #[Value.ref b] s) (F0 mi 497 ls []) := by
  have hx := C.1
  have hb := C.2.1
  have hts := C.2.2.2.2.1
  refine lv_aload_n hx hb dL_law_497 rfl (lv_at hl 1 rfl) ?_
  refine l_arg C h hl hii hi0 (k := 1) (by decide) (by decide) dL_law_498 dL_law_499 dL_law_500 dL_law_501 dL_law_502 ?_
  refine l_arg C h hl hii hi0 (k := 2) (by decide) (by decide) dL_law_503 dL_law_504 dL_law_505 dL_law_506 dL_law_507 ?_
  refine l_Xl C h (As := [.int (xs (i0 + 1)), .int (xs (i0 + 2))]) (rest := []) (kX3_meeting l dC dI cI cJ cZ xa H.size u ss hR hI (xs (i0 + 1)) (xs (i0 + 2))) (cwV 2 hts gL_law_X3_meeting rfl rfl rfl (by decide +kernel) ⟨Nat.le_of_ble_eq_true rfl, Nat.le_of_ble_eq_true rfl⟩) rfl hl.1 _ rfl (Nat.le_of_ble_eq_true rfl) dL_law_508 (fun r1 u1 H locs hp1 h => ?_)
  refine lv_aload_n hx hb dL_law_511 rfl (lv_at hl 2 rfl) ?_
  refine l_arg C h hl hii hi0 (k := 1) (by decide) (by decide) dL_law_512 dL_law_513 dL_law_514 dL_law_515 dL_law_516 ?_
  refine l_arg C h hl hii hi0 (k := 2) (by decide) (by decide) dL_law_517 dL_law_518 dL_law_519 dL_law_520 dL_law_521 ?_
  refine l_Yl C h (As := [.int (xs (i0 + 1)), .int (xs (i0 + 2))]) (rest := [.long r1]) (kX4_meeting l dC dI cI cJ cZ ya H.size um ss hM hI (xs (i0 + 1)) (xs (i0 + 2))) (cwV 2 hts gL_law_X4_meeting rfl rfl rfl (by decide +kernel) ⟨Nat.le_of_ble_eq_true rfl, Nat.le_of_ble_eq_true rfl⟩) rfl hl.1 _ rfl (Nat.le_of_ble_eq_true rfl) dL_law_522 (fun r2 u2 H locs hp2 h => ?_)
  refine x_lcmp_eq (tgt := 728) hx hb dL_law_525 dL_law_526 (by decide) (fun _ => ?_) (fun c => absurd (hp1.2.trans hp2.2.symm) c)
  exact kk _ _ _ _ _ hp1.1 hp2.1 hI h
set_option maxHeartbeats 4000000 in
set_option maxRecDepth 100000 in
/-- topAt -/
theorem lc_531 (C : LwC p s mi co dC dI cI cJ cZ b L xs A) {i0 : Nat} {ii : Int32} (hii : ii.toInt = (i0 : Int)) (hi0 : i0 + 3 ≤ L) (ss : MS) (u : CT) (um : MTt) (H : Heap) (locs : List Loc) (hR : RC u ss) (hM : RM um ss) (hI : Inv ss) (h : LwS s dC dI cI cJ cZ A xa ya u um H locs) (hl : lv_has ls 4 [(0, .ref b), (1, .ref (xa 0)), (2, .ref (ya 0)), (3, .int ii)]) (kk : ∀ (ss : MS) (u : CT) (um : MTt) (H : Heap) (locs : List Loc), RC u ss → RM um ss → Inv ss → LwS s dC dI cI cJ cZ A xa ya u um H locs → W p l e room_1 s mi #[Value.ref b] below meth co H locs 39 2706 (lw_Z below #[Value.ref b] s) (F0 mi 728 ls [])) : W p l e room_1 s mi #[Value.ref b] below meth co H locs 39 2706 (lw_Z below #[Value.ref b] s) (F0 mi 531 ls []) := by
  have hx := C.1
  have hb := C.2.1
  have hts := C.2.2.2.2.1
  refine lv_aload_n hx hb dL_law_531 rfl (lv_at hl 1 rfl) ?_
  refine l_arg C h hl hii hi0 (k := 1) (by decide) (by decide) dL_law_532 dL_law_533 dL_law_534 dL_law_535 dL_law_536 ?_
  refine l_Xl C h (As := [.int (xs (i0 + 1))]) (rest := []) (kX3_topAt l dC dI cI cJ cZ xa H.size u ss hR hI (xs (i0 + 1))) (cwV 1 hts gL_law_X3_topAt rfl rfl rfl (by decide +kernel) ⟨Nat.le_of_ble_eq_true rfl, Nat.le_of_ble_eq_true rfl⟩) rfl hl.1 _ rfl (Nat.le_of_ble_eq_true rfl) dL_law_537 (fun r1 u1 H locs hp1 h => ?_)
  refine lv_aload_n hx hb dL_law_540 rfl (lv_at hl 2 rfl) ?_
  refine l_arg C h hl hii hi0 (k := 1) (by decide) (by decide) dL_law_541 dL_law_542 dL_law_543 dL_law_544 dL_law_545 ?_
  refine l_Yl C h (As := [.int (xs (i0 + 1))]) (rest := [.long r1]) (kX4_topAt l dC dI cI cJ cZ ya H.size um ss hM hI (xs (i0 + 1))) (cwV 1 hts gL_law_X4_topAt rfl rfl rfl (by decide +kernel) ⟨Nat.le_of_ble_eq_true rfl, Nat.le_of_ble_eq_true rfl⟩) rfl hl.1 _ rfl (Nat.le_of_ble_eq_true rfl) dL_law_546 (fun r2 u2 H locs hp2 h => ?_)
  refine x_lcmp_eq (tgt := 728) hx hb dL_law_549 dL_law_550 (by decide) (fun _ => ?_) (fun c => absurd (hp1.2.trans hp2.2.symm) c)
  exact kk _ _ _ _ _ hp1.1 hp2.1 hI h
set_option maxHeartbeats 4000000 in
set_option maxRecDepth 100000 in
/-- valueAt -/
theorem lc_555 (C : LwC p s mi co dC dI cI cJ cZ b L xs A) {i0 : Nat} {ii : Int32} (hii : ii.toInt = (i0 : Int)) (hi0 : i0 + 3 ≤ L) (ss : MS) (u : CT) (um : MTt) (H : Heap) (locs : List Loc) (hR : RC u ss) (hM : RM um ss) (hI : Inv ss) (h : LwS s dC dI cI cJ cZ A xa ya u um H locs) (hl : lv_has ls 4 [(0, .ref b), (1, .ref (xa 0)), (2, .ref (ya 0)), (3, .int ii)]) (kk : ∀ (ss : MS) (u : CT) (um : MTt) (H : Heap) (locs : List Loc), RC u ss → RM um ss → Inv ss → LwS s dC dI cI cJ cZ A xa ya u um H locs → W p l e room_1 s mi #[Value.ref b] below meth co H locs 39 2706 (lw_Z below #[Value.ref b] s) (F0 mi 728 ls [])) : W p l e room_1 s mi #[Value.ref b] below meth co H locs 39 2706 (lw_Z below #[Value.ref b] s) (F0 mi 555 ls []) := by
  have hx := C.1
  have hb := C.2.1
  have hts := C.2.2.2.2.1
  refine lv_aload_n hx hb dL_law_555 rfl (lv_at hl 1 rfl) ?_
  refine l_arg C h hl hii hi0 (k := 1) (by decide) (by decide) dL_law_556 dL_law_557 dL_law_558 dL_law_559 dL_law_560 ?_
  refine l_arg C h hl hii hi0 (k := 2) (by decide) (by decide) dL_law_561 dL_law_562 dL_law_563 dL_law_564 dL_law_565 ?_
  refine l_Xl C h (As := [.int (xs (i0 + 1)), .int (xs (i0 + 2))]) (rest := []) (kX3_valueAt l dC dI cI cJ cZ xa H.size u ss hR hI (xs (i0 + 1)) (xs (i0 + 2))) (cwV 2 hts gL_law_X3_valueAt rfl rfl rfl (by decide +kernel) ⟨Nat.le_of_ble_eq_true rfl, Nat.le_of_ble_eq_true rfl⟩) rfl hl.1 _ rfl (Nat.le_of_ble_eq_true rfl) dL_law_566 (fun r1 u1 H locs hp1 h => ?_)
  refine lv_aload_n hx hb dL_law_569 rfl (lv_at hl 2 rfl) ?_
  refine l_arg C h hl hii hi0 (k := 1) (by decide) (by decide) dL_law_570 dL_law_571 dL_law_572 dL_law_573 dL_law_574 ?_
  refine l_arg C h hl hii hi0 (k := 2) (by decide) (by decide) dL_law_575 dL_law_576 dL_law_577 dL_law_578 dL_law_579 ?_
  refine l_Yl C h (As := [.int (xs (i0 + 1)), .int (xs (i0 + 2))]) (rest := [.long r1]) (kX4_valueAt l dC dI cI cJ cZ ya H.size um ss hM hI (xs (i0 + 1)) (xs (i0 + 2))) (cwV 2 hts gL_law_X4_valueAt rfl rfl rfl (by decide +kernel) ⟨Nat.le_of_ble_eq_true rfl, Nat.le_of_ble_eq_true rfl⟩) rfl hl.1 _ rfl (Nat.le_of_ble_eq_true rfl) dL_law_580 (fun r2 u2 H locs hp2 h => ?_)
  refine x_lcmp_eq (tgt := 728) hx hb dL_law_583 dL_law_584 (by decide) (fun _ => ?_) (fun c => absurd (hp1.2.trans hp2.2.symm) c)
  exact kk _ _ _ _ _ hp1.1 hp2.1 hI h
set_option maxHeartbeats 4000000 in
set_option maxRecDepth 100000 in
/-- orderAt -/
theorem lc_589 (C : LwC p s mi co dC dI cI cJ cZ b L xs A) {i0 : Nat} {ii : Int32} (hii : ii.toInt = (i0 : Int)) (hi0 : i0 + 3 ≤ L) (ss : MS) (u : CT) (um : MTt) (H : Heap) (locs : List Loc) (hR : RC u ss) (hM : RM um ss) (hI : Inv ss) (h : LwS s dC dI cI cJ cZ A xa ya u um H locs) (hl : lv_has ls 4 [(0, .ref b), (1, .ref (xa 0)), (2, .ref (ya 0)), (3, .int ii)]) (kk : ∀ (ss : MS) (u : CT) (um : MTt) (H : Heap) (locs : List Loc), RC u ss → RM um ss → Inv ss → LwS s dC dI cI cJ cZ A xa ya u um H locs → W p l e room_1 s mi #[Value.ref b] below meth co H locs 39 2706 (lw_Z below #[Value.ref b] s) (F0 mi 728 ls [])) : W p l e room_1 s mi #[Value.ref b] below meth co H locs 39 2706 (lw_Z below #[Value.ref b] s) (F0 mi 589 ls []) := by
  have hx := C.1
  have hb := C.2.1
  have hts := C.2.2.2.2.1
  refine lv_aload_n hx hb dL_law_589 rfl (lv_at hl 1 rfl) ?_
  refine l_arg C h hl hii hi0 (k := 1) (by decide) (by decide) dL_law_590 dL_law_591 dL_law_592 dL_law_593 dL_law_594 ?_
  refine l_arg C h hl hii hi0 (k := 2) (by decide) (by decide) dL_law_595 dL_law_596 dL_law_597 dL_law_598 dL_law_599 ?_
  refine l_Xl C h (As := [.int (xs (i0 + 1)), .int (xs (i0 + 2))]) (rest := []) (kX3_orderAt l dC dI cI cJ cZ xa H.size u ss hR hI (xs (i0 + 1)) (xs (i0 + 2))) (cwV 2 hts gL_law_X3_orderAt rfl rfl rfl (by decide +kernel) ⟨Nat.le_of_ble_eq_true rfl, Nat.le_of_ble_eq_true rfl⟩) rfl hl.1 _ rfl (Nat.le_of_ble_eq_true rfl) dL_law_600 (fun r1 u1 H locs hp1 h => ?_)
  refine lv_aload_n hx hb dL_law_603 rfl (lv_at hl 2 rfl) ?_
  refine l_arg C h hl hii hi0 (k := 1) (by decide) (by decide) dL_law_604 dL_law_605 dL_law_606 dL_law_607 dL_law_608 ?_
  refine l_arg C h hl hii hi0 (k := 2) (by decide) (by decide) dL_law_609 dL_law_610 dL_law_611 dL_law_612 dL_law_613 ?_
  refine l_Yl C h (As := [.int (xs (i0 + 1)), .int (xs (i0 + 2))]) (rest := [.long r1]) (kX4_orderAt l dC dI cI cJ cZ ya H.size um ss hM hI (xs (i0 + 1)) (xs (i0 + 2))) (cwV 2 hts gL_law_X4_orderAt rfl rfl rfl (by decide +kernel) ⟨Nat.le_of_ble_eq_true rfl, Nat.le_of_ble_eq_true rfl⟩) rfl hl.1 _ rfl (Nat.le_of_ble_eq_true rfl) dL_law_614 (fun r2 u2 H locs hp2 h => ?_)
  refine x_lcmp_eq (tgt := 728) hx hb dL_law_617 dL_law_618 (by decide) (fun _ => ?_) (fun c => absurd (hp1.2.trans hp2.2.symm) c)
  exact kk _ _ _ _ _ hp1.1 hp2.1 hI h
set_option maxHeartbeats 4000000 in
set_option maxRecDepth 100000 in
/-- sizeAt -/
theorem lc_623 (C : LwC p s mi co dC dI cI cJ cZ b L xs A) {i0 : Nat} {ii : Int32} (hii : ii.toInt = (i0 : Int)) (hi0 : i0 + 3 ≤ L) (ss : MS) (u : CT) (um : MTt) (H : Heap) (locs : List Loc) (hR : RC u ss) (hM : RM um ss) (hI : Inv ss) (h : LwS s dC dI cI cJ cZ A xa ya u um H locs) (hl : lv_has ls 4 [(0, .ref b), (1, .ref (xa 0)), (2, .ref (ya 0)), (3, .int ii)]) (kk : ∀ (ss : MS) (u : CT) (um : MTt) (H : Heap) (locs : List Loc), RC u ss → RM um ss → Inv ss → LwS s dC dI cI cJ cZ A xa ya u um H locs → W p l e room_1 s mi #[Value.ref b] below meth co H locs 39 2706 (lw_Z below #[Value.ref b] s) (F0 mi 728 ls [])) : W p l e room_1 s mi #[Value.ref b] below meth co H locs 39 2706 (lw_Z below #[Value.ref b] s) (F0 mi 623 ls []) := by
  have hx := C.1
  have hb := C.2.1
  have hts := C.2.2.2.2.1
  refine lv_aload_n hx hb dL_law_623 rfl (lv_at hl 1 rfl) ?_
  refine l_arg C h hl hii hi0 (k := 1) (by decide) (by decide) dL_law_624 dL_law_625 dL_law_626 dL_law_627 dL_law_628 ?_
  refine l_Xl C h (As := [.int (xs (i0 + 1))]) (rest := []) (kX3_sizeAt l dC dI cI cJ cZ xa H.size u ss hR hI (xs (i0 + 1))) (cwV 1 hts gL_law_X3_sizeAt rfl rfl rfl (by decide +kernel) ⟨Nat.le_of_ble_eq_true rfl, Nat.le_of_ble_eq_true rfl⟩) rfl hl.1 _ rfl (Nat.le_of_ble_eq_true rfl) dL_law_629 (fun r1 u1 H locs hp1 h => ?_)
  refine lv_aload_n hx hb dL_law_632 rfl (lv_at hl 2 rfl) ?_
  refine l_arg C h hl hii hi0 (k := 1) (by decide) (by decide) dL_law_633 dL_law_634 dL_law_635 dL_law_636 dL_law_637 ?_
  refine l_Yl C h (As := [.int (xs (i0 + 1))]) (rest := [.long r1]) (kX4_sizeAt l dC dI cI cJ cZ ya H.size um ss hM hI (xs (i0 + 1))) (cwV 1 hts gL_law_X4_sizeAt rfl rfl rfl (by decide +kernel) ⟨Nat.le_of_ble_eq_true rfl, Nat.le_of_ble_eq_true rfl⟩) rfl hl.1 _ rfl (Nat.le_of_ble_eq_true rfl) dL_law_638 (fun r2 u2 H locs hp2 h => ?_)
  refine x_lcmp_eq (tgt := 728) hx hb dL_law_641 dL_law_642 (by decide) (fun _ => ?_) (fun c => absurd (hp1.2.trans hp2.2.symm) c)
  exact kk _ _ _ _ _ hp1.1 hp2.1 hI h
set_option maxHeartbeats 4000000 in
set_option maxRecDepth 100000 in
/-- topChanges -/
theorem lc_647 (C : LwC p s mi co dC dI cI cJ cZ b L xs A) {i0 : Nat} {ii : Int32} (hii : ii.toInt = (i0 : Int)) (hi0 : i0 + 3 ≤ L) (ss : MS) (u : CT) (um : MTt) (H : Heap) (locs : List Loc) (hR : RC u ss) (hM : RM um ss) (hI : Inv ss) (h : LwS s dC dI cI cJ cZ A xa ya u um H locs) (hl : lv_has ls 4 [(0, .ref b), (1, .ref (xa 0)), (2, .ref (ya 0)), (3, .int ii)]) (kk : ∀ (ss : MS) (u : CT) (um : MTt) (H : Heap) (locs : List Loc), RC u ss → RM um ss → Inv ss → LwS s dC dI cI cJ cZ A xa ya u um H locs → W p l e room_1 s mi #[Value.ref b] below meth co H locs 39 2706 (lw_Z below #[Value.ref b] s) (F0 mi 728 ls [])) : W p l e room_1 s mi #[Value.ref b] below meth co H locs 39 2706 (lw_Z below #[Value.ref b] s) (F0 mi 647 ls []) := by
  have hx := C.1
  have hb := C.2.1
  have hts := C.2.2.2.2.1
  refine lv_aload_n hx hb dL_law_647 rfl (lv_at hl 1 rfl) ?_
  refine l_arg C h hl hii hi0 (k := 1) (by decide) (by decide) dL_law_648 dL_law_649 dL_law_650 dL_law_651 dL_law_652 ?_
  refine l_arg C h hl hii hi0 (k := 2) (by decide) (by decide) dL_law_653 dL_law_654 dL_law_655 dL_law_656 dL_law_657 ?_
  refine l_Xl C h (As := [.int (xs (i0 + 1)), .int (xs (i0 + 2))]) (rest := []) (kX3_topChanges l dC dI cI cJ cZ xa H.size u ss hR hI (xs (i0 + 1)) (xs (i0 + 2))) (cwV 2 hts gL_law_X3_topChanges rfl rfl rfl (by decide +kernel) ⟨Nat.le_of_ble_eq_true rfl, Nat.le_of_ble_eq_true rfl⟩) rfl hl.1 _ rfl (Nat.le_of_ble_eq_true rfl) dL_law_658 (fun r1 u1 H locs hp1 h => ?_)
  refine lv_aload_n hx hb dL_law_661 rfl (lv_at hl 2 rfl) ?_
  refine l_arg C h hl hii hi0 (k := 1) (by decide) (by decide) dL_law_662 dL_law_663 dL_law_664 dL_law_665 dL_law_666 ?_
  refine l_arg C h hl hii hi0 (k := 2) (by decide) (by decide) dL_law_667 dL_law_668 dL_law_669 dL_law_670 dL_law_671 ?_
  refine l_Yl C h (As := [.int (xs (i0 + 1)), .int (xs (i0 + 2))]) (rest := [.long r1]) (kX4_topChanges l dC dI cI cJ cZ ya H.size um ss hM hI (xs (i0 + 1)) (xs (i0 + 2))) (cwV 2 hts gL_law_X4_topChanges rfl rfl rfl (by decide +kernel) ⟨Nat.le_of_ble_eq_true rfl, Nat.le_of_ble_eq_true rfl⟩) rfl hl.1 _ rfl (Nat.le_of_ble_eq_true rfl) dL_law_672 (fun r2 u2 H locs hp2 h => ?_)
  refine x_lcmp_eq (tgt := 728) hx hb dL_law_675 dL_law_676 (by decide) (fun _ => ?_) (fun c => absurd (hp1.2.trans hp2.2.symm) c)
  exact kk _ _ _ _ _ hp1.1 hp2.1 hI h
set_option maxHeartbeats 4000000 in
set_option maxRecDepth 100000 in
/-- leastBetween -/
theorem lc_681 (C : LwC p s mi co dC dI cI cJ cZ b L xs A) {i0 : Nat} {ii : Int32} (hii : ii.toInt = (i0 : Int)) (hi0 : i0 + 3 ≤ L) (ss : MS) (u : CT) (um : MTt) (H : Heap) (locs : List Loc) (hR : RC u ss) (hM : RM um ss) (hI : Inv ss) (h : LwS s dC dI cI cJ cZ A xa ya u um H locs) (hl : lv_has ls 4 [(0, .ref b), (1, .ref (xa 0)), (2, .ref (ya 0)), (3, .int ii)]) (kk : ∀ (ss : MS) (u : CT) (um : MTt) (H : Heap) (locs : List Loc), RC u ss → RM um ss → Inv ss → LwS s dC dI cI cJ cZ A xa ya u um H locs → W p l e room_1 s mi #[Value.ref b] below meth co H locs 39 2706 (lw_Z below #[Value.ref b] s) (F0 mi 728 ls [])) : W p l e room_1 s mi #[Value.ref b] below meth co H locs 39 2706 (lw_Z below #[Value.ref b] s) (F0 mi 681 ls []) := by
  have hx := C.1
  have hb := C.2.1
  have hts := C.2.2.2.2.1
  refine lv_aload_n hx hb dL_law_681 rfl (lv_at hl 1 rfl) ?_
  refine l_arg C h hl hii hi0 (k := 1) (by decide) (by decide) dL_law_682 dL_law_683 dL_law_684 dL_law_685 dL_law_686 ?_
  refine l_arg C h hl hii hi0 (k := 2) (by decide) (by decide) dL_law_687 dL_law_688 dL_law_689 dL_law_690 dL_law_691 ?_
  refine l_Xl C h (As := [.int (xs (i0 + 1)), .int (xs (i0 + 2))]) (rest := []) (kX3_leastBetween l dC dI cI cJ cZ xa H.size u ss hR hI (xs (i0 + 1)) (xs (i0 + 2))) (cwV 2 hts gL_law_X3_leastBetween rfl rfl rfl (by decide +kernel) ⟨Nat.le_of_ble_eq_true rfl, Nat.le_of_ble_eq_true rfl⟩) rfl hl.1 _ rfl (Nat.le_of_ble_eq_true rfl) dL_law_692 (fun r1 u1 H locs hp1 h => ?_)
  refine lv_aload_n hx hb dL_law_695 rfl (lv_at hl 2 rfl) ?_
  refine l_arg C h hl hii hi0 (k := 1) (by decide) (by decide) dL_law_696 dL_law_697 dL_law_698 dL_law_699 dL_law_700 ?_
  refine l_arg C h hl hii hi0 (k := 2) (by decide) (by decide) dL_law_701 dL_law_702 dL_law_703 dL_law_704 dL_law_705 ?_
  refine l_Yl C h (As := [.int (xs (i0 + 1)), .int (xs (i0 + 2))]) (rest := [.long r1]) (kX4_leastBetween l dC dI cI cJ cZ ya H.size um ss hM hI (xs (i0 + 1)) (xs (i0 + 2))) (cwV 2 hts gL_law_X4_leastBetween rfl rfl rfl (by decide +kernel) ⟨Nat.le_of_ble_eq_true rfl, Nat.le_of_ble_eq_true rfl⟩) rfl hl.1 _ rfl (Nat.le_of_ble_eq_true rfl) dL_law_706 (fun r2 u2 H locs hp2 h => ?_)
  refine x_lcmp_eq (tgt := 728) hx hb dL_law_709 dL_law_710 (by decide) (fun _ => ?_) (fun c => absurd (hp1.2.trans hp2.2.symm) c)
  exact kk _ _ _ _ _ hp1.1 hp2.1 hI h
set_option maxHeartbeats 4000000 in
set_option maxRecDepth 100000 in
/-- forget -/
theorem lc_715 (C : LwC p s mi co dC dI cI cJ cZ b L xs A) {i0 : Nat} {ii : Int32} (hii : ii.toInt = (i0 : Int)) (hi0 : i0 + 3 ≤ L) (ss : MS) (u : CT) (um : MTt) (H : Heap) (locs : List Loc) (hR : RC u ss) (hM : RM um ss) (hI : Inv ss) (h : LwS s dC dI cI cJ cZ A xa ya u um H locs) (hl : lv_has ls 4 [(0, .ref b), (1, .ref (xa 0)), (2, .ref (ya 0)), (3, .int ii)]) (kk : ∀ (ss : MS) (u : CT) (um : MTt) (H : Heap) (locs : List Loc), RC u ss → RM um ss → Inv ss → LwS s dC dI cI cJ cZ A xa ya u um H locs → W p l e room_1 s mi #[Value.ref b] below meth co H locs 39 2706 (lw_Z below #[Value.ref b] s) (F0 mi 728 ls [])) : W p l e room_1 s mi #[Value.ref b] below meth co H locs 39 2706 (lw_Z below #[Value.ref b] s) (F0 mi 715 ls []) := by
  have hx := C.1
  have hb := C.2.1
  have hts := C.2.2.2.2.1
  refine lv_aload_n hx hb dL_law_715 rfl (lv_at hl 1 rfl) ?_
  refine l_Xi C h (As := []) (rest := []) (kX3_forget l dC dI cI cJ cZ xa H.size u ss hR hI) (cwV 0 hts gL_law_X3_forget rfl rfl rfl (by decide +kernel) ⟨Nat.le_of_ble_eq_true rfl, Nat.le_of_ble_eq_true rfl⟩) rfl hl.1 _ rfl (Nat.le_of_ble_eq_true rfl) dL_law_716 (fun r1 u1 H locs hp1 h => ?_)
  refine lv_aload_n hx hb dL_law_719 rfl (lv_at hl 2 rfl) ?_
  refine l_Yi C h (As := []) (rest := [.int r1]) (kX4_forget l dC dI cI cJ cZ ya H.size um ss hM hI) (cwV 0 hts gL_law_X4_forget rfl rfl rfl (by decide +kernel) ⟨Nat.le_of_ble_eq_true rfl, Nat.le_of_ble_eq_true rfl⟩) rfl hl.1 _ rfl (Nat.le_of_ble_eq_true rfl) dL_law_720 (fun r2 u2 H locs hp2 h => ?_)
  refine x_icmp_eq (tgt := 728) hx hb dL_law_723 (by decide) (fun _ => ?_) (fun c => absurd (hp1.2.trans hp2.2.symm) c)
  exact kk _ _ _ _ _ hp1.1 hp2.1 (inv_fog hI) h
end LV2
