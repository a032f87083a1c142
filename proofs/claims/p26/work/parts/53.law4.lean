/-! THE LAW, 4: isForetold -/
set_option maxHeartbeats 8000000 in
set_option maxRecDepth 100000 in
theorem fore_T {pg : Program} {l : Launch} {e : Env} {s : State} {mi : MethodId} {args : Array Value} {below : List Frame} {meth : Method} {co : Code} {dC : Nat → ClassId} {dI : Nat → Nat → Nat} {cI cJ cZ : ClassId} {A : Nat → Prop} {xa : Nat → Nat} (hx : pg.tables.exec = Jvm.exec) (hb : co.code = cL_isForetold) (hr : meth.sig.returnType = (some .boolean)) (hml : co.maxLocals = 13) (hown : s.vm.findClass RL = some mi.cls) (hts : ∀ w ∈ wsL_isForetold, w.before args s = true) (hlocks : meth.locks = false) (hA : ∀ q : Nat, s.heap.size ≤ q → A q) (hK : va_K (dC, dI) vwCl (tysN cI cJ cZ) s) (hN1 : va_Nw (.fieldLinkNest RX3 115 "MovingHeap$Heap" "exchanges" "J" "MovingHeap") s) (hN2 : va_Nw (.fieldLinkNest RX3 118 "MovingHeap$Heap" "topExchanges" "J" "MovingHeap") s) (u : CT) (s2 : MS) (H : Heap) (locs : List Loc) (hR : RC u s2) (hP : va_P (dC, dI) vwCl (wX cI cJ cZ xa u) H) (hD : va_D A (wX cI cJ cZ xa u)) (hS : va_S A s.heap H locs) (a b c d fi ok : Int32) (r53 : Int64) (ha1 : -1000 ≤ a.toInt) (ha2 : a.toInt ≤ 1000) (hb1 : -1000 ≤ b.toInt) (hb2 : b.toInt ≤ 1000) (hc1 : -20 ≤ c.toInt) (hc2 : c.toInt ≤ 20) (hd1 : -20 ≤ d.toInt) (hd2 : d.toInt ≤ 20) (hfi : fi.toInt = 0) (hok : ok.toInt = 1) (m2 : mt s2 = 0) (v0 : (mL s2).2.1 0 = a.toInt) (w0 : (mL s2).2.2 0 = c.toInt) (v1 : (mL s2).2.1 1 = b.toInt) (w1 : (mL s2).2.2 1 = d.toInt) (hT : Two s2 1 0 1) (g53b : r53.toInt = tonF (eo2 s2 1 0)) (ls : Array Slot) (hl : lv_has ls 13 [(8, .int fi), (6, .long r53), (5, .int ok), (4, .ref ((xa 0))), (0, .int a), (1, .int b), (2, .int c), (3, .int d)]) : W pg l e (headSpec wsL_isForetold ({ frames := 7, cells := 24, slots := 1347, locals := 169 })).room s mi args below meth co H locs 24 1347 (MQ below (va_Qi (fun (r : Int32) (_ : Unit) => r.toInt = 1) (fun _ _ => True) A) args s 24 1347 A) (F0 mi 70 ls []) := by
  have aN : aNF = -1000000000004 := rfl
  have hle := tw_le hT
  refine lv_iload hx hb dL_isForetold_70 (lv_at hl 2 rfl) ?_
  refine x_if_eq (tgt := 122) hx hb dL_isForetold_72 (by decide) (fun c72 => ?_) (fun c72 => ?_)
  · exfalso; omega
  · refine lv_aload hx hb dL_isForetold_75 (lv_at hl 3 rfl) ?_
    refine x_iconst hx hb dL_isForetold_77 (0) (by decide) (fun v77 e77 => ?_)
    refine x_calllM (va_runV (As := [.int v77]) (rest := []) ⟨hx, hb, hml, hown, hts⟩ (kX3_at l dC dI cI cJ cZ xa H.size u s2 hR hT.1 v77) (cwV 1 hts gL_isForetold_X3_at rfl rfl rfl (by decide +kernel) ⟨Nat.le_of_ble_eq_true rfl, Nat.le_of_ble_eq_true rfl⟩) ⟨x_Mb, va_recv hK hP (ci := 3) (q0 := 0) rfl rfl, (fun U hU hW => ⟨rfl, by rw [hU], by rw [hU]; exact hP, va_K.moved hW.alike hK, hD.weaken (fun _ _ _ _ => trivial)⟩)⟩ rfl rfl hl.1 rfl (lv_room (Nat.le_of_ble_eq_true rfl)) dL_isForetold_78 ⟨Nat.le_of_ble_eq_true rfl, Nat.le_of_ble_eq_true rfl⟩) hS (j_fr hD hS hA) (fun r78 u H locs h78 hP1 hkk hS => ?_)
    clear hkk
    have hD : va_D A (wX cI cJ cZ xa u) := l_addr (wX_a u _) hD
    have hP : va_P (dC, dI) vwCl (wX cI cJ cZ xa u) H := hP1
    have hR := h78.1
    have g78 := h78.2
    rw [e77, tw_at hT] at g78
    refine lv_iload hx hb dL_isForetold_81 (lv_at hl 0 rfl) ?_
    refine x_if_eq (tgt := 90) hx hb dL_isForetold_83 (by decide) (fun c83 => ?_) (fun c83 => ?_)
    · refine x_lconst hx hb dL_isForetold_90 (1) (by decide) (fun v90 e90 => ?_)
      refine x_lcmp_ne (tgt := 122) hx hb dL_isForetold_91 dL_isForetold_92 (by decide) (fun c91 => ?_) (fun c91 => ?_)
      · exfalso; omega
      · refine lv_aload hx hb dL_isForetold_95 (lv_at hl 3 rfl) ?_
        refine x_calllM (va_runV (As := []) (rest := []) ⟨hx, hb, hml, hown, hts⟩ (kX3_topChange l dC dI cI cJ cZ xa H.size u s2 hR hT.1) (cwV 0 hts gL_isForetold_X3_topChange rfl rfl rfl (by decide +kernel) ⟨Nat.le_of_ble_eq_true rfl, Nat.le_of_ble_eq_true rfl⟩) ⟨x_Mb, va_recv hK hP (ci := 3) (q0 := 0) rfl rfl, (fun U hU hW => ⟨rfl, by rw [hU], by rw [hU]; exact hP, va_K.moved hW.alike hK, hD.weaken (fun _ _ _ _ => trivial)⟩)⟩ rfl rfl hl.1 rfl (lv_room (Nat.le_of_ble_eq_true rfl)) dL_isForetold_97 ⟨Nat.le_of_ble_eq_true rfl, Nat.le_of_ble_eq_true rfl⟩) hS (j_fr hD hS hA) (fun r97 u H locs h97 hP1 hkk hS => ?_)
        clear hkk
        have hD : va_D A (wX cI cJ cZ xa u) := l_addr (wX_a u _) hD
        have hP : va_P (dC, dI) vwCl (wX cI cJ cZ xa u) H := hP1
        have hR := h97.1
        have g97 := h97.2
        rw [tw_toc hT] at g97
        refine lv_lload hx hb dL_isForetold_100 (lv_at hl 1 rfl) ?_
        refine x_lcmp_ne (tgt := 122) hx hb dL_isForetold_102 dL_isForetold_103 (by decide) (fun c102 => ?_) (fun c102 => ?_)
        · exfalso; omega
        · refine lv_aload hx hb dL_isForetold_106 (lv_at hl 3 rfl) ?_
          refine x_iconst hx hb dL_isForetold_108 (1) (by decide) (fun v108 e108 => ?_)
          refine x_calllM (va_runV (As := [.int v108]) (rest := []) ⟨hx, hb, hml, hown, hts⟩ (kX3_failure l dC dI cI cJ cZ xa H.size u s2 hR hT.1 v108) (cwV 1 hts gL_isForetold_X3_failure rfl rfl rfl (by decide +kernel) ⟨Nat.le_of_ble_eq_true rfl, Nat.le_of_ble_eq_true rfl⟩) ⟨x_Mb, va_recv hK hP (ci := 3) (q0 := 0) rfl rfl, (fun U hU hW => ⟨rfl, by rw [hU], by rw [hU]; exact hP, va_K.moved hW.alike hK, hD.weaken (fun _ _ _ _ => trivial)⟩)⟩ rfl rfl hl.1 rfl (lv_room (Nat.le_of_ble_eq_true rfl)) dL_isForetold_109 ⟨Nat.le_of_ble_eq_true rfl, Nat.le_of_ble_eq_true rfl⟩) hS (j_fr hD hS hA) (fun r109 u H locs h109 hP1 hkk hS => ?_)
          clear hkk
          have hD : va_D A (wX cI cJ cZ xa u) := l_addr (wX_a u _) hD
          have hP : va_P (dC, dI) vwCl (wX cI cJ cZ xa u) H := hP1
          have hR := h109.1
          have g109 := h109.2
          have k109 : faiF s2 1 = tonF (eo2 s2 1 0) := tw_fai hT
          rw [e108, k109] at g109
          refine lv_lload hx hb dL_isForetold_112 (lv_at hl 1 rfl) ?_
          refine x_lcmp_ne (tgt := 122) hx hb dL_isForetold_114 dL_isForetold_115 (by decide) (fun c114 => ?_) (fun c114 => ?_)
          · exfalso; omega
          · refine x_iconst hx hb dL_isForetold_118 (1) (by decide) (fun v118 e118 => ?_)
            refine lv_goto (tgt := 123) hx hb dL_isForetold_119 (by decide) ?_
            refine lv_istore (lv' := [(5, .int v118), (8, .int fi), (6, .long r53), (4, .ref ((xa 0))), (0, .int a), (1, .int b), (2, .int c), (3, .int d)]) hx hb dL_isForetold_123 hl (by decide) rfl (fun ls hl => ?_)
            refine lv_lload hx hb dL_isForetold_125 (lv_at hl 2 rfl) ?_
            refine x_lconst hx hb dL_isForetold_127 (0) (by decide) (fun v127 e127 => ?_)
            refine x_lcmp_le (tgt := 370) hx hb dL_isForetold_128 dL_isForetold_129 (by decide) (fun c128 => ?_) (fun c128 => ?_)
            · have q370 := g_tonn g53b (by omega) (by omega)
              refine lv_iload hx hb dL_isForetold_370 (lv_at hl 0 rfl) ?_
              refine x_if_eq (tgt := 409) hx hb dL_isForetold_372 (by decide) (fun c372 => ?_) (fun c372 => ?_)
              · exfalso; omega
              · refine lv_aload hx hb dL_isForetold_375 (lv_at hl 3 rfl) ?_
                refine x_ldc hx hb hown (hts (.constant RL 83 (100000)) (List.mem_of_getElem? (i := 7) rfl)) dL_isForetold_377 (100000) (by decide) (fun v377 e377 => ?_)
                refine x_calllM (va_runV (As := [.int v377]) (rest := []) ⟨hx, hb, hml, hown, hts⟩ (kX3_pass l dC dI cI cJ cZ xa H.size u s2 hR hT.1 v377) (cwV 1 hts gL_isForetold_X3_pass rfl rfl rfl (by decide +kernel) ⟨Nat.le_of_ble_eq_true rfl, Nat.le_of_ble_eq_true rfl⟩) ⟨x_Mb, va_recv hK hP (ci := 3) (q0 := 0) rfl rfl, (fun U hU hW => ⟨rfl, by rw [hU], by rw [hU]; exact hP, va_K.moved hW.alike hK, hD.weaken (fun _ _ _ _ => trivial)⟩)⟩ rfl rfl hl.1 rfl (lv_room (Nat.le_of_ble_eq_true rfl)) dL_isForetold_379 ⟨Nat.le_of_ble_eq_true rfl, Nat.le_of_ble_eq_true rfl⟩) hS (j_fr hD hS hA) (fun r379 u H locs h379 hP1 hkk hS => ?_)
                clear hkk
                have hD : va_D A (wX cI cJ cZ xa u) := l_addr (wX_a u _) hD
                have hP : va_P (dC, dI) vwCl (wX cI cJ cZ xa u) H := hP1
                have hR := h379.1
                have g379 := h379.2
                have p5 := (tw_pas hT (x := v377.toInt) (by omega) (by omega) (by omega)).1
                rw [p5] at g379
                dsimp only at g379
                obtain ⟨s5, es5⟩ : ∃ z, z = (pasF s2 v377.toInt).2 := ⟨_, rfl⟩
                rw [← es5] at hR
                refine x_lconst hx hb dL_isForetold_382 (0) (by decide) (fun v382 e382 => ?_)
                refine x_lcmp_ne (tgt := 409) hx hb dL_isForetold_383 dL_isForetold_384 (by decide) (fun c383 => ?_) (fun c383 => ?_)
                · exfalso; omega
                · refine lv_lload hx hb dL_isForetold_387 (lv_at hl 2 rfl) ?_
                  refine x_ldc2 hx hb hown (hts (.constantLong RL 35 (-1000000000004)) (List.mem_of_getElem? (i := 6) rfl)) dL_isForetold_389 (-1000000000004) (by decide) (fun v389 e389 => ?_)
                  refine x_lcmp_eq (tgt := 405) hx hb dL_isForetold_392 dL_isForetold_393 (by decide) (fun c392 => ?_) (fun c392 => ?_)
                  · refine x_iconst hx hb dL_isForetold_405 (1) (by decide) (fun v405 e405 => ?_)
                    refine lv_goto (tgt := 410) hx hb dL_isForetold_406 (by decide) ?_
                    refine lv_istore (lv' := [(5, .int v405), (8, .int fi), (6, .long r53), (4, .ref ((xa 0))), (0, .int a), (1, .int b), (2, .int c), (3, .int d)]) hx hb dL_isForetold_410 hl (by decide) rfl (fun ls hl => ?_)
                    refine lv_iload hx hb dL_isForetold_412 (lv_at hl 0 rfl) ?_
                    exact x_zret hx hb hr hlocks hS () dL_isForetold_414 (fun t ht => trivial) (by omega) (by omega)
                  · refine lv_lload hx hb dL_isForetold_396 (lv_at hl 2 rfl) ?_
                    refine x_ldc2 hx hb hown (hts (.constantLong RL 81 (100000)) (List.mem_of_getElem? (i := 4) rfl)) dL_isForetold_398 (100000) (by decide) (fun v398 e398 => ?_)
                    refine x_lcmp_le (tgt := 409) hx hb dL_isForetold_401 dL_isForetold_402 (by decide) (fun c401 => ?_) (fun c401 => ?_)
                    · exfalso; omega
                    · refine x_iconst hx hb dL_isForetold_405 (1) (by decide) (fun v405 e405 => ?_)
                      refine lv_goto (tgt := 410) hx hb dL_isForetold_406 (by decide) ?_
                      refine lv_istore (lv' := [(5, .int v405), (8, .int fi), (6, .long r53), (4, .ref ((xa 0))), (0, .int a), (1, .int b), (2, .int c), (3, .int d)]) hx hb dL_isForetold_410 hl (by decide) rfl (fun ls hl => ?_)
                      refine lv_iload hx hb dL_isForetold_412 (lv_at hl 0 rfl) ?_
                      exact x_zret hx hb hr hlocks hS () dL_isForetold_414 (fun t ht => trivial) (by omega) (by omega)
            · refine lv_lload hx hb dL_isForetold_132 (lv_at hl 2 rfl) ?_
              refine x_ldc2 hx hb hown (hts (.constantLong RL 81 (100000)) (List.mem_of_getElem? (i := 4) rfl)) dL_isForetold_134 (100000) (by decide) (fun v134 e134 => ?_)
              refine x_lcmp_gt (tgt := 370) hx hb dL_isForetold_137 dL_isForetold_138 (by decide) (fun c137 => ?_) (fun c137 => ?_)
              · have q370 := g_tonn g53b (by omega) (by omega)
                refine lv_iload hx hb dL_isForetold_370 (lv_at hl 0 rfl) ?_
                refine x_if_eq (tgt := 409) hx hb dL_isForetold_372 (by decide) (fun c372 => ?_) (fun c372 => ?_)
                · exfalso; omega
                · refine lv_aload hx hb dL_isForetold_375 (lv_at hl 3 rfl) ?_
                  refine x_ldc hx hb hown (hts (.constant RL 83 (100000)) (List.mem_of_getElem? (i := 7) rfl)) dL_isForetold_377 (100000) (by decide) (fun v377 e377 => ?_)
                  refine x_calllM (va_runV (As := [.int v377]) (rest := []) ⟨hx, hb, hml, hown, hts⟩ (kX3_pass l dC dI cI cJ cZ xa H.size u s2 hR hT.1 v377) (cwV 1 hts gL_isForetold_X3_pass rfl rfl rfl (by decide +kernel) ⟨Nat.le_of_ble_eq_true rfl, Nat.le_of_ble_eq_true rfl⟩) ⟨x_Mb, va_recv hK hP (ci := 3) (q0 := 0) rfl rfl, (fun U hU hW => ⟨rfl, by rw [hU], by rw [hU]; exact hP, va_K.moved hW.alike hK, hD.weaken (fun _ _ _ _ => trivial)⟩)⟩ rfl rfl hl.1 rfl (lv_room (Nat.le_of_ble_eq_true rfl)) dL_isForetold_379 ⟨Nat.le_of_ble_eq_true rfl, Nat.le_of_ble_eq_true rfl⟩) hS (j_fr hD hS hA) (fun r379 u H locs h379 hP1 hkk hS => ?_)
                  clear hkk
                  have hD : va_D A (wX cI cJ cZ xa u) := l_addr (wX_a u _) hD
                  have hP : va_P (dC, dI) vwCl (wX cI cJ cZ xa u) H := hP1
                  have hR := h379.1
                  have g379 := h379.2
                  have p5 := (tw_pas hT (x := v377.toInt) (by omega) (by omega) (by omega)).1
                  rw [p5] at g379
                  dsimp only at g379
                  obtain ⟨s5, es5⟩ : ∃ z, z = (pasF s2 v377.toInt).2 := ⟨_, rfl⟩
                  rw [← es5] at hR
                  refine x_lconst hx hb dL_isForetold_382 (0) (by decide) (fun v382 e382 => ?_)
                  refine x_lcmp_ne (tgt := 409) hx hb dL_isForetold_383 dL_isForetold_384 (by decide) (fun c383 => ?_) (fun c383 => ?_)
                  · exfalso; omega
                  · refine lv_lload hx hb dL_isForetold_387 (lv_at hl 2 rfl) ?_
                    refine x_ldc2 hx hb hown (hts (.constantLong RL 35 (-1000000000004)) (List.mem_of_getElem? (i := 6) rfl)) dL_isForetold_389 (-1000000000004) (by decide) (fun v389 e389 => ?_)
                    refine x_lcmp_eq (tgt := 405) hx hb dL_isForetold_392 dL_isForetold_393 (by decide) (fun c392 => ?_) (fun c392 => ?_)
                    · refine x_iconst hx hb dL_isForetold_405 (1) (by decide) (fun v405 e405 => ?_)
                      refine lv_goto (tgt := 410) hx hb dL_isForetold_406 (by decide) ?_
                      refine lv_istore (lv' := [(5, .int v405), (8, .int fi), (6, .long r53), (4, .ref ((xa 0))), (0, .int a), (1, .int b), (2, .int c), (3, .int d)]) hx hb dL_isForetold_410 hl (by decide) rfl (fun ls hl => ?_)
                      refine lv_iload hx hb dL_isForetold_412 (lv_at hl 0 rfl) ?_
                      exact x_zret hx hb hr hlocks hS () dL_isForetold_414 (fun t ht => trivial) (by omega) (by omega)
                    · refine lv_lload hx hb dL_isForetold_396 (lv_at hl 2 rfl) ?_
                      refine x_ldc2 hx hb hown (hts (.constantLong RL 81 (100000)) (List.mem_of_getElem? (i := 4) rfl)) dL_isForetold_398 (100000) (by decide) (fun v398 e398 => ?_)
                      refine x_lcmp_le (tgt := 409) hx hb dL_isForetold_401 dL_isForetold_402 (by decide) (fun c401 => ?_) (fun c401 => ?_)
                      · exfalso; omega
                      · refine x_iconst hx hb dL_isForetold_405 (1) (by decide) (fun v405 e405 => ?_)
                        refine lv_goto (tgt := 410) hx hb dL_isForetold_406 (by decide) ?_
                        refine lv_istore (lv' := [(5, .int v405), (8, .int fi), (6, .long r53), (4, .ref ((xa 0))), (0, .int a), (1, .int b), (2, .int c), (3, .int d)]) hx hb dL_isForetold_410 hl (by decide) rfl (fun ls hl => ?_)
                        refine lv_iload hx hb dL_isForetold_412 (lv_at hl 0 rfl) ?_
                        exact x_zret hx hb hr hlocks hS () dL_isForetold_414 (fun t ht => trivial) (by omega) (by omega)
              · have hm := g_tonp g53b (by omega)
                refine lv_iload_n hx hb dL_isForetold_141 rfl (lv_at hl 4 rfl) ?_
                refine x_i2l hx hb dL_isForetold_142 (fun v142 e142 => ?_)
                refine lv_lload hx hb dL_isForetold_143 (lv_at hl 2 rfl) ?_
                refine x_lconst hx hb dL_isForetold_145 (1) (by decide) (fun v145 e145 => ?_)
                refine x_lsub hx hb dL_isForetold_146 (by omega) (by omega) (fun v146 e146 => ?_)
                refine lv_iload_n hx hb dL_isForetold_147 rfl (lv_at hl 6 rfl) ?_
                refine x_i2l hx hb dL_isForetold_148 (fun v148 e148 => ?_)
                have q149 := g_mb (t := v146.toInt) (x := v148.toInt) (by omega) (by omega) (by omega) (by omega)
                refine x_lmul hx hb dL_isForetold_149 (by omega) (by omega) (fun v149 e149 => ?_)
                refine x_ladd hx hb dL_isForetold_150 (by omega) (by omega) (fun v150 e150 => ?_)
                refine lv_lstore (lv' := [(9, .long v150), (5, .int v118), (8, .int fi), (6, .long r53), (4, .ref ((xa 0))), (0, .int a), (1, .int b), (2, .int c), (3, .int d)]) hx hb dL_isForetold_151 hl (by decide) rfl (fun ls hl => ?_)
                refine lv_iload_n hx hb dL_isForetold_153 rfl (lv_at hl 6 rfl) ?_
                refine x_i2l hx hb dL_isForetold_154 (fun v154 e154 => ?_)
                refine lv_lload hx hb dL_isForetold_155 (lv_at hl 3 rfl) ?_
                refine x_lconst hx hb dL_isForetold_157 (1) (by decide) (fun v157 e157 => ?_)
                refine x_lsub hx hb dL_isForetold_158 (by omega) (by omega) (fun v158 e158 => ?_)
                refine lv_iload_n hx hb dL_isForetold_159 rfl (lv_at hl 8 rfl) ?_
                refine x_i2l hx hb dL_isForetold_160 (fun v160 e160 => ?_)
                have q161 := g_mb (t := v158.toInt) (x := v160.toInt) (by omega) (by omega) (by omega) (by omega)
                refine x_lmul hx hb dL_isForetold_161 (by omega) (by omega) (fun v161 e161 => ?_)
                refine x_ladd hx hb dL_isForetold_162 (by omega) (by omega) (fun v162 e162 => ?_)
                refine lv_lstore (lv' := [(11, .long v162), (9, .long v150), (5, .int v118), (8, .int fi), (6, .long r53), (4, .ref ((xa 0))), (0, .int a), (1, .int b), (2, .int c), (3, .int d)]) hx hb dL_isForetold_163 hl (by decide) rfl (fun ls hl => ?_)
                refine lv_iload hx hb dL_isForetold_165 (lv_at hl 2 rfl) ?_
                refine x_if_eq (tgt := 364) hx hb dL_isForetold_167 (by decide) (fun c167 => ?_) (fun c167 => ?_)
                · exfalso; omega
                · refine lv_aload hx hb dL_isForetold_170 (lv_at hl 5 rfl) ?_
                  refine lv_lload hx hb dL_isForetold_172 (lv_at hl 4 rfl) ?_
                  refine x_l2i hx hb dL_isForetold_174 (by omega) (by omega) (fun v174 e174 => ?_)
                  refine x_iconst hx hb dL_isForetold_175 (1) (by decide) (fun v175 e175 => ?_)
                  refine x_isub hx hb dL_isForetold_176 (by omega) (by omega) (fun v176 e176 => ?_)
                  refine x_calllM (va_runV (As := [.int v176]) (rest := []) ⟨hx, hb, hml, hown, hts⟩ (kX3_pass l dC dI cI cJ cZ xa H.size u s2 hR hT.1 v176) (cwV 1 hts gL_isForetold_X3_pass rfl rfl rfl (by decide +kernel) ⟨Nat.le_of_ble_eq_true rfl, Nat.le_of_ble_eq_true rfl⟩) ⟨x_Mb, va_recv hK hP (ci := 3) (q0 := 0) rfl rfl, (fun U hU hW => ⟨rfl, by rw [hU], by rw [hU]; exact hP, va_K.moved hW.alike hK, hD.weaken (fun _ _ _ _ => trivial)⟩)⟩ rfl rfl hl.1 rfl (lv_room (Nat.le_of_ble_eq_true rfl)) dL_isForetold_177 ⟨Nat.le_of_ble_eq_true rfl, Nat.le_of_ble_eq_true rfl⟩) hS (j_fr hD hS hA) (fun r177 u H locs h177 hP1 hkk hS => ?_)
                  clear hkk
                  have hD : va_D A (wX cI cJ cZ xa u) := l_addr (wX_a u _) hD
                  have hP : va_P (dC, dI) vwCl (wX cI cJ cZ xa u) H := hP1
                  have hR := h177.1
                  have g177 := h177.2
                  have p3 := tw_pas hT (x := v176.toInt) (by omega) (by omega) (by omega)
                  obtain ⟨p31, hT3, p33⟩ := p3
                  have p32 : (pasF s2 v176.toInt).2 = setT s2 v176.toInt := by rw [p31]
                  have m3 : mt (setT s2 v176.toInt) = v176.toInt := rfl
                  have L3 : mL (setT s2 v176.toInt) = mL s2 := rfl
                  rw [p31] at g177
                  dsimp only at g177
                  rw [← p32] at hT3 p33 m3 L3
                  obtain ⟨s3, es3⟩ : ∃ z, z = (pasF s2 v176.toInt).2 := ⟨_, rfl⟩
                  rw [← es3] at hR hT3 p33 m3 L3
                  refine x_lconst hx hb dL_isForetold_180 (0) (by decide) (fun v180 e180 => ?_)
                  refine x_lcmp_ne (tgt := 364) hx hb dL_isForetold_181 dL_isForetold_182 (by decide) (fun c181 => ?_) (fun c181 => ?_)
                  · exfalso; omega
                  · refine lv_aload hx hb dL_isForetold_185 (lv_at hl 5 rfl) ?_
                    refine x_iconst hx hb dL_isForetold_187 (0) (by decide) (fun v187 e187 => ?_)
                    refine x_calllM (va_runV (As := [.int v187]) (rest := []) ⟨hx, hb, hml, hown, hts⟩ (kX3_at l dC dI cI cJ cZ xa H.size u s3 hR hT3.1 v187) (cwV 1 hts gL_isForetold_X3_at rfl rfl rfl (by decide +kernel) ⟨Nat.le_of_ble_eq_true rfl, Nat.le_of_ble_eq_true rfl⟩) ⟨x_Mb, va_recv hK hP (ci := 3) (q0 := 0) rfl rfl, (fun U hU hW => ⟨rfl, by rw [hU], by rw [hU]; exact hP, va_K.moved hW.alike hK, hD.weaken (fun _ _ _ _ => trivial)⟩)⟩ rfl rfl hl.1 rfl (lv_room (Nat.le_of_ble_eq_true rfl)) dL_isForetold_188 ⟨Nat.le_of_ble_eq_true rfl, Nat.le_of_ble_eq_true rfl⟩) hS (j_fr hD hS hA) (fun r188 u H locs h188 hP1 hkk hS => ?_)
                    clear hkk
                    have hD : va_D A (wX cI cJ cZ xa u) := l_addr (wX_a u _) hD
                    have hP : va_P (dC, dI) vwCl (wX cI cJ cZ xa u) H := hP1
                    have hR := h188.1
                    have g188 := h188.2
                    rw [e187, tw_at hT3] at g188
                    refine lv_iload hx hb dL_isForetold_191 (lv_at hl 3 rfl) ?_
                    refine x_if_eq (tgt := 200) hx hb dL_isForetold_193 (by decide) (fun c193 => ?_) (fun c193 => ?_)
                    · refine x_lconst hx hb dL_isForetold_200 (1) (by decide) (fun v200 e200 => ?_)
                      refine x_lcmp_ne (tgt := 364) hx hb dL_isForetold_201 dL_isForetold_202 (by decide) (fun c201 => ?_) (fun c201 => ?_)
                      · exfalso; omega
                      · refine lv_aload hx hb dL_isForetold_205 (lv_at hl 5 rfl) ?_
                        refine x_iconst hx hb dL_isForetold_207 (0) (by decide) (fun v207 e207 => ?_)
                        refine x_iconst hx hb dL_isForetold_208 (0) (by decide) (fun v208 e208 => ?_)
                        refine x_calllM (va_runV (As := [.int v207, .int v208]) (rest := []) ⟨hx, hb, hml, hown, hts⟩ (kX3_point l dC dI cI cJ cZ xa H.size u s3 hR hT3.1 v207 v208) (cwV 2 hts gL_isForetold_X3_point rfl rfl rfl (by decide +kernel) ⟨Nat.le_of_ble_eq_true rfl, Nat.le_of_ble_eq_true rfl⟩) ⟨x_Mb, va_recv hK hP (ci := 3) (q0 := 0) rfl rfl, (fun U hU hW => ⟨rfl, by rw [hU], by rw [hU]; exact hP, va_K.moved hW.alike hK, hD.weaken (fun _ _ _ _ => trivial)⟩)⟩ rfl rfl hl.1 rfl (lv_room (Nat.le_of_ble_eq_true rfl)) dL_isForetold_209 ⟨Nat.le_of_ble_eq_true rfl, Nat.le_of_ble_eq_true rfl⟩) hS (j_fr hD hS hA) (fun r209 u H locs h209 hP1 hkk hS => ?_)
                        clear hkk
                        have hD : va_D A (wX cI cJ cZ xa u) := l_addr (wX_a u _) hD
                        have hP : va_P (dC, dI) vwCl (wX cI cJ cZ xa u) H := hP1
                        have hR := h209.1
                        have g209 := h209.2
                        have k209 : ptF s3 0 0 = (mL s3).2.1 0 + (mL s3).2.2 0 * mt s3 := tw_v0 hT3 (p := 0) (Or.inl rfl)
                        rw [e207, e208, k209, L3, v0, w0, m3] at g209
                        have j209 : c.toInt * v176.toInt = v146.toInt * v148.toInt := by rw [show v176.toInt = v146.toInt by omega, show c.toInt = v148.toInt by omega, Int.mul_comm]
                        rw [j209] at g209
                        refine lv_lload hx hb dL_isForetold_212 (lv_at hl 1 rfl) ?_
                        refine x_lcmp_ne (tgt := 364) hx hb dL_isForetold_214 dL_isForetold_215 (by decide) (fun c214 => ?_) (fun c214 => ?_)
                        · exfalso; omega
                        · refine lv_aload hx hb dL_isForetold_218 (lv_at hl 5 rfl) ?_
                          refine x_iconst hx hb dL_isForetold_220 (1) (by decide) (fun v220 e220 => ?_)
                          refine x_iconst hx hb dL_isForetold_221 (0) (by decide) (fun v221 e221 => ?_)
                          refine x_calllM (va_runV (As := [.int v220, .int v221]) (rest := []) ⟨hx, hb, hml, hown, hts⟩ (kX3_point l dC dI cI cJ cZ xa H.size u s3 hR hT3.1 v220 v221) (cwV 2 hts gL_isForetold_X3_point rfl rfl rfl (by decide +kernel) ⟨Nat.le_of_ble_eq_true rfl, Nat.le_of_ble_eq_true rfl⟩) ⟨x_Mb, va_recv hK hP (ci := 3) (q0 := 0) rfl rfl, (fun U hU hW => ⟨rfl, by rw [hU], by rw [hU]; exact hP, va_K.moved hW.alike hK, hD.weaken (fun _ _ _ _ => trivial)⟩)⟩ rfl rfl hl.1 rfl (lv_room (Nat.le_of_ble_eq_true rfl)) dL_isForetold_222 ⟨Nat.le_of_ble_eq_true rfl, Nat.le_of_ble_eq_true rfl⟩) hS (j_fr hD hS hA) (fun r222 u H locs h222 hP1 hkk hS => ?_)
                          clear hkk
                          have hD : va_D A (wX cI cJ cZ xa u) := l_addr (wX_a u _) hD
                          have hP : va_P (dC, dI) vwCl (wX cI cJ cZ xa u) H := hP1
                          have hR := h222.1
                          have g222 := h222.2
                          have k222 : ptF s3 1 0 = (mL s3).2.1 1 + (mL s3).2.2 1 * mt s3 := tw_v0 hT3 (p := 1) (Or.inr rfl)
                          rw [e220, e221, k222, L3, v1, w1, m3] at g222
                          have j222 : d.toInt * v176.toInt = v158.toInt * v160.toInt := by rw [show v176.toInt = v158.toInt by omega, show d.toInt = v160.toInt by omega, Int.mul_comm]
                          rw [j222] at g222
                          refine lv_lload hx hb dL_isForetold_225 (lv_at hl 0 rfl) ?_
                          refine x_lcmp_ne (tgt := 364) hx hb dL_isForetold_227 dL_isForetold_228 (by decide) (fun c227 => ?_) (fun c227 => ?_)
                          · exfalso; omega
                          · refine lv_aload hx hb dL_isForetold_231 (lv_at hl 5 rfl) ?_
                            refine x_calllM (va_runV (As := []) (rest := []) ⟨hx, hb, hml, hown, hts⟩ (kX3_step l dC dI cI cJ cZ xa H.size u s3 hR hT3.1) (cwV 0 hts gL_isForetold_X3_step rfl rfl rfl (by decide +kernel) ⟨Nat.le_of_ble_eq_true rfl, Nat.le_of_ble_eq_true rfl⟩) ⟨x_Mb, va_recv hK hP (ci := 3) (q0 := 0) rfl rfl, (fun U hU hW => ⟨rfl, by rw [hU], by rw [hU]; exact hP, va_K.moved hW.alike hK, hD.weaken (fun _ _ _ _ => trivial)⟩)⟩ rfl rfl hl.1 rfl (lv_room (Nat.le_of_ble_eq_true rfl)) dL_isForetold_233 ⟨Nat.le_of_ble_eq_true rfl, Nat.le_of_ble_eq_true rfl⟩) hS (j_fr hD hS hA) (fun r233 u H locs h233 hP1 hkk hS => ?_)
                            clear hkk
                            have hD : va_D A (wX cI cJ cZ xa u) := l_addr (wX_a u _) hD
                            have hP : va_P (dC, dI) vwCl (wX cI cJ cZ xa u) H := hP1
                            have hR := h233.1
                            have g233 := h233.2
                            have z4 := tw_ste hT3 (by omega) (by omega)
                            obtain ⟨s4, es4⟩ : ∃ z, z = (steF s3).2 := ⟨_, rfl⟩
                            rw [← es4] at hR z4
                            obtain ⟨p4, hT4, m4, L4, E4⟩ := z4
                            rw [p4] at g233
                            have hb3 : bef (mL s4).2.1 (mL s4).2.2 (mt s4 - 1) 1 0 := by rw [L4, show mt s4 - 1 = mt s3 by omega]; exact tw_bef hT3
                            refine lv_lload hx hb dL_isForetold_236 (lv_at hl 4 rfl) ?_
                            refine x_lcmp_ne (tgt := 364) hx hb dL_isForetold_238 dL_isForetold_239 (by decide) (fun c238 => ?_) (fun c238 => ?_)
                            · exfalso; omega
                            · refine lv_aload hx hb dL_isForetold_242 (lv_at hl 5 rfl) ?_
                              refine x_iconst hx hb dL_isForetold_244 (0) (by decide) (fun v244 e244 => ?_)
                              refine x_calllM (va_runV (As := [.int v244]) (rest := []) ⟨hx, hb, hml, hown, hts⟩ (kX3_at l dC dI cI cJ cZ xa H.size u s4 hR hT4.1 v244) (cwV 1 hts gL_isForetold_X3_at rfl rfl rfl (by decide +kernel) ⟨Nat.le_of_ble_eq_true rfl, Nat.le_of_ble_eq_true rfl⟩) ⟨x_Mb, va_recv hK hP (ci := 3) (q0 := 0) rfl rfl, (fun U hU hW => ⟨rfl, by rw [hU], by rw [hU]; exact hP, va_K.moved hW.alike hK, hD.weaken (fun _ _ _ _ => trivial)⟩)⟩ rfl rfl hl.1 rfl (lv_room (Nat.le_of_ble_eq_true rfl)) dL_isForetold_245 ⟨Nat.le_of_ble_eq_true rfl, Nat.le_of_ble_eq_true rfl⟩) hS (j_fr hD hS hA) (fun r245 u H locs h245 hP1 hkk hS => ?_)
                              clear hkk
                              have hD : va_D A (wX cI cJ cZ xa u) := l_addr (wX_a u _) hD
                              have hP : va_P (dC, dI) vwCl (wX cI cJ cZ xa u) H := hP1
                              have hR := h245.1
                              have g245 := h245.2
                              rw [e244, tw_at hT4] at g245
                              refine lv_iload hx hb dL_isForetold_248 (lv_at hl 3 rfl) ?_
                              refine x_if_eq (tgt := 257) hx hb dL_isForetold_250 (by decide) (fun c250 => ?_) (fun c250 => ?_)
                              · refine x_lconst hx hb dL_isForetold_257 (0) (by decide) (fun v257 e257 => ?_)
                                refine x_lcmp_ne (tgt := 364) hx hb dL_isForetold_258 dL_isForetold_259 (by decide) (fun c258 => ?_) (fun c258 => ?_)
                                · exfalso; omega
                                · refine lv_aload hx hb dL_isForetold_262 (lv_at hl 5 rfl) ?_
                                  refine x_iconst hx hb dL_isForetold_264 (0) (by decide) (fun v264 e264 => ?_)
                                  refine x_calllM (va_runV (As := [.int v264]) (rest := []) ⟨hx, hb, hml, hown, hts⟩ (kX3_count l dC dI cI cJ cZ xa H.size u s4 hR hT4.1 v264) (cwV 1 hts gL_isForetold_X3_count rfl rfl rfl (by decide +kernel) ⟨Nat.le_of_ble_eq_true rfl, Nat.le_of_ble_eq_true rfl⟩) ⟨(x_Nb rfl rfl), va_recv hK hP (ci := 3) (q0 := 0) rfl rfl, (fun U hU hW => ⟨rfl, by rw [hU], by rw [hU]; exact hP, va_K.moved hW.alike hK, hD.weaken (fun _ _ _ _ => trivial), va_Nw.warmF hW hN1, va_Nw.warmF hW hN2⟩)⟩ rfl rfl hl.1 rfl (lv_room (Nat.le_of_ble_eq_true rfl)) dL_isForetold_265 ⟨Nat.le_of_ble_eq_true rfl, Nat.le_of_ble_eq_true rfl⟩) hS (j_fr hD hS hA) (fun r265 u H locs h265 hP1 hkk hS => ?_)
                                  clear hkk
                                  have hD : va_D A (wX cI cJ cZ xa u) := l_addr (wX_a u _) hD
                                  have hP : va_P (dC, dI) vwCl (wX cI cJ cZ xa u) H := hP1
                                  have hR := h265.1
                                  have g265 := h265.2
                                  rw [e264] at g265
                                  unfold couF at g265
                                  rw [if_pos rfl, hT4.2.2.2.2.2.2.2.2] at g265
                                  refine lv_iload hx hb dL_isForetold_268 (lv_at hl 3 rfl) ?_
                                  refine x_if_eq (tgt := 277) hx hb dL_isForetold_270 (by decide) (fun c270 => ?_) (fun c270 => ?_)
                                  · refine x_ldc2 hx hb hown (hts (.constantLong RL 91 (2)) (List.mem_of_getElem? (i := 5) rfl)) dL_isForetold_277 (2) (by decide) (fun v277 e277 => ?_)
                                    refine x_lcmp_ne (tgt := 364) hx hb dL_isForetold_280 dL_isForetold_281 (by decide) (fun c280 => ?_) (fun c280 => ?_)
                                    · exfalso; omega
                                    · refine lv_aload hx hb dL_isForetold_284 (lv_at hl 5 rfl) ?_
                                      refine lv_lload hx hb dL_isForetold_286 (lv_at hl 4 rfl) ?_
                                      refine x_l2i hx hb dL_isForetold_288 (by omega) (by omega) (fun v288 e288 => ?_)
                                      refine x_calllM (va_runV (As := [.int v288]) (rest := []) ⟨hx, hb, hml, hown, hts⟩ (kX3_topAt l dC dI cI cJ cZ xa H.size u s4 hR hT4.1 v288) (cwV 1 hts gL_isForetold_X3_topAt rfl rfl rfl (by decide +kernel) ⟨Nat.le_of_ble_eq_true rfl, Nat.le_of_ble_eq_true rfl⟩) ⟨x_Mb, va_recv hK hP (ci := 3) (q0 := 0) rfl rfl, (fun U hU hW => ⟨rfl, by rw [hU], by rw [hU]; exact hP, va_K.moved hW.alike hK, hD.weaken (fun _ _ _ _ => trivial)⟩)⟩ rfl rfl hl.1 rfl (lv_room (Nat.le_of_ble_eq_true rfl)) dL_isForetold_289 ⟨Nat.le_of_ble_eq_true rfl, Nat.le_of_ble_eq_true rfl⟩) hS (j_fr hD hS hA) (fun r289 u H locs h289 hP1 hkk hS => ?_)
                                      clear hkk
                                      have hD : va_D A (wX cI cJ cZ xa u) := l_addr (wX_a u _) hD
                                      have hP : va_P (dC, dI) vwCl (wX cI cJ cZ xa u) H := hP1
                                      have hR := h289.1
                                      have g289 := h289.2
                                      have k289 : toaF s4 (mt s4) = ((0 : Nat) : Int) := tw_toa hT4 (a := 0) (b := 1) (by omega) (Int.le_refl _) (Or.inl ⟨rfl, rfl⟩) (tw_bef hT4)
                                      rw [show v288.toInt = mt s4 by omega, k289] at g289
                                      refine lv_iload hx hb dL_isForetold_292 (lv_at hl 3 rfl) ?_
                                      refine x_if_eq (tgt := 301) hx hb dL_isForetold_294 (by decide) (fun c294 => ?_) (fun c294 => ?_)
                                      · refine x_lconst hx hb dL_isForetold_301 (0) (by decide) (fun v301 e301 => ?_)
                                        refine x_lcmp_ne (tgt := 364) hx hb dL_isForetold_302 dL_isForetold_303 (by decide) (fun c302 => ?_) (fun c302 => ?_)
                                        · exfalso; omega
                                        · refine lv_aload hx hb dL_isForetold_306 (lv_at hl 5 rfl) ?_
                                          refine lv_lload hx hb dL_isForetold_308 (lv_at hl 4 rfl) ?_
                                          refine x_l2i hx hb dL_isForetold_310 (by omega) (by omega) (fun v310 e310 => ?_)
                                          refine x_iconst hx hb dL_isForetold_311 (1) (by decide) (fun v311 e311 => ?_)
                                          refine x_isub hx hb dL_isForetold_312 (by omega) (by omega) (fun v312 e312 => ?_)
                                          refine x_calllM (va_runV (As := [.int v312]) (rest := []) ⟨hx, hb, hml, hown, hts⟩ (kX3_topAt l dC dI cI cJ cZ xa H.size u s4 hR hT4.1 v312) (cwV 1 hts gL_isForetold_X3_topAt rfl rfl rfl (by decide +kernel) ⟨Nat.le_of_ble_eq_true rfl, Nat.le_of_ble_eq_true rfl⟩) ⟨x_Mb, va_recv hK hP (ci := 3) (q0 := 0) rfl rfl, (fun U hU hW => ⟨rfl, by rw [hU], by rw [hU]; exact hP, va_K.moved hW.alike hK, hD.weaken (fun _ _ _ _ => trivial)⟩)⟩ rfl rfl hl.1 rfl (lv_room (Nat.le_of_ble_eq_true rfl)) dL_isForetold_313 ⟨Nat.le_of_ble_eq_true rfl, Nat.le_of_ble_eq_true rfl⟩) hS (j_fr hD hS hA) (fun r313 u H locs h313 hP1 hkk hS => ?_)
                                          clear hkk
                                          have hD : va_D A (wX cI cJ cZ xa u) := l_addr (wX_a u _) hD
                                          have hP : va_P (dC, dI) vwCl (wX cI cJ cZ xa u) H := hP1
                                          have hR := h313.1
                                          have g313 := h313.2
                                          have k313 : toaF s4 (mt s4 - 1) = ((1 : Nat) : Int) := tw_toa hT4 (a := 1) (b := 0) (x := mt s4 - 1) (by omega) (by omega) (Or.inr ⟨rfl, rfl⟩) hb3
                                          rw [show v312.toInt = mt s4 - 1 by omega, k313] at g313
                                          refine lv_iload hx hb dL_isForetold_316 (lv_at hl 3 rfl) ?_
                                          refine x_if_eq (tgt := 325) hx hb dL_isForetold_318 (by decide) (fun c318 => ?_) (fun c318 => ?_)
                                          · refine x_lconst hx hb dL_isForetold_325 (1) (by decide) (fun v325 e325 => ?_)
                                            refine x_lcmp_ne (tgt := 364) hx hb dL_isForetold_326 dL_isForetold_327 (by decide) (fun c326 => ?_) (fun c326 => ?_)
                                            · exfalso; omega
                                            · refine lv_aload hx hb dL_isForetold_330 (lv_at hl 5 rfl) ?_
                                              refine lv_lload hx hb dL_isForetold_332 (lv_at hl 4 rfl) ?_
                                              refine x_l2i hx hb dL_isForetold_334 (by omega) (by omega) (fun v334 e334 => ?_)
                                              refine lv_lload hx hb dL_isForetold_335 (lv_at hl 4 rfl) ?_
                                              refine x_l2i hx hb dL_isForetold_337 (by omega) (by omega) (fun v337 e337 => ?_)
                                              refine x_calllM (va_runV (As := [.int v334, .int v337]) (rest := []) ⟨hx, hb, hml, hown, hts⟩ (kX3_topChanges l dC dI cI cJ cZ xa H.size u s4 hR hT4.1 v334 v337) (cwV 2 hts gL_isForetold_X3_topChanges rfl rfl rfl (by decide +kernel) ⟨Nat.le_of_ble_eq_true rfl, Nat.le_of_ble_eq_true rfl⟩) ⟨x_Mb, va_recv hK hP (ci := 3) (q0 := 0) rfl rfl, (fun U hU hW => ⟨rfl, by rw [hU], by rw [hU]; exact hP, va_K.moved hW.alike hK, hD.weaken (fun _ _ _ _ => trivial)⟩)⟩ rfl rfl hl.1 rfl (lv_room (Nat.le_of_ble_eq_true rfl)) dL_isForetold_338 ⟨Nat.le_of_ble_eq_true rfl, Nat.le_of_ble_eq_true rfl⟩) hS (j_fr hD hS hA) (fun r338 u H locs h338 hP1 hkk hS => ?_)
                                              clear hkk
                                              have hD : va_D A (wX cI cJ cZ xa u) := l_addr (wX_a u _) hD
                                              have hP : va_P (dC, dI) vwCl (wX cI cJ cZ xa u) H := hP1
                                              have hR := h338.1
                                              have g338 := h338.2
                                              have k338 : tcsF s4 (mt s4) (mt s4) = 1 := tw_tcs hT4 (by omega) hb3
                                              rw [show v334.toInt = mt s4 by omega, show v337.toInt = mt s4 by omega, k338] at g338
                                              refine x_lconst hx hb dL_isForetold_341 (1) (by decide) (fun v341 e341 => ?_)
                                              refine x_lcmp_ne (tgt := 364) hx hb dL_isForetold_342 dL_isForetold_343 (by decide) (fun c342 => ?_) (fun c342 => ?_)
                                              · exfalso; omega
                                              · refine lv_aload hx hb dL_isForetold_346 (lv_at hl 5 rfl) ?_
                                                refine x_iconst hx hb dL_isForetold_348 (0) (by decide) (fun v348 e348 => ?_)
                                                refine x_iconst hx hb dL_isForetold_349 (1) (by decide) (fun v349 e349 => ?_)
                                                refine x_calllM (va_runV (As := [.int v348, .int v349]) (rest := []) ⟨hx, hb, hml, hown, hts⟩ (kX3_meeting l dC dI cI cJ cZ xa H.size u s4 hR hT4.1 v348 v349) (cwV 2 hts gL_isForetold_X3_meeting rfl rfl rfl (by decide +kernel) ⟨Nat.le_of_ble_eq_true rfl, Nat.le_of_ble_eq_true rfl⟩) ⟨x_Mb, va_recv hK hP (ci := 3) (q0 := 0) rfl rfl, (fun U hU hW => ⟨rfl, by rw [hU], by rw [hU]; exact hP, va_K.moved hW.alike hK, hD.weaken (fun _ _ _ _ => trivial)⟩)⟩ rfl rfl hl.1 rfl (lv_room (Nat.le_of_ble_eq_true rfl)) dL_isForetold_350 ⟨Nat.le_of_ble_eq_true rfl, Nat.le_of_ble_eq_true rfl⟩) hS (j_fr hD hS hA) (fun r350 u H locs h350 hP1 hkk hS => ?_)
                                                clear hkk
                                                have hD : va_D A (wX cI cJ cZ xa u) := l_addr (wX_a u _) hD
                                                have hP : va_P (dC, dI) vwCl (wX cI cJ cZ xa u) H := hP1
                                                have hR := h350.1
                                                have g350 := h350.2
                                                have k350 : metF s4 0 1 = tonF (eo2 s4 0 1) := tw_met hT4
                                                rw [e348, e349, k350, E4] at g350
                                                have k350b : tonF 1000001 = aNF := rfl
                                                rw [k350b] at g350
                                                refine x_ldc2 hx hb hown (hts (.constantLong RL 35 (-1000000000004)) (List.mem_of_getElem? (i := 6) rfl)) dL_isForetold_353 (-1000000000004) (by decide) (fun v353 e353 => ?_)
                                                refine x_lcmp_ne (tgt := 364) hx hb dL_isForetold_356 dL_isForetold_357 (by decide) (fun c356 => ?_) (fun c356 => ?_)
                                                · exfalso; omega
                                                · refine x_iconst hx hb dL_isForetold_360 (1) (by decide) (fun v360 e360 => ?_)
                                                  refine lv_goto (tgt := 365) hx hb dL_isForetold_361 (by decide) ?_
                                                  refine lv_istore (lv' := [(5, .int v360), (11, .long v162), (9, .long v150), (8, .int fi), (6, .long r53), (4, .ref ((xa 0))), (0, .int a), (1, .int b), (2, .int c), (3, .int d)]) hx hb dL_isForetold_365 hl (by decide) rfl (fun ls hl => ?_)
                                                  refine lv_goto (tgt := 412) hx hb dL_isForetold_367 (by decide) ?_
                                                  refine lv_iload hx hb dL_isForetold_412 (lv_at hl 0 rfl) ?_
                                                  exact x_zret hx hb hr hlocks hS () dL_isForetold_414 (fun t ht => trivial) (by omega) (by omega)
                                          · exfalso; omega
                                      · exfalso; omega
                                  · exfalso; omega
                              · exfalso; omega
                    · exfalso; omega
    · exfalso; omega
set_option maxHeartbeats 8000000 in
set_option maxRecDepth 100000 in
theorem fore_F {pg : Program} {l : Launch} {e : Env} {s : State} {mi : MethodId} {args : Array Value} {below : List Frame} {meth : Method} {co : Code} {dC : Nat → ClassId} {dI : Nat → Nat → Nat} {cI cJ cZ : ClassId} {A : Nat → Prop} {xa : Nat → Nat} (hx : pg.tables.exec = Jvm.exec) (hb : co.code = cL_isForetold) (hr : meth.sig.returnType = (some .boolean)) (hml : co.maxLocals = 13) (hown : s.vm.findClass RL = some mi.cls) (hts : ∀ w ∈ wsL_isForetold, w.before args s = true) (hlocks : meth.locks = false) (hA : ∀ q : Nat, s.heap.size ≤ q → A q) (hK : va_K (dC, dI) vwCl (tysN cI cJ cZ) s) (hN1 : va_Nw (.fieldLinkNest RX3 115 "MovingHeap$Heap" "exchanges" "J" "MovingHeap") s) (hN2 : va_Nw (.fieldLinkNest RX3 118 "MovingHeap$Heap" "topExchanges" "J" "MovingHeap") s) (u : CT) (s2 : MS) (H : Heap) (locs : List Loc) (hR : RC u s2) (hP : va_P (dC, dI) vwCl (wX cI cJ cZ xa u) H) (hD : va_D A (wX cI cJ cZ xa u)) (hS : va_S A s.heap H locs) (a b c d fi ok : Int32) (r53 : Int64) (ha1 : -1000 ≤ a.toInt) (ha2 : a.toInt ≤ 1000) (hb1 : -1000 ≤ b.toInt) (hb2 : b.toInt ≤ 1000) (hc1 : -20 ≤ c.toInt) (hc2 : c.toInt ≤ 20) (hd1 : -20 ≤ d.toInt) (hd2 : d.toInt ≤ 20) (hfi : fi.toInt = 1) (hok : ok.toInt = 1) (m2 : mt s2 = 0) (v0 : (mL s2).2.1 0 = a.toInt) (w0 : (mL s2).2.2 0 = c.toInt) (v1 : (mL s2).2.1 1 = b.toInt) (w1 : (mL s2).2.2 1 = d.toInt) (hT : Two s2 0 1 0) (g53b : r53.toInt = tonF (eo2 s2 0 1)) (ls : Array Slot) (hl : lv_has ls 13 [(8, .int fi), (6, .long r53), (5, .int ok), (4, .ref ((xa 0))), (0, .int a), (1, .int b), (2, .int c), (3, .int d)]) : W pg l e (headSpec wsL_isForetold ({ frames := 7, cells := 24, slots := 1347, locals := 169 })).room s mi args below meth co H locs 24 1347 (MQ below (va_Qi (fun (r : Int32) (_ : Unit) => r.toInt = 1) (fun _ _ => True) A) args s 24 1347 A) (F0 mi 70 ls []) := by
  have aN : aNF = -1000000000004 := rfl
  have hle := tw_le hT
  refine lv_iload hx hb dL_isForetold_70 (lv_at hl 2 rfl) ?_
  refine x_if_eq (tgt := 122) hx hb dL_isForetold_72 (by decide) (fun c72 => ?_) (fun c72 => ?_)
  · exfalso; omega
  · refine lv_aload hx hb dL_isForetold_75 (lv_at hl 3 rfl) ?_
    refine x_iconst hx hb dL_isForetold_77 (0) (by decide) (fun v77 e77 => ?_)
    refine x_calllM (va_runV (As := [.int v77]) (rest := []) ⟨hx, hb, hml, hown, hts⟩ (kX3_at l dC dI cI cJ cZ xa H.size u s2 hR hT.1 v77) (cwV 1 hts gL_isForetold_X3_at rfl rfl rfl (by decide +kernel) ⟨Nat.le_of_ble_eq_true rfl, Nat.le_of_ble_eq_true rfl⟩) ⟨x_Mb, va_recv hK hP (ci := 3) (q0 := 0) rfl rfl, (fun U hU hW => ⟨rfl, by rw [hU], by rw [hU]; exact hP, va_K.moved hW.alike hK, hD.weaken (fun _ _ _ _ => trivial)⟩)⟩ rfl rfl hl.1 rfl (lv_room (Nat.le_of_ble_eq_true rfl)) dL_isForetold_78 ⟨Nat.le_of_ble_eq_true rfl, Nat.le_of_ble_eq_true rfl⟩) hS (j_fr hD hS hA) (fun r78 u H locs h78 hP1 hkk hS => ?_)
    clear hkk
    have hD : va_D A (wX cI cJ cZ xa u) := l_addr (wX_a u _) hD
    have hP : va_P (dC, dI) vwCl (wX cI cJ cZ xa u) H := hP1
    have hR := h78.1
    have g78 := h78.2
    rw [e77, tw_at hT] at g78
    refine lv_iload hx hb dL_isForetold_81 (lv_at hl 0 rfl) ?_
    refine x_if_eq (tgt := 90) hx hb dL_isForetold_83 (by decide) (fun c83 => ?_) (fun c83 => ?_)
    · exfalso; omega
    · refine x_lconst hx hb dL_isForetold_86 (0) (by decide) (fun v86 e86 => ?_)
      refine lv_goto (tgt := 91) hx hb dL_isForetold_87 (by decide) ?_
      refine x_lcmp_ne (tgt := 122) hx hb dL_isForetold_91 dL_isForetold_92 (by decide) (fun c91 => ?_) (fun c91 => ?_)
      · exfalso; omega
      · refine lv_aload hx hb dL_isForetold_95 (lv_at hl 3 rfl) ?_
        refine x_calllM (va_runV (As := []) (rest := []) ⟨hx, hb, hml, hown, hts⟩ (kX3_topChange l dC dI cI cJ cZ xa H.size u s2 hR hT.1) (cwV 0 hts gL_isForetold_X3_topChange rfl rfl rfl (by decide +kernel) ⟨Nat.le_of_ble_eq_true rfl, Nat.le_of_ble_eq_true rfl⟩) ⟨x_Mb, va_recv hK hP (ci := 3) (q0 := 0) rfl rfl, (fun U hU hW => ⟨rfl, by rw [hU], by rw [hU]; exact hP, va_K.moved hW.alike hK, hD.weaken (fun _ _ _ _ => trivial)⟩)⟩ rfl rfl hl.1 rfl (lv_room (Nat.le_of_ble_eq_true rfl)) dL_isForetold_97 ⟨Nat.le_of_ble_eq_true rfl, Nat.le_of_ble_eq_true rfl⟩) hS (j_fr hD hS hA) (fun r97 u H locs h97 hP1 hkk hS => ?_)
        clear hkk
        have hD : va_D A (wX cI cJ cZ xa u) := l_addr (wX_a u _) hD
        have hP : va_P (dC, dI) vwCl (wX cI cJ cZ xa u) H := hP1
        have hR := h97.1
        have g97 := h97.2
        rw [tw_toc hT] at g97
        refine lv_lload hx hb dL_isForetold_100 (lv_at hl 1 rfl) ?_
        refine x_lcmp_ne (tgt := 122) hx hb dL_isForetold_102 dL_isForetold_103 (by decide) (fun c102 => ?_) (fun c102 => ?_)
        · exfalso; omega
        · refine lv_aload hx hb dL_isForetold_106 (lv_at hl 3 rfl) ?_
          refine x_iconst hx hb dL_isForetold_108 (1) (by decide) (fun v108 e108 => ?_)
          refine x_calllM (va_runV (As := [.int v108]) (rest := []) ⟨hx, hb, hml, hown, hts⟩ (kX3_failure l dC dI cI cJ cZ xa H.size u s2 hR hT.1 v108) (cwV 1 hts gL_isForetold_X3_failure rfl rfl rfl (by decide +kernel) ⟨Nat.le_of_ble_eq_true rfl, Nat.le_of_ble_eq_true rfl⟩) ⟨x_Mb, va_recv hK hP (ci := 3) (q0 := 0) rfl rfl, (fun U hU hW => ⟨rfl, by rw [hU], by rw [hU]; exact hP, va_K.moved hW.alike hK, hD.weaken (fun _ _ _ _ => trivial)⟩)⟩ rfl rfl hl.1 rfl (lv_room (Nat.le_of_ble_eq_true rfl)) dL_isForetold_109 ⟨Nat.le_of_ble_eq_true rfl, Nat.le_of_ble_eq_true rfl⟩) hS (j_fr hD hS hA) (fun r109 u H locs h109 hP1 hkk hS => ?_)
          clear hkk
          have hD : va_D A (wX cI cJ cZ xa u) := l_addr (wX_a u _) hD
          have hP : va_P (dC, dI) vwCl (wX cI cJ cZ xa u) H := hP1
          have hR := h109.1
          have g109 := h109.2
          have k109 : faiF s2 1 = tonF (eo2 s2 0 1) := tw_fai hT
          rw [e108, k109] at g109
          refine lv_lload hx hb dL_isForetold_112 (lv_at hl 1 rfl) ?_
          refine x_lcmp_ne (tgt := 122) hx hb dL_isForetold_114 dL_isForetold_115 (by decide) (fun c114 => ?_) (fun c114 => ?_)
          · exfalso; omega
          · refine x_iconst hx hb dL_isForetold_118 (1) (by decide) (fun v118 e118 => ?_)
            refine lv_goto (tgt := 123) hx hb dL_isForetold_119 (by decide) ?_
            refine lv_istore (lv' := [(5, .int v118), (8, .int fi), (6, .long r53), (4, .ref ((xa 0))), (0, .int a), (1, .int b), (2, .int c), (3, .int d)]) hx hb dL_isForetold_123 hl (by decide) rfl (fun ls hl => ?_)
            refine lv_lload hx hb dL_isForetold_125 (lv_at hl 2 rfl) ?_
            refine x_lconst hx hb dL_isForetold_127 (0) (by decide) (fun v127 e127 => ?_)
            refine x_lcmp_le (tgt := 370) hx hb dL_isForetold_128 dL_isForetold_129 (by decide) (fun c128 => ?_) (fun c128 => ?_)
            · have q370 := g_tonn g53b (by omega) (by omega)
              refine lv_iload hx hb dL_isForetold_370 (lv_at hl 0 rfl) ?_
              refine x_if_eq (tgt := 409) hx hb dL_isForetold_372 (by decide) (fun c372 => ?_) (fun c372 => ?_)
              · exfalso; omega
              · refine lv_aload hx hb dL_isForetold_375 (lv_at hl 3 rfl) ?_
                refine x_ldc hx hb hown (hts (.constant RL 83 (100000)) (List.mem_of_getElem? (i := 7) rfl)) dL_isForetold_377 (100000) (by decide) (fun v377 e377 => ?_)
                refine x_calllM (va_runV (As := [.int v377]) (rest := []) ⟨hx, hb, hml, hown, hts⟩ (kX3_pass l dC dI cI cJ cZ xa H.size u s2 hR hT.1 v377) (cwV 1 hts gL_isForetold_X3_pass rfl rfl rfl (by decide +kernel) ⟨Nat.le_of_ble_eq_true rfl, Nat.le_of_ble_eq_true rfl⟩) ⟨x_Mb, va_recv hK hP (ci := 3) (q0 := 0) rfl rfl, (fun U hU hW => ⟨rfl, by rw [hU], by rw [hU]; exact hP, va_K.moved hW.alike hK, hD.weaken (fun _ _ _ _ => trivial)⟩)⟩ rfl rfl hl.1 rfl (lv_room (Nat.le_of_ble_eq_true rfl)) dL_isForetold_379 ⟨Nat.le_of_ble_eq_true rfl, Nat.le_of_ble_eq_true rfl⟩) hS (j_fr hD hS hA) (fun r379 u H locs h379 hP1 hkk hS => ?_)
                clear hkk
                have hD : va_D A (wX cI cJ cZ xa u) := l_addr (wX_a u _) hD
                have hP : va_P (dC, dI) vwCl (wX cI cJ cZ xa u) H := hP1
                have hR := h379.1
                have g379 := h379.2
                have p5 := (tw_pas hT (x := v377.toInt) (by omega) (by omega) (by omega)).1
                rw [p5] at g379
                dsimp only at g379
                obtain ⟨s5, es5⟩ : ∃ z, z = (pasF s2 v377.toInt).2 := ⟨_, rfl⟩
                rw [← es5] at hR
                refine x_lconst hx hb dL_isForetold_382 (0) (by decide) (fun v382 e382 => ?_)
                refine x_lcmp_ne (tgt := 409) hx hb dL_isForetold_383 dL_isForetold_384 (by decide) (fun c383 => ?_) (fun c383 => ?_)
                · exfalso; omega
                · refine lv_lload hx hb dL_isForetold_387 (lv_at hl 2 rfl) ?_
                  refine x_ldc2 hx hb hown (hts (.constantLong RL 35 (-1000000000004)) (List.mem_of_getElem? (i := 6) rfl)) dL_isForetold_389 (-1000000000004) (by decide) (fun v389 e389 => ?_)
                  refine x_lcmp_eq (tgt := 405) hx hb dL_isForetold_392 dL_isForetold_393 (by decide) (fun c392 => ?_) (fun c392 => ?_)
                  · refine x_iconst hx hb dL_isForetold_405 (1) (by decide) (fun v405 e405 => ?_)
                    refine lv_goto (tgt := 410) hx hb dL_isForetold_406 (by decide) ?_
                    refine lv_istore (lv' := [(5, .int v405), (8, .int fi), (6, .long r53), (4, .ref ((xa 0))), (0, .int a), (1, .int b), (2, .int c), (3, .int d)]) hx hb dL_isForetold_410 hl (by decide) rfl (fun ls hl => ?_)
                    refine lv_iload hx hb dL_isForetold_412 (lv_at hl 0 rfl) ?_
                    exact x_zret hx hb hr hlocks hS () dL_isForetold_414 (fun t ht => trivial) (by omega) (by omega)
                  · refine lv_lload hx hb dL_isForetold_396 (lv_at hl 2 rfl) ?_
                    refine x_ldc2 hx hb hown (hts (.constantLong RL 81 (100000)) (List.mem_of_getElem? (i := 4) rfl)) dL_isForetold_398 (100000) (by decide) (fun v398 e398 => ?_)
                    refine x_lcmp_le (tgt := 409) hx hb dL_isForetold_401 dL_isForetold_402 (by decide) (fun c401 => ?_) (fun c401 => ?_)
                    · exfalso; omega
                    · refine x_iconst hx hb dL_isForetold_405 (1) (by decide) (fun v405 e405 => ?_)
                      refine lv_goto (tgt := 410) hx hb dL_isForetold_406 (by decide) ?_
                      refine lv_istore (lv' := [(5, .int v405), (8, .int fi), (6, .long r53), (4, .ref ((xa 0))), (0, .int a), (1, .int b), (2, .int c), (3, .int d)]) hx hb dL_isForetold_410 hl (by decide) rfl (fun ls hl => ?_)
                      refine lv_iload hx hb dL_isForetold_412 (lv_at hl 0 rfl) ?_
                      exact x_zret hx hb hr hlocks hS () dL_isForetold_414 (fun t ht => trivial) (by omega) (by omega)
            · refine lv_lload hx hb dL_isForetold_132 (lv_at hl 2 rfl) ?_
              refine x_ldc2 hx hb hown (hts (.constantLong RL 81 (100000)) (List.mem_of_getElem? (i := 4) rfl)) dL_isForetold_134 (100000) (by decide) (fun v134 e134 => ?_)
              refine x_lcmp_gt (tgt := 370) hx hb dL_isForetold_137 dL_isForetold_138 (by decide) (fun c137 => ?_) (fun c137 => ?_)
              · have q370 := g_tonn g53b (by omega) (by omega)
                refine lv_iload hx hb dL_isForetold_370 (lv_at hl 0 rfl) ?_
                refine x_if_eq (tgt := 409) hx hb dL_isForetold_372 (by decide) (fun c372 => ?_) (fun c372 => ?_)
                · exfalso; omega
                · refine lv_aload hx hb dL_isForetold_375 (lv_at hl 3 rfl) ?_
                  refine x_ldc hx hb hown (hts (.constant RL 83 (100000)) (List.mem_of_getElem? (i := 7) rfl)) dL_isForetold_377 (100000) (by decide) (fun v377 e377 => ?_)
                  refine x_calllM (va_runV (As := [.int v377]) (rest := []) ⟨hx, hb, hml, hown, hts⟩ (kX3_pass l dC dI cI cJ cZ xa H.size u s2 hR hT.1 v377) (cwV 1 hts gL_isForetold_X3_pass rfl rfl rfl (by decide +kernel) ⟨Nat.le_of_ble_eq_true rfl, Nat.le_of_ble_eq_true rfl⟩) ⟨x_Mb, va_recv hK hP (ci := 3) (q0 := 0) rfl rfl, (fun U hU hW => ⟨rfl, by rw [hU], by rw [hU]; exact hP, va_K.moved hW.alike hK, hD.weaken (fun _ _ _ _ => trivial)⟩)⟩ rfl rfl hl.1 rfl (lv_room (Nat.le_of_ble_eq_true rfl)) dL_isForetold_379 ⟨Nat.le_of_ble_eq_true rfl, Nat.le_of_ble_eq_true rfl⟩) hS (j_fr hD hS hA) (fun r379 u H locs h379 hP1 hkk hS => ?_)
                  clear hkk
                  have hD : va_D A (wX cI cJ cZ xa u) := l_addr (wX_a u _) hD
                  have hP : va_P (dC, dI) vwCl (wX cI cJ cZ xa u) H := hP1
                  have hR := h379.1
                  have g379 := h379.2
                  have p5 := (tw_pas hT (x := v377.toInt) (by omega) (by omega) (by omega)).1
                  rw [p5] at g379
                  dsimp only at g379
                  obtain ⟨s5, es5⟩ : ∃ z, z = (pasF s2 v377.toInt).2 := ⟨_, rfl⟩
                  rw [← es5] at hR
                  refine x_lconst hx hb dL_isForetold_382 (0) (by decide) (fun v382 e382 => ?_)
                  refine x_lcmp_ne (tgt := 409) hx hb dL_isForetold_383 dL_isForetold_384 (by decide) (fun c383 => ?_) (fun c383 => ?_)
                  · exfalso; omega
                  · refine lv_lload hx hb dL_isForetold_387 (lv_at hl 2 rfl) ?_
                    refine x_ldc2 hx hb hown (hts (.constantLong RL 35 (-1000000000004)) (List.mem_of_getElem? (i := 6) rfl)) dL_isForetold_389 (-1000000000004) (by decide) (fun v389 e389 => ?_)
                    refine x_lcmp_eq (tgt := 405) hx hb dL_isForetold_392 dL_isForetold_393 (by decide) (fun c392 => ?_) (fun c392 => ?_)
                    · refine x_iconst hx hb dL_isForetold_405 (1) (by decide) (fun v405 e405 => ?_)
                      refine lv_goto (tgt := 410) hx hb dL_isForetold_406 (by decide) ?_
                      refine lv_istore (lv' := [(5, .int v405), (8, .int fi), (6, .long r53), (4, .ref ((xa 0))), (0, .int a), (1, .int b), (2, .int c), (3, .int d)]) hx hb dL_isForetold_410 hl (by decide) rfl (fun ls hl => ?_)
                      refine lv_iload hx hb dL_isForetold_412 (lv_at hl 0 rfl) ?_
                      exact x_zret hx hb hr hlocks hS () dL_isForetold_414 (fun t ht => trivial) (by omega) (by omega)
                    · refine lv_lload hx hb dL_isForetold_396 (lv_at hl 2 rfl) ?_
                      refine x_ldc2 hx hb hown (hts (.constantLong RL 81 (100000)) (List.mem_of_getElem? (i := 4) rfl)) dL_isForetold_398 (100000) (by decide) (fun v398 e398 => ?_)
                      refine x_lcmp_le (tgt := 409) hx hb dL_isForetold_401 dL_isForetold_402 (by decide) (fun c401 => ?_) (fun c401 => ?_)
                      · exfalso; omega
                      · refine x_iconst hx hb dL_isForetold_405 (1) (by decide) (fun v405 e405 => ?_)
                        refine lv_goto (tgt := 410) hx hb dL_isForetold_406 (by decide) ?_
                        refine lv_istore (lv' := [(5, .int v405), (8, .int fi), (6, .long r53), (4, .ref ((xa 0))), (0, .int a), (1, .int b), (2, .int c), (3, .int d)]) hx hb dL_isForetold_410 hl (by decide) rfl (fun ls hl => ?_)
                        refine lv_iload hx hb dL_isForetold_412 (lv_at hl 0 rfl) ?_
                        exact x_zret hx hb hr hlocks hS () dL_isForetold_414 (fun t ht => trivial) (by omega) (by omega)
              · have hm := g_tonp g53b (by omega)
                refine lv_iload_n hx hb dL_isForetold_141 rfl (lv_at hl 4 rfl) ?_
                refine x_i2l hx hb dL_isForetold_142 (fun v142 e142 => ?_)
                refine lv_lload hx hb dL_isForetold_143 (lv_at hl 2 rfl) ?_
                refine x_lconst hx hb dL_isForetold_145 (1) (by decide) (fun v145 e145 => ?_)
                refine x_lsub hx hb dL_isForetold_146 (by omega) (by omega) (fun v146 e146 => ?_)
                refine lv_iload_n hx hb dL_isForetold_147 rfl (lv_at hl 6 rfl) ?_
                refine x_i2l hx hb dL_isForetold_148 (fun v148 e148 => ?_)
                have q149 := g_mb (t := v146.toInt) (x := v148.toInt) (by omega) (by omega) (by omega) (by omega)
                refine x_lmul hx hb dL_isForetold_149 (by omega) (by omega) (fun v149 e149 => ?_)
                refine x_ladd hx hb dL_isForetold_150 (by omega) (by omega) (fun v150 e150 => ?_)
                refine lv_lstore (lv' := [(9, .long v150), (5, .int v118), (8, .int fi), (6, .long r53), (4, .ref ((xa 0))), (0, .int a), (1, .int b), (2, .int c), (3, .int d)]) hx hb dL_isForetold_151 hl (by decide) rfl (fun ls hl => ?_)
                refine lv_iload_n hx hb dL_isForetold_153 rfl (lv_at hl 6 rfl) ?_
                refine x_i2l hx hb dL_isForetold_154 (fun v154 e154 => ?_)
                refine lv_lload hx hb dL_isForetold_155 (lv_at hl 3 rfl) ?_
                refine x_lconst hx hb dL_isForetold_157 (1) (by decide) (fun v157 e157 => ?_)
                refine x_lsub hx hb dL_isForetold_158 (by omega) (by omega) (fun v158 e158 => ?_)
                refine lv_iload_n hx hb dL_isForetold_159 rfl (lv_at hl 8 rfl) ?_
                refine x_i2l hx hb dL_isForetold_160 (fun v160 e160 => ?_)
                have q161 := g_mb (t := v158.toInt) (x := v160.toInt) (by omega) (by omega) (by omega) (by omega)
                refine x_lmul hx hb dL_isForetold_161 (by omega) (by omega) (fun v161 e161 => ?_)
                refine x_ladd hx hb dL_isForetold_162 (by omega) (by omega) (fun v162 e162 => ?_)
                refine lv_lstore (lv' := [(11, .long v162), (9, .long v150), (5, .int v118), (8, .int fi), (6, .long r53), (4, .ref ((xa 0))), (0, .int a), (1, .int b), (2, .int c), (3, .int d)]) hx hb dL_isForetold_163 hl (by decide) rfl (fun ls hl => ?_)
                refine lv_iload hx hb dL_isForetold_165 (lv_at hl 2 rfl) ?_
                refine x_if_eq (tgt := 364) hx hb dL_isForetold_167 (by decide) (fun c167 => ?_) (fun c167 => ?_)
                · exfalso; omega
                · refine lv_aload hx hb dL_isForetold_170 (lv_at hl 5 rfl) ?_
                  refine lv_lload hx hb dL_isForetold_172 (lv_at hl 4 rfl) ?_
                  refine x_l2i hx hb dL_isForetold_174 (by omega) (by omega) (fun v174 e174 => ?_)
                  refine x_iconst hx hb dL_isForetold_175 (1) (by decide) (fun v175 e175 => ?_)
                  refine x_isub hx hb dL_isForetold_176 (by omega) (by omega) (fun v176 e176 => ?_)
                  refine x_calllM (va_runV (As := [.int v176]) (rest := []) ⟨hx, hb, hml, hown, hts⟩ (kX3_pass l dC dI cI cJ cZ xa H.size u s2 hR hT.1 v176) (cwV 1 hts gL_isForetold_X3_pass rfl rfl rfl (by decide +kernel) ⟨Nat.le_of_ble_eq_true rfl, Nat.le_of_ble_eq_true rfl⟩) ⟨x_Mb, va_recv hK hP (ci := 3) (q0 := 0) rfl rfl, (fun U hU hW => ⟨rfl, by rw [hU], by rw [hU]; exact hP, va_K.moved hW.alike hK, hD.weaken (fun _ _ _ _ => trivial)⟩)⟩ rfl rfl hl.1 rfl (lv_room (Nat.le_of_ble_eq_true rfl)) dL_isForetold_177 ⟨Nat.le_of_ble_eq_true rfl, Nat.le_of_ble_eq_true rfl⟩) hS (j_fr hD hS hA) (fun r177 u H locs h177 hP1 hkk hS => ?_)
                  clear hkk
                  have hD : va_D A (wX cI cJ cZ xa u) := l_addr (wX_a u _) hD
                  have hP : va_P (dC, dI) vwCl (wX cI cJ cZ xa u) H := hP1
                  have hR := h177.1
                  have g177 := h177.2
                  have p3 := tw_pas hT (x := v176.toInt) (by omega) (by omega) (by omega)
                  obtain ⟨p31, hT3, p33⟩ := p3
                  have p32 : (pasF s2 v176.toInt).2 = setT s2 v176.toInt := by rw [p31]
                  have m3 : mt (setT s2 v176.toInt) = v176.toInt := rfl
                  have L3 : mL (setT s2 v176.toInt) = mL s2 := rfl
                  rw [p31] at g177
                  dsimp only at g177
                  rw [← p32] at hT3 p33 m3 L3
                  obtain ⟨s3, es3⟩ : ∃ z, z = (pasF s2 v176.toInt).2 := ⟨_, rfl⟩
                  rw [← es3] at hR hT3 p33 m3 L3
                  refine x_lconst hx hb dL_isForetold_180 (0) (by decide) (fun v180 e180 => ?_)
                  refine x_lcmp_ne (tgt := 364) hx hb dL_isForetold_181 dL_isForetold_182 (by decide) (fun c181 => ?_) (fun c181 => ?_)
                  · exfalso; omega
                  · refine lv_aload hx hb dL_isForetold_185 (lv_at hl 5 rfl) ?_
                    refine x_iconst hx hb dL_isForetold_187 (0) (by decide) (fun v187 e187 => ?_)
                    refine x_calllM (va_runV (As := [.int v187]) (rest := []) ⟨hx, hb, hml, hown, hts⟩ (kX3_at l dC dI cI cJ cZ xa H.size u s3 hR hT3.1 v187) (cwV 1 hts gL_isForetold_X3_at rfl rfl rfl (by decide +kernel) ⟨Nat.le_of_ble_eq_true rfl, Nat.le_of_ble_eq_true rfl⟩) ⟨x_Mb, va_recv hK hP (ci := 3) (q0 := 0) rfl rfl, (fun U hU hW => ⟨rfl, by rw [hU], by rw [hU]; exact hP, va_K.moved hW.alike hK, hD.weaken (fun _ _ _ _ => trivial)⟩)⟩ rfl rfl hl.1 rfl (lv_room (Nat.le_of_ble_eq_true rfl)) dL_isForetold_188 ⟨Nat.le_of_ble_eq_true rfl, Nat.le_of_ble_eq_true rfl⟩) hS (j_fr hD hS hA) (fun r188 u H locs h188 hP1 hkk hS => ?_)
                    clear hkk
                    have hD : va_D A (wX cI cJ cZ xa u) := l_addr (wX_a u _) hD
                    have hP : va_P (dC, dI) vwCl (wX cI cJ cZ xa u) H := hP1
                    have hR := h188.1
                    have g188 := h188.2
                    rw [e187, tw_at hT3] at g188
                    refine lv_iload hx hb dL_isForetold_191 (lv_at hl 3 rfl) ?_
                    refine x_if_eq (tgt := 200) hx hb dL_isForetold_193 (by decide) (fun c193 => ?_) (fun c193 => ?_)
                    · exfalso; omega
                    · refine x_lconst hx hb dL_isForetold_196 (0) (by decide) (fun v196 e196 => ?_)
                      refine lv_goto (tgt := 201) hx hb dL_isForetold_197 (by decide) ?_
                      refine x_lcmp_ne (tgt := 364) hx hb dL_isForetold_201 dL_isForetold_202 (by decide) (fun c201 => ?_) (fun c201 => ?_)
                      · exfalso; omega
                      · refine lv_aload hx hb dL_isForetold_205 (lv_at hl 5 rfl) ?_
                        refine x_iconst hx hb dL_isForetold_207 (0) (by decide) (fun v207 e207 => ?_)
                        refine x_iconst hx hb dL_isForetold_208 (0) (by decide) (fun v208 e208 => ?_)
                        refine x_calllM (va_runV (As := [.int v207, .int v208]) (rest := []) ⟨hx, hb, hml, hown, hts⟩ (kX3_point l dC dI cI cJ cZ xa H.size u s3 hR hT3.1 v207 v208) (cwV 2 hts gL_isForetold_X3_point rfl rfl rfl (by decide +kernel) ⟨Nat.le_of_ble_eq_true rfl, Nat.le_of_ble_eq_true rfl⟩) ⟨x_Mb, va_recv hK hP (ci := 3) (q0 := 0) rfl rfl, (fun U hU hW => ⟨rfl, by rw [hU], by rw [hU]; exact hP, va_K.moved hW.alike hK, hD.weaken (fun _ _ _ _ => trivial)⟩)⟩ rfl rfl hl.1 rfl (lv_room (Nat.le_of_ble_eq_true rfl)) dL_isForetold_209 ⟨Nat.le_of_ble_eq_true rfl, Nat.le_of_ble_eq_true rfl⟩) hS (j_fr hD hS hA) (fun r209 u H locs h209 hP1 hkk hS => ?_)
                        clear hkk
                        have hD : va_D A (wX cI cJ cZ xa u) := l_addr (wX_a u _) hD
                        have hP : va_P (dC, dI) vwCl (wX cI cJ cZ xa u) H := hP1
                        have hR := h209.1
                        have g209 := h209.2
                        have k209 : ptF s3 0 0 = (mL s3).2.1 0 + (mL s3).2.2 0 * mt s3 := tw_v0 hT3 (p := 0) (Or.inl rfl)
                        rw [e207, e208, k209, L3, v0, w0, m3] at g209
                        have j209 : c.toInt * v176.toInt = v146.toInt * v148.toInt := by rw [show v176.toInt = v146.toInt by omega, show c.toInt = v148.toInt by omega, Int.mul_comm]
                        rw [j209] at g209
                        refine lv_lload hx hb dL_isForetold_212 (lv_at hl 1 rfl) ?_
                        refine x_lcmp_ne (tgt := 364) hx hb dL_isForetold_214 dL_isForetold_215 (by decide) (fun c214 => ?_) (fun c214 => ?_)
                        · exfalso; omega
                        · refine lv_aload hx hb dL_isForetold_218 (lv_at hl 5 rfl) ?_
                          refine x_iconst hx hb dL_isForetold_220 (1) (by decide) (fun v220 e220 => ?_)
                          refine x_iconst hx hb dL_isForetold_221 (0) (by decide) (fun v221 e221 => ?_)
                          refine x_calllM (va_runV (As := [.int v220, .int v221]) (rest := []) ⟨hx, hb, hml, hown, hts⟩ (kX3_point l dC dI cI cJ cZ xa H.size u s3 hR hT3.1 v220 v221) (cwV 2 hts gL_isForetold_X3_point rfl rfl rfl (by decide +kernel) ⟨Nat.le_of_ble_eq_true rfl, Nat.le_of_ble_eq_true rfl⟩) ⟨x_Mb, va_recv hK hP (ci := 3) (q0 := 0) rfl rfl, (fun U hU hW => ⟨rfl, by rw [hU], by rw [hU]; exact hP, va_K.moved hW.alike hK, hD.weaken (fun _ _ _ _ => trivial)⟩)⟩ rfl rfl hl.1 rfl (lv_room (Nat.le_of_ble_eq_true rfl)) dL_isForetold_222 ⟨Nat.le_of_ble_eq_true rfl, Nat.le_of_ble_eq_true rfl⟩) hS (j_fr hD hS hA) (fun r222 u H locs h222 hP1 hkk hS => ?_)
                          clear hkk
                          have hD : va_D A (wX cI cJ cZ xa u) := l_addr (wX_a u _) hD
                          have hP : va_P (dC, dI) vwCl (wX cI cJ cZ xa u) H := hP1
                          have hR := h222.1
                          have g222 := h222.2
                          have k222 : ptF s3 1 0 = (mL s3).2.1 1 + (mL s3).2.2 1 * mt s3 := tw_v0 hT3 (p := 1) (Or.inr rfl)
                          rw [e220, e221, k222, L3, v1, w1, m3] at g222
                          have j222 : d.toInt * v176.toInt = v158.toInt * v160.toInt := by rw [show v176.toInt = v158.toInt by omega, show d.toInt = v160.toInt by omega, Int.mul_comm]
                          rw [j222] at g222
                          refine lv_lload hx hb dL_isForetold_225 (lv_at hl 0 rfl) ?_
                          refine x_lcmp_ne (tgt := 364) hx hb dL_isForetold_227 dL_isForetold_228 (by decide) (fun c227 => ?_) (fun c227 => ?_)
                          · exfalso; omega
                          · refine lv_aload hx hb dL_isForetold_231 (lv_at hl 5 rfl) ?_
                            refine x_calllM (va_runV (As := []) (rest := []) ⟨hx, hb, hml, hown, hts⟩ (kX3_step l dC dI cI cJ cZ xa H.size u s3 hR hT3.1) (cwV 0 hts gL_isForetold_X3_step rfl rfl rfl (by decide +kernel) ⟨Nat.le_of_ble_eq_true rfl, Nat.le_of_ble_eq_true rfl⟩) ⟨x_Mb, va_recv hK hP (ci := 3) (q0 := 0) rfl rfl, (fun U hU hW => ⟨rfl, by rw [hU], by rw [hU]; exact hP, va_K.moved hW.alike hK, hD.weaken (fun _ _ _ _ => trivial)⟩)⟩ rfl rfl hl.1 rfl (lv_room (Nat.le_of_ble_eq_true rfl)) dL_isForetold_233 ⟨Nat.le_of_ble_eq_true rfl, Nat.le_of_ble_eq_true rfl⟩) hS (j_fr hD hS hA) (fun r233 u H locs h233 hP1 hkk hS => ?_)
                            clear hkk
                            have hD : va_D A (wX cI cJ cZ xa u) := l_addr (wX_a u _) hD
                            have hP : va_P (dC, dI) vwCl (wX cI cJ cZ xa u) H := hP1
                            have hR := h233.1
                            have g233 := h233.2
                            have z4 := tw_ste hT3 (by omega) (by omega)
                            obtain ⟨s4, es4⟩ : ∃ z, z = (steF s3).2 := ⟨_, rfl⟩
                            rw [← es4] at hR z4
                            obtain ⟨p4, hT4, m4, L4, E4⟩ := z4
                            rw [p4] at g233
                            have hb3 : bef (mL s4).2.1 (mL s4).2.2 (mt s4 - 1) 0 1 := by rw [L4, show mt s4 - 1 = mt s3 by omega]; exact tw_bef hT3
                            refine lv_lload hx hb dL_isForetold_236 (lv_at hl 4 rfl) ?_
                            refine x_lcmp_ne (tgt := 364) hx hb dL_isForetold_238 dL_isForetold_239 (by decide) (fun c238 => ?_) (fun c238 => ?_)
                            · exfalso; omega
                            · refine lv_aload hx hb dL_isForetold_242 (lv_at hl 5 rfl) ?_
                              refine x_iconst hx hb dL_isForetold_244 (0) (by decide) (fun v244 e244 => ?_)
                              refine x_calllM (va_runV (As := [.int v244]) (rest := []) ⟨hx, hb, hml, hown, hts⟩ (kX3_at l dC dI cI cJ cZ xa H.size u s4 hR hT4.1 v244) (cwV 1 hts gL_isForetold_X3_at rfl rfl rfl (by decide +kernel) ⟨Nat.le_of_ble_eq_true rfl, Nat.le_of_ble_eq_true rfl⟩) ⟨x_Mb, va_recv hK hP (ci := 3) (q0 := 0) rfl rfl, (fun U hU hW => ⟨rfl, by rw [hU], by rw [hU]; exact hP, va_K.moved hW.alike hK, hD.weaken (fun _ _ _ _ => trivial)⟩)⟩ rfl rfl hl.1 rfl (lv_room (Nat.le_of_ble_eq_true rfl)) dL_isForetold_245 ⟨Nat.le_of_ble_eq_true rfl, Nat.le_of_ble_eq_true rfl⟩) hS (j_fr hD hS hA) (fun r245 u H locs h245 hP1 hkk hS => ?_)
                              clear hkk
                              have hD : va_D A (wX cI cJ cZ xa u) := l_addr (wX_a u _) hD
                              have hP : va_P (dC, dI) vwCl (wX cI cJ cZ xa u) H := hP1
                              have hR := h245.1
                              have g245 := h245.2
                              rw [e244, tw_at hT4] at g245
                              refine lv_iload hx hb dL_isForetold_248 (lv_at hl 3 rfl) ?_
                              refine x_if_eq (tgt := 257) hx hb dL_isForetold_250 (by decide) (fun c250 => ?_) (fun c250 => ?_)
                              · exfalso; omega
                              · refine x_lconst hx hb dL_isForetold_253 (1) (by decide) (fun v253 e253 => ?_)
                                refine lv_goto (tgt := 258) hx hb dL_isForetold_254 (by decide) ?_
                                refine x_lcmp_ne (tgt := 364) hx hb dL_isForetold_258 dL_isForetold_259 (by decide) (fun c258 => ?_) (fun c258 => ?_)
                                · exfalso; omega
                                · refine lv_aload hx hb dL_isForetold_262 (lv_at hl 5 rfl) ?_
                                  refine x_iconst hx hb dL_isForetold_264 (0) (by decide) (fun v264 e264 => ?_)
                                  refine x_calllM (va_runV (As := [.int v264]) (rest := []) ⟨hx, hb, hml, hown, hts⟩ (kX3_count l dC dI cI cJ cZ xa H.size u s4 hR hT4.1 v264) (cwV 1 hts gL_isForetold_X3_count rfl rfl rfl (by decide +kernel) ⟨Nat.le_of_ble_eq_true rfl, Nat.le_of_ble_eq_true rfl⟩) ⟨(x_Nb rfl rfl), va_recv hK hP (ci := 3) (q0 := 0) rfl rfl, (fun U hU hW => ⟨rfl, by rw [hU], by rw [hU]; exact hP, va_K.moved hW.alike hK, hD.weaken (fun _ _ _ _ => trivial), va_Nw.warmF hW hN1, va_Nw.warmF hW hN2⟩)⟩ rfl rfl hl.1 rfl (lv_room (Nat.le_of_ble_eq_true rfl)) dL_isForetold_265 ⟨Nat.le_of_ble_eq_true rfl, Nat.le_of_ble_eq_true rfl⟩) hS (j_fr hD hS hA) (fun r265 u H locs h265 hP1 hkk hS => ?_)
                                  clear hkk
                                  have hD : va_D A (wX cI cJ cZ xa u) := l_addr (wX_a u _) hD
                                  have hP : va_P (dC, dI) vwCl (wX cI cJ cZ xa u) H := hP1
                                  have hR := h265.1
                                  have g265 := h265.2
                                  rw [e264] at g265
                                  unfold couF at g265
                                  rw [if_pos rfl, hT4.2.2.2.2.2.2.2.2] at g265
                                  refine lv_iload hx hb dL_isForetold_268 (lv_at hl 3 rfl) ?_
                                  refine x_if_eq (tgt := 277) hx hb dL_isForetold_270 (by decide) (fun c270 => ?_) (fun c270 => ?_)
                                  · exfalso; omega
                                  · refine x_lconst hx hb dL_isForetold_273 (1) (by decide) (fun v273 e273 => ?_)
                                    refine lv_goto (tgt := 280) hx hb dL_isForetold_274 (by decide) ?_
                                    refine x_lcmp_ne (tgt := 364) hx hb dL_isForetold_280 dL_isForetold_281 (by decide) (fun c280 => ?_) (fun c280 => ?_)
                                    · exfalso; omega
                                    · refine lv_aload hx hb dL_isForetold_284 (lv_at hl 5 rfl) ?_
                                      refine lv_lload hx hb dL_isForetold_286 (lv_at hl 4 rfl) ?_
                                      refine x_l2i hx hb dL_isForetold_288 (by omega) (by omega) (fun v288 e288 => ?_)
                                      refine x_calllM (va_runV (As := [.int v288]) (rest := []) ⟨hx, hb, hml, hown, hts⟩ (kX3_topAt l dC dI cI cJ cZ xa H.size u s4 hR hT4.1 v288) (cwV 1 hts gL_isForetold_X3_topAt rfl rfl rfl (by decide +kernel) ⟨Nat.le_of_ble_eq_true rfl, Nat.le_of_ble_eq_true rfl⟩) ⟨x_Mb, va_recv hK hP (ci := 3) (q0 := 0) rfl rfl, (fun U hU hW => ⟨rfl, by rw [hU], by rw [hU]; exact hP, va_K.moved hW.alike hK, hD.weaken (fun _ _ _ _ => trivial)⟩)⟩ rfl rfl hl.1 rfl (lv_room (Nat.le_of_ble_eq_true rfl)) dL_isForetold_289 ⟨Nat.le_of_ble_eq_true rfl, Nat.le_of_ble_eq_true rfl⟩) hS (j_fr hD hS hA) (fun r289 u H locs h289 hP1 hkk hS => ?_)
                                      clear hkk
                                      have hD : va_D A (wX cI cJ cZ xa u) := l_addr (wX_a u _) hD
                                      have hP : va_P (dC, dI) vwCl (wX cI cJ cZ xa u) H := hP1
                                      have hR := h289.1
                                      have g289 := h289.2
                                      have k289 : toaF s4 (mt s4) = ((1 : Nat) : Int) := tw_toa hT4 (a := 1) (b := 0) (by omega) (Int.le_refl _) (Or.inr ⟨rfl, rfl⟩) (tw_bef hT4)
                                      rw [show v288.toInt = mt s4 by omega, k289] at g289
                                      refine lv_iload hx hb dL_isForetold_292 (lv_at hl 3 rfl) ?_
                                      refine x_if_eq (tgt := 301) hx hb dL_isForetold_294 (by decide) (fun c294 => ?_) (fun c294 => ?_)
                                      · exfalso; omega
                                      · refine x_lconst hx hb dL_isForetold_297 (1) (by decide) (fun v297 e297 => ?_)
                                        refine lv_goto (tgt := 302) hx hb dL_isForetold_298 (by decide) ?_
                                        refine x_lcmp_ne (tgt := 364) hx hb dL_isForetold_302 dL_isForetold_303 (by decide) (fun c302 => ?_) (fun c302 => ?_)
                                        · exfalso; omega
                                        · refine lv_aload hx hb dL_isForetold_306 (lv_at hl 5 rfl) ?_
                                          refine lv_lload hx hb dL_isForetold_308 (lv_at hl 4 rfl) ?_
                                          refine x_l2i hx hb dL_isForetold_310 (by omega) (by omega) (fun v310 e310 => ?_)
                                          refine x_iconst hx hb dL_isForetold_311 (1) (by decide) (fun v311 e311 => ?_)
                                          refine x_isub hx hb dL_isForetold_312 (by omega) (by omega) (fun v312 e312 => ?_)
                                          refine x_calllM (va_runV (As := [.int v312]) (rest := []) ⟨hx, hb, hml, hown, hts⟩ (kX3_topAt l dC dI cI cJ cZ xa H.size u s4 hR hT4.1 v312) (cwV 1 hts gL_isForetold_X3_topAt rfl rfl rfl (by decide +kernel) ⟨Nat.le_of_ble_eq_true rfl, Nat.le_of_ble_eq_true rfl⟩) ⟨x_Mb, va_recv hK hP (ci := 3) (q0 := 0) rfl rfl, (fun U hU hW => ⟨rfl, by rw [hU], by rw [hU]; exact hP, va_K.moved hW.alike hK, hD.weaken (fun _ _ _ _ => trivial)⟩)⟩ rfl rfl hl.1 rfl (lv_room (Nat.le_of_ble_eq_true rfl)) dL_isForetold_313 ⟨Nat.le_of_ble_eq_true rfl, Nat.le_of_ble_eq_true rfl⟩) hS (j_fr hD hS hA) (fun r313 u H locs h313 hP1 hkk hS => ?_)
                                          clear hkk
                                          have hD : va_D A (wX cI cJ cZ xa u) := l_addr (wX_a u _) hD
                                          have hP : va_P (dC, dI) vwCl (wX cI cJ cZ xa u) H := hP1
                                          have hR := h313.1
                                          have g313 := h313.2
                                          have k313 : toaF s4 (mt s4 - 1) = ((0 : Nat) : Int) := tw_toa hT4 (a := 0) (b := 1) (x := mt s4 - 1) (by omega) (by omega) (Or.inl ⟨rfl, rfl⟩) hb3
                                          rw [show v312.toInt = mt s4 - 1 by omega, k313] at g313
                                          refine lv_iload hx hb dL_isForetold_316 (lv_at hl 3 rfl) ?_
                                          refine x_if_eq (tgt := 325) hx hb dL_isForetold_318 (by decide) (fun c318 => ?_) (fun c318 => ?_)
                                          · exfalso; omega
                                          · refine x_lconst hx hb dL_isForetold_321 (0) (by decide) (fun v321 e321 => ?_)
                                            refine lv_goto (tgt := 326) hx hb dL_isForetold_322 (by decide) ?_
                                            refine x_lcmp_ne (tgt := 364) hx hb dL_isForetold_326 dL_isForetold_327 (by decide) (fun c326 => ?_) (fun c326 => ?_)
                                            · exfalso; omega
                                            · refine lv_aload hx hb dL_isForetold_330 (lv_at hl 5 rfl) ?_
                                              refine lv_lload hx hb dL_isForetold_332 (lv_at hl 4 rfl) ?_
                                              refine x_l2i hx hb dL_isForetold_334 (by omega) (by omega) (fun v334 e334 => ?_)
                                              refine lv_lload hx hb dL_isForetold_335 (lv_at hl 4 rfl) ?_
                                              refine x_l2i hx hb dL_isForetold_337 (by omega) (by omega) (fun v337 e337 => ?_)
                                              refine x_calllM (va_runV (As := [.int v334, .int v337]) (rest := []) ⟨hx, hb, hml, hown, hts⟩ (kX3_topChanges l dC dI cI cJ cZ xa H.size u s4 hR hT4.1 v334 v337) (cwV 2 hts gL_isForetold_X3_topChanges rfl rfl rfl (by decide +kernel) ⟨Nat.le_of_ble_eq_true rfl, Nat.le_of_ble_eq_true rfl⟩) ⟨x_Mb, va_recv hK hP (ci := 3) (q0 := 0) rfl rfl, (fun U hU hW => ⟨rfl, by rw [hU], by rw [hU]; exact hP, va_K.moved hW.alike hK, hD.weaken (fun _ _ _ _ => trivial)⟩)⟩ rfl rfl hl.1 rfl (lv_room (Nat.le_of_ble_eq_true rfl)) dL_isForetold_338 ⟨Nat.le_of_ble_eq_true rfl, Nat.le_of_ble_eq_true rfl⟩) hS (j_fr hD hS hA) (fun r338 u H locs h338 hP1 hkk hS => ?_)
                                              clear hkk
                                              have hD : va_D A (wX cI cJ cZ xa u) := l_addr (wX_a u _) hD
                                              have hP : va_P (dC, dI) vwCl (wX cI cJ cZ xa u) H := hP1
                                              have hR := h338.1
                                              have g338 := h338.2
                                              have k338 : tcsF s4 (mt s4) (mt s4) = 1 := tw_tcs hT4 (by omega) hb3
                                              rw [show v334.toInt = mt s4 by omega, show v337.toInt = mt s4 by omega, k338] at g338
                                              refine x_lconst hx hb dL_isForetold_341 (1) (by decide) (fun v341 e341 => ?_)
                                              refine x_lcmp_ne (tgt := 364) hx hb dL_isForetold_342 dL_isForetold_343 (by decide) (fun c342 => ?_) (fun c342 => ?_)
                                              · exfalso; omega
                                              · refine lv_aload hx hb dL_isForetold_346 (lv_at hl 5 rfl) ?_
                                                refine x_iconst hx hb dL_isForetold_348 (0) (by decide) (fun v348 e348 => ?_)
                                                refine x_iconst hx hb dL_isForetold_349 (1) (by decide) (fun v349 e349 => ?_)
                                                refine x_calllM (va_runV (As := [.int v348, .int v349]) (rest := []) ⟨hx, hb, hml, hown, hts⟩ (kX3_meeting l dC dI cI cJ cZ xa H.size u s4 hR hT4.1 v348 v349) (cwV 2 hts gL_isForetold_X3_meeting rfl rfl rfl (by decide +kernel) ⟨Nat.le_of_ble_eq_true rfl, Nat.le_of_ble_eq_true rfl⟩) ⟨x_Mb, va_recv hK hP (ci := 3) (q0 := 0) rfl rfl, (fun U hU hW => ⟨rfl, by rw [hU], by rw [hU]; exact hP, va_K.moved hW.alike hK, hD.weaken (fun _ _ _ _ => trivial)⟩)⟩ rfl rfl hl.1 rfl (lv_room (Nat.le_of_ble_eq_true rfl)) dL_isForetold_350 ⟨Nat.le_of_ble_eq_true rfl, Nat.le_of_ble_eq_true rfl⟩) hS (j_fr hD hS hA) (fun r350 u H locs h350 hP1 hkk hS => ?_)
                                                clear hkk
                                                have hD : va_D A (wX cI cJ cZ xa u) := l_addr (wX_a u _) hD
                                                have hP : va_P (dC, dI) vwCl (wX cI cJ cZ xa u) H := hP1
                                                have hR := h350.1
                                                have g350 := h350.2
                                                have k350 : metF s4 0 1 = tonF (eo2 s4 1 0) := tw_met hT4
                                                rw [e348, e349, k350, E4] at g350
                                                have k350b : tonF 1000001 = aNF := rfl
                                                rw [k350b] at g350
                                                refine x_ldc2 hx hb hown (hts (.constantLong RL 35 (-1000000000004)) (List.mem_of_getElem? (i := 6) rfl)) dL_isForetold_353 (-1000000000004) (by decide) (fun v353 e353 => ?_)
                                                refine x_lcmp_ne (tgt := 364) hx hb dL_isForetold_356 dL_isForetold_357 (by decide) (fun c356 => ?_) (fun c356 => ?_)
                                                · exfalso; omega
                                                · refine x_iconst hx hb dL_isForetold_360 (1) (by decide) (fun v360 e360 => ?_)
                                                  refine lv_goto (tgt := 365) hx hb dL_isForetold_361 (by decide) ?_
                                                  refine lv_istore (lv' := [(5, .int v360), (11, .long v162), (9, .long v150), (8, .int fi), (6, .long r53), (4, .ref ((xa 0))), (0, .int a), (1, .int b), (2, .int c), (3, .int d)]) hx hb dL_isForetold_365 hl (by decide) rfl (fun ls hl => ?_)
                                                  refine lv_goto (tgt := 412) hx hb dL_isForetold_367 (by decide) ?_
                                                  refine lv_iload hx hb dL_isForetold_412 (lv_at hl 0 rfl) ?_
                                                  exact x_zret hx hb hr hlocks hS () dL_isForetold_414 (fun t ht => trivial) (by omega) (by omega)
set_option maxHeartbeats 8000000 in
set_option maxRecDepth 100000 in
theorem fore_body {pg : Program} {l : Launch} {e : Env} {s : State} {mi : MethodId} {args : Array Value} {below : List Frame} {meth : Method} {co : Code} {dC : Nat → ClassId} {dI : Nat → Nat → Nat} {cI cJ cZ : ClassId} {A : Nat → Prop} {xa : Nat → Nat} (hx : pg.tables.exec = Jvm.exec) (hb : co.code = cL_isForetold) (hr : meth.sig.returnType = (some .boolean)) (hml : co.maxLocals = 13) (hown : s.vm.findClass RL = some mi.cls) (hts : ∀ w ∈ wsL_isForetold, w.before args s = true) (hlocks : meth.locks = false) (hA : ∀ q : Nat, s.heap.size ≤ q → A q) (hK : va_K (dC, dI) vwCl (tysN cI cJ cZ) s) (hN1 : va_Nw (.fieldLinkNest RX3 115 "MovingHeap$Heap" "exchanges" "J" "MovingHeap") s) (hN2 : va_Nw (.fieldLinkNest RX3 118 "MovingHeap$Heap" "topExchanges" "J" "MovingHeap") s) (u : CT) (H : Heap) (locs : List Loc) (hR : RC u ss0) (hP : va_P (dC, dI) vwCl (wX cI cJ cZ xa u) H) (hD : va_D A (wX cI cJ cZ xa u)) (hS : va_S A s.heap H locs) (a b c d : Int32) (ha1 : -1000 ≤ a.toInt) (ha2 : a.toInt ≤ 1000) (hb1 : -1000 ≤ b.toInt) (hb2 : b.toInt ≤ 1000) (hc1 : -20 ≤ c.toInt) (hc2 : c.toInt ≤ 20) (hd1 : -20 ≤ d.toInt) (hd2 : d.toInt ≤ 20) (ls : Array Slot) (hl : lv_has ls 13 [(4, .ref ((xa 0))), (0, .int a), (1, .int b), (2, .int c), (3, .int d)]) : W pg l e (headSpec wsL_isForetold ({ frames := 7, cells := 24, slots := 1347, locals := 169 })).room s mi args below meth co H locs 24 1347 (MQ below (va_Qi (fun (r : Int32) (_ : Unit) => r.toInt = 1) (fun _ _ => True) A) args s 24 1347 A) (F0 mi 9 ls []) := by
  have tn := tw_new (a := a.toInt) (b := b.toInt) (c := c.toInt) (d := d.toInt) ⟨by omega, by omega⟩ ⟨by omega, by omega⟩ ⟨by omega, by omega⟩ ⟨by omega, by omega⟩
  obtain ⟨n1, n2, hI1, m2, v0, w0, v1, w1, hTw⟩ := tn
  refine lv_aload hx hb dL_isForetold_9 (lv_at hl 0 rfl) ?_
  refine lv_iload_n hx hb dL_isForetold_11 rfl (lv_at hl 1 rfl) ?_
  refine lv_iload_n hx hb dL_isForetold_12 rfl (lv_at hl 3 rfl) ?_
  refine x_calllM (va_runV (As := [.int a, .int c]) (rest := []) ⟨hx, hb, hml, hown, hts⟩ (kX3_insert l dC dI cI cJ cZ xa H.size u ss0 hR inv_0 a c) (cwV 2 hts gL_isForetold_X3_insert rfl rfl rfl (by decide +kernel) ⟨Nat.le_of_ble_eq_true rfl, Nat.le_of_ble_eq_true rfl⟩) ⟨x_Mb, va_recv hK hP (ci := 3) (q0 := 0) rfl rfl, (fun U hU hW => ⟨rfl, by rw [hU], by rw [hU]; exact hP, va_K.moved hW.alike hK, hD.weaken (fun _ _ _ _ => trivial)⟩)⟩ rfl rfl hl.1 rfl (lv_room (Nat.le_of_ble_eq_true rfl)) dL_isForetold_13 ⟨Nat.le_of_ble_eq_true rfl, Nat.le_of_ble_eq_true rfl⟩) hS (j_fr hD hS hA) (fun r13 u H locs h13 hP1 hkk hS => ?_)
  clear hkk
  have hD : va_D A (wX cI cJ cZ xa u) := l_addr (wX_a u _) hD
  have hP : va_P (dC, dI) vwCl (wX cI cJ cZ xa u) H := hP1
  have hR := h13.1
  have g13 := h13.2
  rw [n1] at g13
  obtain ⟨s1, es1⟩ : ∃ z, z = (insF ss0 a.toInt c.toInt).2 := ⟨_, rfl⟩
  rw [← es1] at hR n2 hI1 m2 v0 w0 v1 w1 hTw
  refine x_lconst hx hb dL_isForetold_16 (0) (by decide) (fun v16 e16 => ?_)
  refine x_lcmp_ne (tgt := 46) hx hb dL_isForetold_17 dL_isForetold_18 (by decide) (fun c17 => ?_) (fun c17 => ?_)
  · exfalso; omega
  · refine lv_aload hx hb dL_isForetold_21 (lv_at hl 0 rfl) ?_
    refine lv_iload_n hx hb dL_isForetold_23 rfl (lv_at hl 2 rfl) ?_
    refine lv_iload_n hx hb dL_isForetold_24 rfl (lv_at hl 4 rfl) ?_
    refine x_calllM (va_runV (As := [.int b, .int d]) (rest := []) ⟨hx, hb, hml, hown, hts⟩ (kX3_insert l dC dI cI cJ cZ xa H.size u s1 hR hI1 b d) (cwV 2 hts gL_isForetold_X3_insert rfl rfl rfl (by decide +kernel) ⟨Nat.le_of_ble_eq_true rfl, Nat.le_of_ble_eq_true rfl⟩) ⟨x_Mb, va_recv hK hP (ci := 3) (q0 := 0) rfl rfl, (fun U hU hW => ⟨rfl, by rw [hU], by rw [hU]; exact hP, va_K.moved hW.alike hK, hD.weaken (fun _ _ _ _ => trivial)⟩)⟩ rfl rfl hl.1 rfl (lv_room (Nat.le_of_ble_eq_true rfl)) dL_isForetold_25 ⟨Nat.le_of_ble_eq_true rfl, Nat.le_of_ble_eq_true rfl⟩) hS (j_fr hD hS hA) (fun r25 u H locs h25 hP1 hkk hS => ?_)
    clear hkk
    have hD : va_D A (wX cI cJ cZ xa u) := l_addr (wX_a u _) hD
    have hP : va_P (dC, dI) vwCl (wX cI cJ cZ xa u) H := hP1
    have hR := h25.1
    have g25 := h25.2
    rw [n2] at g25
    obtain ⟨s2, es2⟩ : ∃ z, z = (insF s1 b.toInt d.toInt).2 := ⟨_, rfl⟩
    rw [← es2] at hR m2 v0 w0 v1 w1 hTw
    refine x_lconst hx hb dL_isForetold_28 (1) (by decide) (fun v28 e28 => ?_)
    refine x_lcmp_ne (tgt := 46) hx hb dL_isForetold_29 dL_isForetold_30 (by decide) (fun c29 => ?_) (fun c29 => ?_)
    · exfalso; omega
    · refine lv_aload hx hb dL_isForetold_33 (lv_at hl 0 rfl) ?_
      refine x_calliM (va_runV (As := []) (rest := []) ⟨hx, hb, hml, hown, hts⟩ (kX3_calendarSize l dC dI cI cJ cZ xa H.size u s2 hR (hTw.elim (fun z => z.2.1) (fun z => z.2.1))) (cwV 0 hts gL_isForetold_X3_calendarSize rfl rfl rfl (by decide +kernel) ⟨Nat.le_of_ble_eq_true rfl, Nat.le_of_ble_eq_true rfl⟩) ⟨x_Mb, va_recv hK hP (ci := 3) (q0 := 0) rfl rfl, (fun U hU hW => ⟨rfl, by rw [hU], by rw [hU]; exact hP, va_K.moved hW.alike hK, hD.weaken (fun _ _ _ _ => trivial)⟩)⟩ rfl rfl hl.1 rfl (lv_room (Nat.le_of_ble_eq_true rfl)) dL_isForetold_35 ⟨Nat.le_of_ble_eq_true rfl, Nat.le_of_ble_eq_true rfl⟩) hS (j_fr hD hS hA) (fun r35 u H locs h35 hP1 hkk hS => ?_)
      clear hkk
      have hD : va_D A (wX cI cJ cZ xa u) := l_addr (wX_a u _) hD
      have hP : va_P (dC, dI) vwCl (wX cI cJ cZ xa u) H := hP1
      have hR := h35.1
      have g35 := h35.2
      have k35 : casF s2 ≤ 1 := hTw.elim (fun z => tw_cas z.2) (fun z => tw_cas z.2)
      refine x_iconst hx hb dL_isForetold_38 (1) (by decide) (fun v38 e38 => ?_)
      refine x_icmp_gt (tgt := 46) hx hb dL_isForetold_39 (by decide) (fun c39 => ?_) (fun c39 => ?_)
      · exfalso; omega
      · refine x_iconst hx hb dL_isForetold_42 (1) (by decide) (fun v42 e42 => ?_)
        refine lv_goto (tgt := 47) hx hb dL_isForetold_43 (by decide) ?_
        refine lv_istore (lv' := [(5, .int v42), (4, .ref ((xa 0))), (0, .int a), (1, .int b), (2, .int c), (3, .int d)]) hx hb dL_isForetold_47 hl (by decide) rfl (fun ls hl => ?_)
        refine lv_aload hx hb dL_isForetold_49 (lv_at hl 1 rfl) ?_
        refine x_iconst hx hb dL_isForetold_51 (0) (by decide) (fun v51 e51 => ?_)
        refine x_iconst hx hb dL_isForetold_52 (1) (by decide) (fun v52 e52 => ?_)
        refine x_calllM (va_runV (As := [.int v51, .int v52]) (rest := []) ⟨hx, hb, hml, hown, hts⟩ (kX3_meeting l dC dI cI cJ cZ xa H.size u s2 hR (hTw.elim (fun z => z.2.1) (fun z => z.2.1)) v51 v52) (cwV 2 hts gL_isForetold_X3_meeting rfl rfl rfl (by decide +kernel) ⟨Nat.le_of_ble_eq_true rfl, Nat.le_of_ble_eq_true rfl⟩) ⟨x_Mb, va_recv hK hP (ci := 3) (q0 := 0) rfl rfl, (fun U hU hW => ⟨rfl, by rw [hU], by rw [hU]; exact hP, va_K.moved hW.alike hK, hD.weaken (fun _ _ _ _ => trivial)⟩)⟩ rfl rfl hl.1 rfl (lv_room (Nat.le_of_ble_eq_true rfl)) dL_isForetold_53 ⟨Nat.le_of_ble_eq_true rfl, Nat.le_of_ble_eq_true rfl⟩) hS (j_fr hD hS hA) (fun r53 u H locs h53 hP1 hkk hS => ?_)
        clear hkk
        have hD : va_D A (wX cI cJ cZ xa u) := l_addr (wX_a u _) hD
        have hP : va_P (dC, dI) vwCl (wX cI cJ cZ xa u) H := hP1
        have hR := h53.1
        have g53 := h53.2
        refine lv_lstore (lv' := [(6, .long r53), (5, .int v42), (4, .ref ((xa 0))), (0, .int a), (1, .int b), (2, .int c), (3, .int d)]) hx hb dL_isForetold_56 hl (by decide) rfl (fun ls hl => ?_)
        refine lv_iload_n hx hb dL_isForetold_58 rfl (lv_at hl 3 rfl) ?_
        refine lv_iload_n hx hb dL_isForetold_59 rfl (lv_at hl 4 rfl) ?_
        refine x_icmp_gt (tgt := 67) hx hb dL_isForetold_60 (by decide) (fun c60 => ?_) (fun c60 => ?_)
        · have hT : Two s2 1 0 1 := by rcases hTw with z | z; (exfalso; omega); exact z.2
          have g53b : r53.toInt = tonF (eo2 s2 1 0) := by rw [g53, e51, e52]; exact tw_met hT
          have hle := tw_le hT
          clear hTw
          refine x_iconst hx hb dL_isForetold_67 (0) (by decide) (fun v67 e67 => ?_)
          refine lv_istore (lv' := [(8, .int v67), (6, .long r53), (5, .int v42), (4, .ref ((xa 0))), (0, .int a), (1, .int b), (2, .int c), (3, .int d)]) hx hb dL_isForetold_68 hl (by decide) rfl (fun ls hl => ?_)
          exact fore_T hx hb hr hml hown hts hlocks hA hK hN1 hN2 u s2 H locs hR hP hD hS a b c d v67 v42 r53 ha1 ha2 hb1 hb2 hc1 hc2 hd1 hd2 (by omega) (by omega) m2 v0 w0 v1 w1 hT g53b ls (lv_sub hl [0, 1, 2, 3, 4, 5, 6, 7] rfl)
        · have hT : Two s2 0 1 0 := by rcases hTw with z | z; exact z.2; (exfalso; omega)
          have g53b : r53.toInt = tonF (eo2 s2 0 1) := by rw [g53, e51, e52]; exact tw_met hT
          have hle := tw_le hT
          clear hTw
          refine x_iconst hx hb dL_isForetold_63 (1) (by decide) (fun v63 e63 => ?_)
          refine lv_goto (tgt := 68) hx hb dL_isForetold_64 (by decide) ?_
          refine lv_istore (lv' := [(8, .int v63), (6, .long r53), (5, .int v42), (4, .ref ((xa 0))), (0, .int a), (1, .int b), (2, .int c), (3, .int d)]) hx hb dL_isForetold_68 hl (by decide) rfl (fun ls hl => ?_)
          exact fore_F hx hb hr hml hown hts hlocks hA hK hN1 hN2 u s2 H locs hR hP hD hS a b c d v63 v42 r53 ha1 ha2 hb1 hb2 hc1 hc2 hd1 hd2 (by omega) (by omega) m2 v0 w0 v1 w1 hT g53b ls (lv_sub hl [0, 1, 2, 3, 4, 5, 6, 7] rfl)
