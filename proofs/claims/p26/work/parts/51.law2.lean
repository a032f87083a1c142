/-! THE LAW, 2: cell, isHeap -/
set_option maxHeartbeats 4000000 in
set_option maxRecDepth 100000 in
theorem c_L_cell (l : Launch) (b L : Nat) (xs : Nat → Int32) (sz : Nat) (x : Int32) (k : Nat) (hxk : x.toInt = (k : Int)) (hL : L ≤ 260) : Met l yL_cell wsL_cell ({ frames := 0, cells := 0, slots := 0, locals := 0 }) (va_Pc [.ref b, .int x] (x_C b L xs sz)) (va_Qi (fun (r : Int32) (_ : Unit) => 0 ≤ r.toInt) (fun _ _ => True) (va_A [] sz)) 0 0 (va_A [] sz) := by
  refine x_ofC (cc := cL_cell) (maxL := 2) (ret := (some .int)) (own := RL) (by decide) rfl rfl (Nat.le_of_ble_eq_true rfl) (lvs := [(0, .ref b), (1, .int x)]) rfl ?_
  intro pg e s mi args below meth co hx hb hr hml hown hts hlocks hsz hX hbl ls hl
  subst hsz
  have hbA : ¬ va_A [] s.heap.size b := fun z => by
    rcases z with ⟨j, q, z⟩ | z
    · simp at z
    · omega
  generalize hAe : va_A [] s.heap.size = A at hbA ⊢
  have hS : va_S A s.heap s.heap [] := va_S.rf
  have hLe : (Int32.ofNat L).toInt = (L : Int) := b_nI (n := L) (by omega)
  have fin : ∀ y : Int32, W pg l e (headSpec wsL_cell ({ frames := 0, cells := 0, slots := 0, locals := 0 })).room s mi args below meth co s.heap [] 0 0 (MQ below (va_Qi (fun (r : Int32) (_ : Unit) => 0 ≤ r.toInt) (fun _ _ => True) A) args s 0 0 A) (F0 mi 20 ls [.int y]) := by
    intro y
    refine x_ldc hx hb hown (hts (.constant RL 8 (2147483647)) (List.mem_of_getElem? (i := 2) rfl)) dL_cell_20 (2147483647) (by decide) (fun v20 e20 => ?_)
    refine lv_iand hx hb dL_cell_22 ?_
    exact x_iret hx hb hr hlocks hS () dL_cell_23 (fun t ht => trivial) (gb_msk _ _ e20)
  refine lv_iload_n hx hb dL_cell_0 rfl (lv_at hl 1 rfl) ?_
  refine lv_aload_n hx hb dL_cell_1 rfl (lv_at hl 0 rfl) ?_
  refine va_slen hx hb hX hbl hbA hS dL_cell_2 ?_
  refine x_icmp_ge (tgt := 12) hx hb dL_cell_3 (by decide) (fun c3 => ?_) (fun c3 => ?_)
  · refine x_ldc hx hb hown (hts (.constant RL 7 (15485279)) (List.mem_of_getElem? (i := 1) rfl)) dL_cell_12 (15485279) (by decide) (fun v12 e12 => ?_)
    refine lv_iload_n hx hb dL_cell_14 rfl (lv_at hl 1 rfl) ?_
    refine lv_imul hx hb dL_cell_15 ?_
    refine x_sipush hx hb dL_cell_16 (283) (by decide) (fun v16 e16 => ?_)
    refine lv_iadd hx hb dL_cell_19 ?_
    exact fin _
  · refine lv_aload_n hx hb dL_cell_6 rfl (lv_at hl 0 rfl) ?_
    refine lv_iload_n hx hb dL_cell_7 rfl (lv_at hl 1 rfl) ?_
    refine va_sld hx hb hX hbl hbA hS (b_in hxk (by omega)) dL_cell_8 ?_
    refine lv_goto (tgt := 20) hx hb dL_cell_9 (by decide) ?_
    exact fin _
--== L_cell
set_option maxHeartbeats 4000000 in
set_option maxRecDepth 100000 in
theorem c_L_isHeap (l : Launch) (dC : Nat → ClassId) (dI : Nat → Nat → Nat) (cI cJ cZ : ClassId) (xa : Nat → Nat) (sz : Nat) (u : CT) (ss : MS) (hR : RC u ss) (hI : Inv ss) (hB : ∀ p : Nat, p < 24 → (mL ss).1 p = true → mb ss p ≤ mt ss) : Met l yL_isHeap wsL_isHeap ({ frames := 7, cells := 0, slots := 0, locals := 167 }) (va_Pc [.ref ((xa 0))] (x_M (dC, dI) vwCl (tysN cI cJ cZ) (wX cI cJ cZ xa u) sz)) (va_Qi (fun (r : Int32) (v : CT) => RC v ss ∧ r.toInt = 1) (fun (v : CT) t => va_P (dC, dI) vwCl (wX cI cJ cZ xa v) t.heap) (va_A (wX cI cJ cZ xa u) sz)) 0 0 (va_A (wX cI cJ cZ xa u) sz) := by
  refine x_ofM (cc := cL_isHeap) (maxL := 16) (ret := (some .boolean)) (own := RL) (by decide) rfl rfl (Nat.le_of_ble_eq_true rfl) (lvs := [(0, .ref ((xa 0)))]) rfl ?_
  intro pg e s mi args below meth co hx hb hr hml hown hts hlocks hin hsz hP hK hD ls hl
  subst hsz
  generalize hAe : (va_A (wX cI cJ cZ xa u) s.heap.size) = A at hD ⊢
  have hA : ∀ q : Nat, s.heap.size ≤ q → A q := fun q h => by rw [← hAe]; exact Or.inr h
  have hS : va_S A s.heap s.heap [] := va_S.rf
  have hn24 := hI.2.1
  have hti := hI.1
  refine lv_aload_n hx hb dL_isHeap_0 rfl (lv_at hl 0 rfl) ?_
  refine x_calliM (va_runV (As := []) (rest := []) ⟨hx, hb, hml, hown, hts⟩ (kX3_size l dC dI cI cJ cZ xa s.heap.size u ss hR hI) (cwV 0 hts gL_isHeap_X3_size rfl rfl rfl (by decide +kernel) ⟨Nat.le_of_ble_eq_true rfl, Nat.le_of_ble_eq_true rfl⟩) ⟨x_Mb, va_recv hK hP (ci := 3) (q0 := 0) rfl rfl, (fun U hU hW => ⟨rfl, by rw [hU], by rw [hU]; exact hP, va_K.moved hW.alike hK, hD.weaken (fun _ _ _ _ => trivial)⟩)⟩ rfl rfl hl.1 rfl (lv_room (Nat.le_of_ble_eq_true rfl)) dL_isHeap_1 ⟨Nat.zero_le _, Nat.zero_le _⟩) hS (j_fr hD hS hA) (fun r1 u H locs h1 hP1 hkk hS => ?_)
  clear hkk
  have hD : va_D A (wX cI cJ cZ xa u) := l_addr (wX_a u _) hD
  have hP : va_P (dC, dI) vwCl (wX cI cJ cZ xa u) H := hP1
  have hR := h1.1
  have g1 := h1.2
  refine lv_istore_n (lv' := [(1, .int r1), (0, .ref ((xa 0)))]) hx hb dL_isHeap_4 rfl hl (by decide) rfl (fun ls hl => ?_)
  refine x_iconst hx hb dL_isHeap_5 (0) (by decide) (fun v5 e5 => ?_)
  refine lv_istore_n (lv' := [(2, .int v5), (1, .int r1), (0, .ref ((xa 0)))]) hx hb dL_isHeap_6 rfl hl (by decide) rfl (fun ls hl => ?_)
  refine x_iconst hx hb dL_isHeap_7 (0) (by decide) (fun v7 e7 => ?_)
  refine lv_istore_n (lv' := [(3, .int v7), (2, .int v5), (1, .int r1), (0, .ref ((xa 0)))]) hx hb dL_isHeap_8 rfl hl (by decide) rfl (fun ls hl => ?_)
  refine lv_iload_n hx hb dL_isHeap_9 rfl (lv_at hl 2 rfl) ?_
  refine x_bipush hx hb dL_isHeap_10 (24) (by decide) (fun v10 e10 => ?_)
  refine x_icmp_gt (tgt := 19) hx hb dL_isHeap_12 (by decide) (fun c12 => ?_) (fun c12 => ?_)
  · exfalso; omega
  · refine x_iconst hx hb dL_isHeap_15 (1) (by decide) (fun v15 e15 => ?_)
    refine lv_goto (tgt := 20) hx hb dL_isHeap_16 (by decide) ?_
    refine lv_istore (lv' := [(4, .int v15), (3, .int v7), (2, .int v5), (1, .int r1), (0, .ref ((xa 0)))]) hx hb dL_isHeap_20 hl (by decide) rfl (fun ls hl => ?_)
    refine x_iconst hx hb dL_isHeap_22 (0) (by decide) (fun v22 e22 => ?_)
    refine lv_istore (lv' := [(5, .int v22), (4, .int v15), (3, .int v7), (2, .int v5), (1, .int r1), (0, .ref ((xa 0)))]) hx hb dL_isHeap_23 hl (by decide) rfl (fun ls hl => ?_)
    have loop25 : ∀ (fu : Nat) (i : Nat) (x : Int32) (sn : Int32) (en : Int32) (ok : Int32), (i ≤ mn ss) → (x.toInt = (i : Int)) → (∀ q : Nat, q < 24 → g_bt sn q = htF (ma ss) q i) → (en.toInt = (cntF (cC (erS ss)) i : Int)) → (ok.toInt = 1) → (mn ss - i < fu) → ∀ (u : CT) (H : Heap) (locs : List Loc), RC u ss → va_P (dC, dI) vwCl (wX cI cJ cZ xa u) H → va_D A (wX cI cJ cZ xa u) → va_S A s.heap H locs → ∀ (ls : Array Slot), lv_has ls 16 [(0, .ref ((xa 0))), (1, .int r1), (2, .int sn), (3, .int en), (4, .int ok), (5, .int x)] → W pg l e (headSpec wsL_isHeap ({ frames := 7, cells := 0, slots := 0, locals := 167 })).room s mi args below meth co H locs 0 0 (MQ below (va_Qi (fun (r : Int32) (v : CT) => RC v ss ∧ r.toInt = 1) (fun (v : CT) t => va_P (dC, dI) vwCl (wX cI cJ cZ xa v) t.heap) A) args s 0 0 A) (F0 mi 25 ls []) := by
      intro fu
      induction fu with
      | zero => intro i x sn en ok hi hxi hsn hen hok hn; exact absurd hn (Nat.not_lt_zero _)
      | succ fu ih25 =>
        intro i x sn en ok hi hxi hsn hen hok hn u H locs hR hP hD hS ls hl
        have b25 := cnt_le (cC (erS ss)) i
        refine lv_iload hx hb dL_isHeap_25 (lv_at hl 5 rfl) ?_
        refine lv_iload_n hx hb dL_isHeap_27 rfl (lv_at hl 1 rfl) ?_
        refine x_icmp_ge (tgt := 275) hx hb dL_isHeap_28 (by decide) (fun c28 => ?_) (fun c28 => ?_)
        · have hiN : i = mn ss := by omega
          have hsnF : ∀ q : Nat, q < 24 → g_bt sn q = (mL ss).1 q := fun q hq => by rw [hsn q hq, hiN]; exact ht_th hI hq
          have henF : en.toInt = (cntF (cC (erS ss)) (mn ss) : Int) := by rw [hen, hiN]
          clear hsn hen
          refine x_iconst hx hb dL_isHeap_275 (0) (by decide) (fun v275 e275 => ?_)
          refine lv_istore (lv' := [(5, .int v275), (0, .ref ((xa 0))), (1, .int r1), (2, .int sn), (3, .int en), (4, .int ok)]) hx hb dL_isHeap_276 hl (by decide) rfl (fun ls hl => ?_)
          refine x_iconst hx hb dL_isHeap_278 (0) (by decide) (fun v278 e278 => ?_)
          refine lv_istore (lv' := [(6, .int v278), (5, .int v275), (0, .ref ((xa 0))), (1, .int r1), (2, .int sn), (3, .int en), (4, .int ok)]) hx hb dL_isHeap_279 hl (by decide) rfl (fun ls hl => ?_)
          have loop281 : ∀ (fu : Nat) (j : Nat) (y : Int32) (my : Int32), (j ≤ 24) → (y.toInt = (j : Int)) → (my.toInt = (cntF (mL ss).1 j : Int)) → (24 - j < fu) → ∀ (u : CT) (H : Heap) (locs : List Loc), RC u ss → va_P (dC, dI) vwCl (wX cI cJ cZ xa u) H → va_D A (wX cI cJ cZ xa u) → va_S A s.heap H locs → ∀ (ls : Array Slot), lv_has ls 16 [(0, .ref ((xa 0))), (1, .int r1), (2, .int sn), (3, .int en), (4, .int ok), (5, .int my), (6, .int y)] → W pg l e (headSpec wsL_isHeap ({ frames := 7, cells := 0, slots := 0, locals := 167 })).room s mi args below meth co H locs 0 0 (MQ below (va_Qi (fun (r : Int32) (v : CT) => RC v ss ∧ r.toInt = 1) (fun (v : CT) t => va_P (dC, dI) vwCl (wX cI cJ cZ xa v) t.heap) A) args s 0 0 A) (F0 mi 281 ls []) := by
            intro fu
            induction fu with
            | zero => intro j y my hj hyj hmy hn; exact absurd hn (Nat.not_lt_zero _)
            | succ fu ih281 =>
              intro j y my hj hyj hmy hn u H locs hR hP hD hS ls hl
              have b281 := cnt_le (mL ss).1 j
              refine lv_iload hx hb dL_isHeap_281 (lv_at hl 6 rfl) ?_
              refine x_bipush hx hb dL_isHeap_283 (24) (by decide) (fun v283 e283 => ?_)
              refine x_icmp_ge (tgt := 305) hx hb dL_isHeap_285 (by decide) (fun c285 => ?_) (fun c285 => ?_)
              · have hmF : my.toInt = (mn ss : Int) := by rw [hmy, show j = 24 by omega, hI.2.2.2.2.2.1]
                refine x_lconst hx hb dL_isHeap_305 (0) (by decide) (fun v305 e305 => ?_)
                refine lv_lstore (lv' := [(6, .long v305), (0, .ref ((xa 0))), (1, .int r1), (2, .int sn), (3, .int en), (4, .int ok), (5, .int my)]) hx hb dL_isHeap_306 hl (by decide) rfl (fun ls hl => ?_)
                refine x_iconst hx hb dL_isHeap_308 (0) (by decide) (fun v308 e308 => ?_)
                refine lv_istore (lv' := [(8, .int v308), (6, .long v305), (0, .ref ((xa 0))), (1, .int r1), (2, .int sn), (3, .int en), (4, .int ok), (5, .int my)]) hx hb dL_isHeap_309 hl (by decide) rfl (fun ls hl => ?_)
                have loop311 : ∀ (fu : Nat) (m : Nat) (z : Int32) (be : Int64) (ok3 : Int32), (m ≤ cntF (cC (erS ss)) (mn ss)) → (z.toInt = (m : Int)) → (∀ c : Nat, CE (erS ss) (mn ss) (m : Int) c → be.toInt ≤ erS ss c) → (ok3.toInt = 1) → (cntF (cC (erS ss)) (mn ss) - m < fu) → ∀ (u : CT) (H : Heap) (locs : List Loc), RC u ss → va_P (dC, dI) vwCl (wX cI cJ cZ xa u) H → va_D A (wX cI cJ cZ xa u) → va_S A s.heap H locs → ∀ (ls : Array Slot), lv_has ls 16 [(0, .ref ((xa 0))), (1, .int r1), (3, .int en), (4, .int ok3), (5, .int my), (6, .long be), (8, .int z)] → W pg l e (headSpec wsL_isHeap ({ frames := 7, cells := 0, slots := 0, locals := 167 })).room s mi args below meth co H locs 0 0 (MQ below (va_Qi (fun (r : Int32) (v : CT) => RC v ss ∧ r.toInt = 1) (fun (v : CT) t => va_P (dC, dI) vwCl (wX cI cJ cZ xa v) t.heap) A) args s 0 0 A) (F0 mi 311 ls []) := by
                  intro fu
                  induction fu with
                  | zero => intro m z be ok3 hm hzm hbe hok3 hn; exact absurd hn (Nat.not_lt_zero _)
                  | succ fu ih311 =>
                    intro m z be ok3 hm hzm hbe hok3 hn u H locs hR hP hD hS ls hl
                    have b311 := cnt_le (cC (erS ss)) (mn ss)
                    refine lv_iload hx hb dL_isHeap_311 (lv_at hl 6 rfl) ?_
                    refine lv_iload_n hx hb dL_isHeap_313 rfl (lv_at hl 2 rfl) ?_
                    refine x_icmp_ge (tgt := 374) hx hb dL_isHeap_314 (by decide) (fun c314 => ?_) (fun c314 => ?_)
                    · refine lv_iload hx hb dL_isHeap_374 (lv_at hl 3 rfl) ?_
                      refine x_if_eq (tgt := 438) hx hb dL_isHeap_376 (by decide) (fun c376 => ?_) (fun c376 => ?_)
                      · exfalso; omega
                      · refine lv_iload hx hb dL_isHeap_379 (lv_at hl 4 rfl) ?_
                        refine lv_iload_n hx hb dL_isHeap_381 rfl (lv_at hl 1 rfl) ?_
                        refine x_icmp_ne (tgt := 438) hx hb dL_isHeap_382 (by decide) (fun c382 => ?_) (fun c382 => ?_)
                        · exfalso; omega
                        · refine lv_aload_n hx hb dL_isHeap_385 rfl (lv_at hl 0 rfl) ?_
                          refine x_calliM (va_runV (As := []) (rest := []) ⟨hx, hb, hml, hown, hts⟩ (kX3_calendarSize l dC dI cI cJ cZ xa H.size u ss hR hI) (cwV 0 hts gL_isHeap_X3_calendarSize rfl rfl rfl (by decide +kernel) ⟨Nat.le_of_ble_eq_true rfl, Nat.le_of_ble_eq_true rfl⟩) ⟨x_Mb, va_recv hK hP (ci := 3) (q0 := 0) rfl rfl, (fun U hU hW => ⟨rfl, by rw [hU], by rw [hU]; exact hP, va_K.moved hW.alike hK, hD.weaken (fun _ _ _ _ => trivial)⟩)⟩ rfl rfl hl.1 rfl (lv_room (Nat.le_of_ble_eq_true rfl)) dL_isHeap_386 ⟨Nat.zero_le _, Nat.zero_le _⟩) hS (j_fr hD hS hA) (fun r386 u H locs h386 hP1 hkk hS => ?_)
                          clear hkk
                          have hD : va_D A (wX cI cJ cZ xa u) := l_addr (wX_a u _) hD
                          have hP : va_P (dC, dI) vwCl (wX cI cJ cZ xa u) H := hP1
                          have hR := h386.1
                          have g386 := h386.2
                          rw [g_cas] at g386
                          refine lv_iload_n hx hb dL_isHeap_389 rfl (lv_at hl 2 rfl) ?_
                          refine x_icmp_ne (tgt := 438) hx hb dL_isHeap_390 (by decide) (fun c390 => ?_) (fun c390 => ?_)
                          · exfalso; omega
                          · refine lv_aload_n hx hb dL_isHeap_393 rfl (lv_at hl 0 rfl) ?_
                            refine lv_aload_n hx hb dL_isHeap_394 rfl (lv_at hl 0 rfl) ?_
                            refine x_calliM (va_runV (As := []) (rest := [.ref ((xa 0))]) ⟨hx, hb, hml, hown, hts⟩ (kX3_time l dC dI cI cJ cZ xa H.size u ss hR hI) (cwV 0 hts gL_isHeap_X3_time rfl rfl rfl (by decide +kernel) ⟨Nat.le_of_ble_eq_true rfl, Nat.le_of_ble_eq_true rfl⟩) ⟨x_Mb, va_recv hK hP (ci := 3) (q0 := 0) rfl rfl, (fun U hU hW => ⟨rfl, by rw [hU], by rw [hU]; exact hP, va_K.moved hW.alike hK, hD.weaken (fun _ _ _ _ => trivial)⟩)⟩ rfl rfl hl.1 rfl (lv_room (Nat.le_of_ble_eq_true rfl)) dL_isHeap_395 ⟨Nat.zero_le _, Nat.zero_le _⟩) hS (j_fr hD hS hA) (fun r395 u H locs h395 hP1 hkk hS => ?_)
                            clear hkk
                            have hD : va_D A (wX cI cJ cZ xa u) := l_addr (wX_a u _) hD
                            have hP : va_P (dC, dI) vwCl (wX cI cJ cZ xa u) H := hP1
                            have hR := h395.1
                            have g395 := h395.2
                            refine x_calllM (va_runV (As := [.int r395]) (rest := []) ⟨hx, hb, hml, hown, hts⟩ (kX3_topAt l dC dI cI cJ cZ xa H.size u ss hR hI r395) (cwV 1 hts gL_isHeap_X3_topAt rfl rfl rfl (by decide +kernel) ⟨Nat.le_of_ble_eq_true rfl, Nat.le_of_ble_eq_true rfl⟩) ⟨x_Mb, va_recv hK hP (ci := 3) (q0 := 0) rfl rfl, (fun U hU hW => ⟨rfl, by rw [hU], by rw [hU]; exact hP, va_K.moved hW.alike hK, hD.weaken (fun _ _ _ _ => trivial)⟩)⟩ rfl rfl hl.1 rfl (lv_room (Nat.le_of_ble_eq_true rfl)) dL_isHeap_398 ⟨Nat.zero_le _, Nat.zero_le _⟩) hS (j_fr hD hS hA) (fun r398 u H locs h398 hP1 hkk hS => ?_)
                            clear hkk
                            have hD : va_D A (wX cI cJ cZ xa u) := l_addr (wX_a u _) hD
                            have hP : va_P (dC, dI) vwCl (wX cI cJ cZ xa u) H := hP1
                            have hR := h398.1
                            have g398 := h398.2
                            rw [g395, g_top hI] at g398
                            refine lv_iload_n hx hb dL_isHeap_401 rfl (lv_at hl 1 rfl) ?_
                            refine x_if_ne (tgt := 411) hx hb dL_isHeap_402 (by decide) (fun c402 => ?_) (fun c402 => ?_)
                            · have n0 : ¬ mn ss = 0 := by omega
                              rw [if_neg n0] at g398
                              refine lv_aload_n hx hb dL_isHeap_411 rfl (lv_at hl 0 rfl) ?_
                              refine x_iconst hx hb dL_isHeap_412 (0) (by decide) (fun v412 e412 => ?_)
                              refine x_calllM (va_runV (As := [.int v412]) (rest := [.long r398]) ⟨hx, hb, hml, hown, hts⟩ (kX3_at l dC dI cI cJ cZ xa H.size u ss hR hI v412) (cwV 1 hts gL_isHeap_X3_at rfl rfl rfl (by decide +kernel) ⟨Nat.le_of_ble_eq_true rfl, Nat.le_of_ble_eq_true rfl⟩) ⟨x_Mb, va_recv hK hP (ci := 3) (q0 := 0) rfl rfl, (fun U hU hW => ⟨rfl, by rw [hU], by rw [hU]; exact hP, va_K.moved hW.alike hK, hD.weaken (fun _ _ _ _ => trivial)⟩)⟩ rfl rfl hl.1 rfl (lv_room (Nat.le_of_ble_eq_true rfl)) dL_isHeap_413 ⟨Nat.zero_le _, Nat.zero_le _⟩) hS (j_fr hD hS hA) (fun r413 u H locs h413 hP1 hkk hS => ?_)
                              clear hkk
                              have hD : va_D A (wX cI cJ cZ xa u) := l_addr (wX_a u _) hD
                              have hP : va_P (dC, dI) vwCl (wX cI cJ cZ xa u) H := hP1
                              have hR := h413.1
                              have g413 := h413.2
                              have h413b : atF ss 0 = (ma ss 0 : Int) := g_at (k := 0) (by omega)
                              rw [e412, h413b] at g413
                              refine x_lcmp_ne (tgt := 438) hx hb dL_isHeap_416 dL_isHeap_417 (by decide) (fun c416 => ?_) (fun c416 => ?_)
                              · exfalso; omega
                              · refine lv_aload_n hx hb dL_isHeap_420 rfl (lv_at hl 0 rfl) ?_
                                refine lv_aload_n hx hb dL_isHeap_421 rfl (lv_at hl 0 rfl) ?_
                                refine x_calliM (va_runV (As := []) (rest := [.ref ((xa 0))]) ⟨hx, hb, hml, hown, hts⟩ (kX3_time l dC dI cI cJ cZ xa H.size u ss hR hI) (cwV 0 hts gL_isHeap_X3_time rfl rfl rfl (by decide +kernel) ⟨Nat.le_of_ble_eq_true rfl, Nat.le_of_ble_eq_true rfl⟩) ⟨x_Mb, va_recv hK hP (ci := 3) (q0 := 0) rfl rfl, (fun U hU hW => ⟨rfl, by rw [hU], by rw [hU]; exact hP, va_K.moved hW.alike hK, hD.weaken (fun _ _ _ _ => trivial)⟩)⟩ rfl rfl hl.1 rfl (lv_room (Nat.le_of_ble_eq_true rfl)) dL_isHeap_422 ⟨Nat.zero_le _, Nat.zero_le _⟩) hS (j_fr hD hS hA) (fun r422 u H locs h422 hP1 hkk hS => ?_)
                                clear hkk
                                have hD : va_D A (wX cI cJ cZ xa u) := l_addr (wX_a u _) hD
                                have hP : va_P (dC, dI) vwCl (wX cI cJ cZ xa u) H := hP1
                                have hR := h422.1
                                have g422 := h422.2
                                refine x_calllM (va_runV (As := [.int r422]) (rest := []) ⟨hx, hb, hml, hown, hts⟩ (kX3_sizeAt l dC dI cI cJ cZ xa H.size u ss hR hI r422) (cwV 1 hts gL_isHeap_X3_sizeAt rfl rfl rfl (by decide +kernel) ⟨Nat.le_of_ble_eq_true rfl, Nat.le_of_ble_eq_true rfl⟩) ⟨x_Mb, va_recv hK hP (ci := 3) (q0 := 0) rfl rfl, (fun U hU hW => ⟨rfl, by rw [hU], by rw [hU]; exact hP, va_K.moved hW.alike hK, hD.weaken (fun _ _ _ _ => trivial)⟩)⟩ rfl rfl hl.1 rfl (lv_room (Nat.le_of_ble_eq_true rfl)) dL_isHeap_425 ⟨Nat.zero_le _, Nat.zero_le _⟩) hS (j_fr hD hS hA) (fun r425 u H locs h425 hP1 hkk hS => ?_)
                                clear hkk
                                have hD : va_D A (wX cI cJ cZ xa u) := l_addr (wX_a u _) hD
                                have hP : va_P (dC, dI) vwCl (wX cI cJ cZ xa u) H := hP1
                                have hR := h425.1
                                have g425 := h425.2
                                rw [g422, g_sza hI] at g425
                                refine lv_iload_n hx hb dL_isHeap_428 rfl (lv_at hl 1 rfl) ?_
                                refine x_i2l hx hb dL_isHeap_429 (fun v429 e429 => ?_)
                                refine x_lcmp_ne (tgt := 438) hx hb dL_isHeap_430 dL_isHeap_431 (by decide) (fun c430 => ?_) (fun c430 => ?_)
                                · exfalso; omega
                                · refine x_iconst hx hb dL_isHeap_434 (1) (by decide) (fun v434 e434 => ?_)
                                  refine lv_goto (tgt := 439) hx hb dL_isHeap_435 (by decide) ?_
                                  exact x_zret hx hb hr hlocks hS u dL_isHeap_439 (fun t ht => by rw [ht]; exact hP) (by omega) ⟨hR, by omega⟩
                            · have n0 : mn ss = 0 := by omega
                              rw [if_pos n0] at g398
                              have a398 : aNF = -1000000000004 := rfl
                              refine x_ldc2 hx hb hown (hts (.constantLong RL 35 (-1000000000004)) (List.mem_of_getElem? (i := 1) rfl)) dL_isHeap_405 (-1000000000004) (by decide) (fun v405 e405 => ?_)
                              refine lv_goto (tgt := 416) hx hb dL_isHeap_408 (by decide) ?_
                              refine x_lcmp_ne (tgt := 438) hx hb dL_isHeap_416 dL_isHeap_417 (by decide) (fun c416 => ?_) (fun c416 => ?_)
                              · exfalso; omega
                              · refine lv_aload_n hx hb dL_isHeap_420 rfl (lv_at hl 0 rfl) ?_
                                refine lv_aload_n hx hb dL_isHeap_421 rfl (lv_at hl 0 rfl) ?_
                                refine x_calliM (va_runV (As := []) (rest := [.ref ((xa 0))]) ⟨hx, hb, hml, hown, hts⟩ (kX3_time l dC dI cI cJ cZ xa H.size u ss hR hI) (cwV 0 hts gL_isHeap_X3_time rfl rfl rfl (by decide +kernel) ⟨Nat.le_of_ble_eq_true rfl, Nat.le_of_ble_eq_true rfl⟩) ⟨x_Mb, va_recv hK hP (ci := 3) (q0 := 0) rfl rfl, (fun U hU hW => ⟨rfl, by rw [hU], by rw [hU]; exact hP, va_K.moved hW.alike hK, hD.weaken (fun _ _ _ _ => trivial)⟩)⟩ rfl rfl hl.1 rfl (lv_room (Nat.le_of_ble_eq_true rfl)) dL_isHeap_422 ⟨Nat.zero_le _, Nat.zero_le _⟩) hS (j_fr hD hS hA) (fun r422 u H locs h422 hP1 hkk hS => ?_)
                                clear hkk
                                have hD : va_D A (wX cI cJ cZ xa u) := l_addr (wX_a u _) hD
                                have hP : va_P (dC, dI) vwCl (wX cI cJ cZ xa u) H := hP1
                                have hR := h422.1
                                have g422 := h422.2
                                refine x_calllM (va_runV (As := [.int r422]) (rest := []) ⟨hx, hb, hml, hown, hts⟩ (kX3_sizeAt l dC dI cI cJ cZ xa H.size u ss hR hI r422) (cwV 1 hts gL_isHeap_X3_sizeAt rfl rfl rfl (by decide +kernel) ⟨Nat.le_of_ble_eq_true rfl, Nat.le_of_ble_eq_true rfl⟩) ⟨x_Mb, va_recv hK hP (ci := 3) (q0 := 0) rfl rfl, (fun U hU hW => ⟨rfl, by rw [hU], by rw [hU]; exact hP, va_K.moved hW.alike hK, hD.weaken (fun _ _ _ _ => trivial)⟩)⟩ rfl rfl hl.1 rfl (lv_room (Nat.le_of_ble_eq_true rfl)) dL_isHeap_425 ⟨Nat.zero_le _, Nat.zero_le _⟩) hS (j_fr hD hS hA) (fun r425 u H locs h425 hP1 hkk hS => ?_)
                                clear hkk
                                have hD : va_D A (wX cI cJ cZ xa u) := l_addr (wX_a u _) hD
                                have hP : va_P (dC, dI) vwCl (wX cI cJ cZ xa u) H := hP1
                                have hR := h425.1
                                have g425 := h425.2
                                rw [g422, g_sza hI] at g425
                                refine lv_iload_n hx hb dL_isHeap_428 rfl (lv_at hl 1 rfl) ?_
                                refine x_i2l hx hb dL_isHeap_429 (fun v429 e429 => ?_)
                                refine x_lcmp_ne (tgt := 438) hx hb dL_isHeap_430 dL_isHeap_431 (by decide) (fun c430 => ?_) (fun c430 => ?_)
                                · exfalso; omega
                                · refine x_iconst hx hb dL_isHeap_434 (1) (by decide) (fun v434 e434 => ?_)
                                  refine lv_goto (tgt := 439) hx hb dL_isHeap_435 (by decide) ?_
                                  exact x_zret hx hb hr hlocks hS u dL_isHeap_439 (fun t ht => by rw [ht]; exact hP) (by omega) ⟨hR, by omega⟩
                    · refine lv_iload hx hb dL_isHeap_317 (lv_at hl 3 rfl) ?_
                      refine x_if_eq (tgt := 374) hx hb dL_isHeap_319 (by decide) (fun c319 => ?_) (fun c319 => ?_)
                      · exfalso; omega
                      · refine lv_aload_n hx hb dL_isHeap_322 rfl (lv_at hl 0 rfl) ?_
                        refine lv_iload hx hb dL_isHeap_323 (lv_at hl 6 rfl) ?_
                        refine x_iconst hx hb dL_isHeap_325 (0) (by decide) (fun v325 e325 => ?_)
                        refine x_calllM (va_runV (As := [.int z, .int v325]) (rest := []) ⟨hx, hb, hml, hown, hts⟩ (kX3_calendar l dC dI cI cJ cZ xa H.size u ss hR hI z v325) (cwV 2 hts gL_isHeap_X3_calendar rfl rfl rfl (by decide +kernel) ⟨Nat.le_of_ble_eq_true rfl, Nat.le_of_ble_eq_true rfl⟩) ⟨x_Mb, va_recv hK hP (ci := 3) (q0 := 0) rfl rfl, (fun U hU hW => ⟨rfl, by rw [hU], by rw [hU]; exact hP, va_K.moved hW.alike hK, hD.weaken (fun _ _ _ _ => trivial)⟩)⟩ rfl rfl hl.1 rfl (lv_room (Nat.le_of_ble_eq_true rfl)) dL_isHeap_326 ⟨Nat.zero_le _, Nat.zero_le _⟩) hS (j_fr hD hS hA) (fun r326 u H locs h326 hP1 hkk hS => ?_)
                        clear hkk
                        have hD : va_D A (wX cI cJ cZ xa u) := l_addr (wX_a u _) hD
                        have hP : va_P (dC, dI) vwCl (wX cI cJ cZ xa u) H := hP1
                        have hR := h326.1
                        have g326 := h326.2
                        obtain ⟨c, hc, c1, c2, c3, c4, c5, c6⟩ := g_cal hI (x := m) (by omega)
                        rw [hzm, e325, c3] at g326
                        have b326 := hbe c hc
                        have hn24b := hI.2.1
                        refine lv_lstore (lv' := [(9, .long r326), (0, .ref ((xa 0))), (1, .int r1), (3, .int en), (4, .int ok3), (5, .int my), (6, .long be), (8, .int z)]) hx hb dL_isHeap_329 hl (by decide) rfl (fun ls hl => ?_)
                        refine lv_lload hx hb dL_isHeap_331 (lv_at hl 0 rfl) ?_
                        refine lv_lload hx hb dL_isHeap_333 (lv_at hl 6 rfl) ?_
                        refine x_lcmp_lt (tgt := 361) hx hb dL_isHeap_335 dL_isHeap_336 (by decide) (fun c335 => ?_) (fun c335 => ?_)
                        · exfalso; omega
                        · refine lv_aload_n hx hb dL_isHeap_339 rfl (lv_at hl 1 rfl) ?_
                          refine lv_aload_n hx hb dL_isHeap_340 rfl (lv_at hl 1 rfl) ?_
                          refine lv_iload hx hb dL_isHeap_341 (lv_at hl 7 rfl) ?_
                          refine x_iconst hx hb dL_isHeap_343 (1) (by decide) (fun v343 e343 => ?_)
                          refine x_calllM (va_runV (As := [.int z, .int v343]) (rest := [.ref ((xa 0))]) ⟨hx, hb, hml, hown, hts⟩ (kX3_calendar l dC dI cI cJ cZ xa H.size u ss hR hI z v343) (cwV 2 hts gL_isHeap_X3_calendar rfl rfl rfl (by decide +kernel) ⟨Nat.le_of_ble_eq_true rfl, Nat.le_of_ble_eq_true rfl⟩) ⟨x_Mb, va_recv hK hP (ci := 3) (q0 := 0) rfl rfl, (fun U hU hW => ⟨rfl, by rw [hU], by rw [hU]; exact hP, va_K.moved hW.alike hK, hD.weaken (fun _ _ _ _ => trivial)⟩)⟩ rfl rfl hl.1 rfl (lv_room (Nat.le_of_ble_eq_true rfl)) dL_isHeap_344 ⟨Nat.zero_le _, Nat.zero_le _⟩) hS (j_fr hD hS hA) (fun r344 u H locs h344 hP1 hkk hS => ?_)
                          clear hkk
                          have hD : va_D A (wX cI cJ cZ xa u) := l_addr (wX_a u _) hD
                          have hP : va_P (dC, dI) vwCl (wX cI cJ cZ xa u) H := hP1
                          have hR := h344.1
                          have g344 := h344.2
                          rw [hzm, e343, c4] at g344
                          refine x_l2i hx hb dL_isHeap_347 (by omega) (by omega) (fun v347 e347 => ?_)
                          refine x_calllM (va_runV (As := [.int v347]) (rest := []) ⟨hx, hb, hml, hown, hts⟩ (kX3_failure l dC dI cI cJ cZ xa H.size u ss hR hI v347) (cwV 1 hts gL_isHeap_X3_failure rfl rfl rfl (by decide +kernel) ⟨Nat.le_of_ble_eq_true rfl, Nat.le_of_ble_eq_true rfl⟩) ⟨x_Mb, va_recv hK hP (ci := 3) (q0 := 0) rfl rfl, (fun U hU hW => ⟨rfl, by rw [hU], by rw [hU]; exact hP, va_K.moved hW.alike hK, hD.weaken (fun _ _ _ _ => trivial)⟩)⟩ rfl rfl hl.1 rfl (lv_room (Nat.le_of_ble_eq_true rfl)) dL_isHeap_348 ⟨Nat.zero_le _, Nat.zero_le _⟩) hS (j_fr hD hS hA) (fun r348 u H locs h348 hP1 hkk hS => ?_)
                          clear hkk
                          have hD : va_D A (wX cI cJ cZ xa u) := l_addr (wX_a u _) hD
                          have hP : va_P (dC, dI) vwCl (wX cI cJ cZ xa u) H := hP1
                          have hR := h348.1
                          have g348 := h348.2
                          rw [show v347.toInt = (c : Int) by omega, c5] at g348
                          refine lv_lload hx hb dL_isHeap_351 (lv_at hl 0 rfl) ?_
                          refine x_lcmp_ne (tgt := 361) hx hb dL_isHeap_353 dL_isHeap_354 (by decide) (fun c353 => ?_) (fun c353 => ?_)
                          · exfalso; omega
                          · refine x_iconst hx hb dL_isHeap_357 (1) (by decide) (fun v357 e357 => ?_)
                            refine lv_goto (tgt := 362) hx hb dL_isHeap_358 (by decide) ?_
                            refine lv_istore (lv' := [(4, .int v357), (9, .long r326), (0, .ref ((xa 0))), (1, .int r1), (3, .int en), (5, .int my), (6, .long be), (8, .int z)]) hx hb dL_isHeap_362 hl (by decide) rfl (fun ls hl => ?_)
                            refine lv_lload hx hb dL_isHeap_364 (lv_at hl 1 rfl) ?_
                            refine lv_lstore (lv' := [(6, .long r326), (4, .int v357), (9, .long r326), (0, .ref ((xa 0))), (1, .int r1), (3, .int en), (5, .int my), (8, .int z)]) hx hb dL_isHeap_366 hl (by decide) rfl (fun ls hl => ?_)
                            refine x_iinc (k := 7) hx hb (1) (by decide) dL_isHeap_368 hl rfl (by decide) (by omega) (by omega) (fun v368 ls e368 hl => ?_)
                            have hl : lv_has ls 16 [(8, .int v368), (6, .long r326), (4, .int v357), (9, .long r326), (0, .ref ((xa 0))), (1, .int r1), (3, .int en), (5, .int my)] := hl
                            refine lv_goto (tgt := 311) hx hb dL_isHeap_371 (by decide) ?_
                            exact ih311 (m + 1) v368 r326 v357 (by omega) (by omega) (fun d hd => by rw [g326]; exact c_mono hc hd) (by omega) (by omega) u H locs hR hP hD hS ls (lv_sub hl [4, 5, 6, 2, 7, 1, 0] rfl)
                exact loop311 _ 0 v308 v305 ok (Nat.zero_le _) (by omega) (fun c hc => by have h4 := g_er hI hc.1 hc.2.1; have h5 := hI.1; omega) hok (Nat.lt_succ_self _) u H locs hR hP hD hS ls (lv_sub hl [2, 3, 5, 6, 7, 1, 0] rfl)
              · refine lv_iload hx hb dL_isHeap_288 (lv_at hl 5 rfl) ?_
                refine lv_iload_n hx hb dL_isHeap_290 rfl (lv_at hl 2 rfl) ?_
                refine lv_iload hx hb dL_isHeap_291 (lv_at hl 6 rfl) ?_
                refine lv_ishr hx hb dL_isHeap_293 ?_
                refine x_iconst hx hb dL_isHeap_294 (1) (by decide) (fun v294 e294 => ?_)
                refine lv_iand hx hb dL_isHeap_295 ?_
                refine lv_topi (fun v295 e295 => ?_)
                have g295 : v295.toInt = (if (mL ss).1 j = true then 1 else 0) := by rw [e295, gb_and (k := j) hyj e294 (by omega), hsnF j (by omega)]
                have b295 : 0 ≤ v295.toInt ∧ v295.toInt ≤ 1 := by rw [g295]; split <;> omega
                refine x_iadd hx hb dL_isHeap_296 (by omega) (by omega) (fun v296 e296 => ?_)
                refine lv_istore (lv' := [(5, .int v296), (0, .ref ((xa 0))), (1, .int r1), (2, .int sn), (3, .int en), (4, .int ok), (6, .int y)]) hx hb dL_isHeap_297 hl (by decide) rfl (fun ls hl => ?_)
                refine x_iinc (k := 6) hx hb (1) (by decide) dL_isHeap_299 hl rfl (by decide) (by omega) (by omega) (fun v299 ls e299 hl => ?_)
                have hl : lv_has ls 16 [(6, .int v299), (5, .int v296), (0, .ref ((xa 0))), (1, .int r1), (2, .int sn), (3, .int en), (4, .int ok)] := hl
                refine lv_goto (tgt := 281) hx hb dL_isHeap_302 (by decide) ?_
                exact ih281 (j + 1) v299 v296 (by omega) (by omega) (by rw [show cntF (mL ss).1 (j + 1) = cntF (mL ss).1 j + (if (mL ss).1 j = true then 1 else 0) from rfl]; by_cases z : (mL ss).1 j = true; (rw [if_pos z] at g295 ⊢; omega); (rw [if_neg z] at g295 ⊢; omega)) (by omega) u H locs hR hP hD hS ls (lv_sub hl [2, 3, 4, 5, 6, 1, 0] rfl)
          exact loop281 _ 0 v278 v275 (Nat.zero_le _) (by omega) (by rw [e275]; rfl) (Nat.lt_succ_self _) u H locs hR hP hD hS ls (lv_sub hl [2, 3, 4, 5, 6, 1, 0] rfl)
        · have hk : i < mn ss := by omega
          obtain ⟨hp24, hpt⟩ := g_th hI hk
          have b72 := hB (ma ss i) hp24 hpt
          have b113 := rk_le (mL ss).1 (mL ss).2.1 (mL ss).2.2 (mt ss) (ma ss i) 24
          refine lv_iload hx hb dL_isHeap_31 (lv_at hl 4 rfl) ?_
          refine x_if_eq (tgt := 275) hx hb dL_isHeap_33 (by decide) (fun c33 => ?_) (fun c33 => ?_)
          · exfalso; omega
          · refine lv_aload_n hx hb dL_isHeap_36 rfl (lv_at hl 0 rfl) ?_
            refine lv_iload hx hb dL_isHeap_37 (lv_at hl 5 rfl) ?_
            refine x_calllM (va_runV (As := [.int x]) (rest := []) ⟨hx, hb, hml, hown, hts⟩ (kX3_at l dC dI cI cJ cZ xa H.size u ss hR hI x) (cwV 1 hts gL_isHeap_X3_at rfl rfl rfl (by decide +kernel) ⟨Nat.le_of_ble_eq_true rfl, Nat.le_of_ble_eq_true rfl⟩) ⟨x_Mb, va_recv hK hP (ci := 3) (q0 := 0) rfl rfl, (fun U hU hW => ⟨rfl, by rw [hU], by rw [hU]; exact hP, va_K.moved hW.alike hK, hD.weaken (fun _ _ _ _ => trivial)⟩)⟩ rfl rfl hl.1 rfl (lv_room (Nat.le_of_ble_eq_true rfl)) dL_isHeap_39 ⟨Nat.zero_le _, Nat.zero_le _⟩) hS (j_fr hD hS hA) (fun r39 u H locs h39 hP1 hkk hS => ?_)
            clear hkk
            have hD : va_D A (wX cI cJ cZ xa u) := l_addr (wX_a u _) hD
            have hP : va_P (dC, dI) vwCl (wX cI cJ cZ xa u) H := hP1
            have hR := h39.1
            have g39 := h39.2
            rw [hxi, g_at hk] at g39
            refine lv_lstore (lv' := [(6, .long r39), (0, .ref ((xa 0))), (1, .int r1), (2, .int sn), (3, .int en), (4, .int ok), (5, .int x)]) hx hb dL_isHeap_42 hl (by decide) rfl (fun ls hl => ?_)
            refine lv_iload_n hx hb dL_isHeap_44 rfl (lv_at hl 3 rfl) ?_
            refine x_iconst hx hb dL_isHeap_45 (1) (by decide) (fun v45 e45 => ?_)
            refine lv_lload hx hb dL_isHeap_46 (lv_at hl 0 rfl) ?_
            refine x_l2i hx hb dL_isHeap_48 (by omega) (by omega) (fun v48 e48 => ?_)
            refine lv_ishl hx hb dL_isHeap_49 ?_
            refine lv_ior hx hb dL_isHeap_50 ?_
            refine lv_topi (fun v50 e50 => ?_)
            have hsn2 : ∀ q : Nat, q < 24 → g_bt v50 q = htF (ma ss) q (i + 1) := fun q hq => by rw [e50, gb_or (p := ma ss i) (by omega) e45 hp24 hq, hsn q hq]; rfl
            refine lv_istore_n (lv' := [(2, .int v50), (6, .long r39), (0, .ref ((xa 0))), (1, .int r1), (3, .int en), (4, .int ok), (5, .int x)]) hx hb dL_isHeap_51 rfl hl (by decide) rfl (fun ls hl => ?_)
            refine lv_aload_n hx hb dL_isHeap_52 rfl (lv_at hl 2 rfl) ?_
            refine lv_lload hx hb dL_isHeap_53 (lv_at hl 1 rfl) ?_
            refine x_l2i hx hb dL_isHeap_55 (by omega) (by omega) (fun v55 e55 => ?_)
            refine x_iconst hx hb dL_isHeap_56 (2) (by decide) (fun v56 e56 => ?_)
            refine x_calllM (va_runV (As := [.int v55, .int v56]) (rest := []) ⟨hx, hb, hml, hown, hts⟩ (kX3_point l dC dI cI cJ cZ xa H.size u ss hR hI v55 v56) (cwV 2 hts gL_isHeap_X3_point rfl rfl rfl (by decide +kernel) ⟨Nat.le_of_ble_eq_true rfl, Nat.le_of_ble_eq_true rfl⟩) ⟨x_Mb, va_recv hK hP (ci := 3) (q0 := 0) rfl rfl, (fun U hU hW => ⟨rfl, by rw [hU], by rw [hU]; exact hP, va_K.moved hW.alike hK, hD.weaken (fun _ _ _ _ => trivial)⟩)⟩ rfl rfl hl.1 rfl (lv_room (Nat.le_of_ble_eq_true rfl)) dL_isHeap_57 ⟨Nat.zero_le _, Nat.zero_le _⟩) hS (j_fr hD hS hA) (fun r57 u H locs h57 hP1 hkk hS => ?_)
            clear hkk
            have hD : va_D A (wX cI cJ cZ xa u) := l_addr (wX_a u _) hD
            have hP : va_P (dC, dI) vwCl (wX cI cJ cZ xa u) H := hP1
            have hR := h57.1
            have g57 := h57.2
            rw [show v55.toInt = (ma ss i : Int) by omega, e56, g_p2 hI hk] at g57
            refine lv_iload hx hb dL_isHeap_60 (lv_at hl 6 rfl) ?_
            refine x_i2l hx hb dL_isHeap_62 (fun v62 e62 => ?_)
            refine x_lcmp_ne (tgt := 134) hx hb dL_isHeap_63 dL_isHeap_64 (by decide) (fun c63 => ?_) (fun c63 => ?_)
            · exfalso; omega
            · refine lv_aload_n hx hb dL_isHeap_67 rfl (lv_at hl 2 rfl) ?_
              refine lv_lload hx hb dL_isHeap_68 (lv_at hl 1 rfl) ?_
              refine x_l2i hx hb dL_isHeap_70 (by omega) (by omega) (fun v70 e70 => ?_)
              refine x_iconst hx hb dL_isHeap_71 (3) (by decide) (fun v71 e71 => ?_)
              refine x_calllM (va_runV (As := [.int v70, .int v71]) (rest := []) ⟨hx, hb, hml, hown, hts⟩ (kX3_point l dC dI cI cJ cZ xa H.size u ss hR hI v70 v71) (cwV 2 hts gL_isHeap_X3_point rfl rfl rfl (by decide +kernel) ⟨Nat.le_of_ble_eq_true rfl, Nat.le_of_ble_eq_true rfl⟩) ⟨x_Mb, va_recv hK hP (ci := 3) (q0 := 0) rfl rfl, (fun U hU hW => ⟨rfl, by rw [hU], by rw [hU]; exact hP, va_K.moved hW.alike hK, hD.weaken (fun _ _ _ _ => trivial)⟩)⟩ rfl rfl hl.1 rfl (lv_room (Nat.le_of_ble_eq_true rfl)) dL_isHeap_72 ⟨Nat.zero_le _, Nat.zero_le _⟩) hS (j_fr hD hS hA) (fun r72 u H locs h72 hP1 hkk hS => ?_)
              clear hkk
              have hD : va_D A (wX cI cJ cZ xa u) := l_addr (wX_a u _) hD
              have hP : va_P (dC, dI) vwCl (wX cI cJ cZ xa u) H := hP1
              have hR := h72.1
              have g72 := h72.2
              rw [show v70.toInt = (ma ss i : Int) by omega, e71, g_p3 hp24 hpt] at g72
              refine lv_aload_n hx hb dL_isHeap_75 rfl (lv_at hl 2 rfl) ?_
              refine x_calliM (va_runV (As := []) (rest := [.long r72]) ⟨hx, hb, hml, hown, hts⟩ (kX3_time l dC dI cI cJ cZ xa H.size u ss hR hI) (cwV 0 hts gL_isHeap_X3_time rfl rfl rfl (by decide +kernel) ⟨Nat.le_of_ble_eq_true rfl, Nat.le_of_ble_eq_true rfl⟩) ⟨x_Mb, va_recv hK hP (ci := 3) (q0 := 0) rfl rfl, (fun U hU hW => ⟨rfl, by rw [hU], by rw [hU]; exact hP, va_K.moved hW.alike hK, hD.weaken (fun _ _ _ _ => trivial)⟩)⟩ rfl rfl hl.1 rfl (lv_room (Nat.le_of_ble_eq_true rfl)) dL_isHeap_76 ⟨Nat.zero_le _, Nat.zero_le _⟩) hS (j_fr hD hS hA) (fun r76 u H locs h76 hP1 hkk hS => ?_)
              clear hkk
              have hD : va_D A (wX cI cJ cZ xa u) := l_addr (wX_a u _) hD
              have hP : va_P (dC, dI) vwCl (wX cI cJ cZ xa u) H := hP1
              have hR := h76.1
              have g76 := h76.2
              refine x_i2l hx hb dL_isHeap_79 (fun v79 e79 => ?_)
              refine x_lcmp_gt (tgt := 134) hx hb dL_isHeap_80 dL_isHeap_81 (by decide) (fun c80 => ?_) (fun c80 => ?_)
              · exfalso; omega
              · refine lv_aload_n hx hb dL_isHeap_84 rfl (lv_at hl 2 rfl) ?_
                refine lv_lload hx hb dL_isHeap_85 (lv_at hl 1 rfl) ?_
                refine x_l2i hx hb dL_isHeap_87 (by omega) (by omega) (fun v87 e87 => ?_)
                refine lv_aload_n hx hb dL_isHeap_88 rfl (lv_at hl 2 rfl) ?_
                refine x_calliM (va_runV (As := []) (rest := [.int v87, .ref ((xa 0))]) ⟨hx, hb, hml, hown, hts⟩ (kX3_time l dC dI cI cJ cZ xa H.size u ss hR hI) (cwV 0 hts gL_isHeap_X3_time rfl rfl rfl (by decide +kernel) ⟨Nat.le_of_ble_eq_true rfl, Nat.le_of_ble_eq_true rfl⟩) ⟨x_Mb, va_recv hK hP (ci := 3) (q0 := 0) rfl rfl, (fun U hU hW => ⟨rfl, by rw [hU], by rw [hU]; exact hP, va_K.moved hW.alike hK, hD.weaken (fun _ _ _ _ => trivial)⟩)⟩ rfl rfl hl.1 rfl (lv_room (Nat.le_of_ble_eq_true rfl)) dL_isHeap_89 ⟨Nat.zero_le _, Nat.zero_le _⟩) hS (j_fr hD hS hA) (fun r89 u H locs h89 hP1 hkk hS => ?_)
                clear hkk
                have hD : va_D A (wX cI cJ cZ xa u) := l_addr (wX_a u _) hD
                have hP : va_P (dC, dI) vwCl (wX cI cJ cZ xa u) H := hP1
                have hR := h89.1
                have g89 := h89.2
                refine x_calllM (va_runV (As := [.int v87, .int r89]) (rest := []) ⟨hx, hb, hml, hown, hts⟩ (kX3_valueAt l dC dI cI cJ cZ xa H.size u ss hR hI v87 r89) (cwV 2 hts gL_isHeap_X3_valueAt rfl rfl rfl (by decide +kernel) ⟨Nat.le_of_ble_eq_true rfl, Nat.le_of_ble_eq_true rfl⟩) ⟨x_Mb, va_recv hK hP (ci := 3) (q0 := 0) rfl rfl, (fun U hU hW => ⟨rfl, by rw [hU], by rw [hU]; exact hP, va_K.moved hW.alike hK, hD.weaken (fun _ _ _ _ => trivial)⟩)⟩ rfl rfl hl.1 rfl (lv_room (Nat.le_of_ble_eq_true rfl)) dL_isHeap_92 ⟨Nat.zero_le _, Nat.zero_le _⟩) hS (j_fr hD hS hA) (fun r92 u H locs h92 hP1 hkk hS => ?_)
                clear hkk
                have hD : va_D A (wX cI cJ cZ xa u) := l_addr (wX_a u _) hD
                have hP : va_P (dC, dI) vwCl (wX cI cJ cZ xa u) H := hP1
                have hR := h92.1
                have g92 := h92.2
                rw [show v87.toInt = (ma ss i : Int) by omega, g89, g_va hI hp24 hpt] at g92
                refine lv_aload_n hx hb dL_isHeap_95 rfl (lv_at hl 2 rfl) ?_
                refine lv_lload hx hb dL_isHeap_96 (lv_at hl 1 rfl) ?_
                refine x_l2i hx hb dL_isHeap_98 (by omega) (by omega) (fun v98 e98 => ?_)
                refine x_iconst hx hb dL_isHeap_99 (0) (by decide) (fun v99 e99 => ?_)
                refine x_calllM (va_runV (As := [.int v98, .int v99]) (rest := [.long r92]) ⟨hx, hb, hml, hown, hts⟩ (kX3_point l dC dI cI cJ cZ xa H.size u ss hR hI v98 v99) (cwV 2 hts gL_isHeap_X3_point rfl rfl rfl (by decide +kernel) ⟨Nat.le_of_ble_eq_true rfl, Nat.le_of_ble_eq_true rfl⟩) ⟨x_Mb, va_recv hK hP (ci := 3) (q0 := 0) rfl rfl, (fun U hU hW => ⟨rfl, by rw [hU], by rw [hU]; exact hP, va_K.moved hW.alike hK, hD.weaken (fun _ _ _ _ => trivial)⟩)⟩ rfl rfl hl.1 rfl (lv_room (Nat.le_of_ble_eq_true rfl)) dL_isHeap_100 ⟨Nat.zero_le _, Nat.zero_le _⟩) hS (j_fr hD hS hA) (fun r100 u H locs h100 hP1 hkk hS => ?_)
                clear hkk
                have hD : va_D A (wX cI cJ cZ xa u) := l_addr (wX_a u _) hD
                have hP : va_P (dC, dI) vwCl (wX cI cJ cZ xa u) H := hP1
                have hR := h100.1
                have g100 := h100.2
                rw [show v98.toInt = (ma ss i : Int) by omega, e99, g_p0 hp24 hpt] at g100
                refine x_lcmp_ne (tgt := 134) hx hb dL_isHeap_103 dL_isHeap_104 (by decide) (fun c103 => ?_) (fun c103 => ?_)
                · exfalso; omega
                · refine lv_aload_n hx hb dL_isHeap_107 rfl (lv_at hl 2 rfl) ?_
                  refine lv_aload_n hx hb dL_isHeap_108 rfl (lv_at hl 2 rfl) ?_
                  refine lv_lload hx hb dL_isHeap_109 (lv_at hl 1 rfl) ?_
                  refine x_l2i hx hb dL_isHeap_111 (by omega) (by omega) (fun v111 e111 => ?_)
                  refine x_iconst hx hb dL_isHeap_112 (4) (by decide) (fun v112 e112 => ?_)
                  refine x_calllM (va_runV (As := [.int v111, .int v112]) (rest := [.ref ((xa 0))]) ⟨hx, hb, hml, hown, hts⟩ (kX3_point l dC dI cI cJ cZ xa H.size u ss hR hI v111 v112) (cwV 2 hts gL_isHeap_X3_point rfl rfl rfl (by decide +kernel) ⟨Nat.le_of_ble_eq_true rfl, Nat.le_of_ble_eq_true rfl⟩) ⟨x_Mb, va_recv hK hP (ci := 3) (q0 := 0) rfl rfl, (fun U hU hW => ⟨rfl, by rw [hU], by rw [hU]; exact hP, va_K.moved hW.alike hK, hD.weaken (fun _ _ _ _ => trivial)⟩)⟩ rfl rfl hl.1 rfl (lv_room (Nat.le_of_ble_eq_true rfl)) dL_isHeap_113 ⟨Nat.zero_le _, Nat.zero_le _⟩) hS (j_fr hD hS hA) (fun r113 u H locs h113 hP1 hkk hS => ?_)
                  clear hkk
                  have hD : va_D A (wX cI cJ cZ xa u) := l_addr (wX_a u _) hD
                  have hP : va_P (dC, dI) vwCl (wX cI cJ cZ xa u) H := hP1
                  have hR := h113.1
                  have g113 := h113.2
                  rw [show v111.toInt = (ma ss i : Int) by omega, e112, g_p4 hp24 hpt] at g113
                  refine x_l2i hx hb dL_isHeap_116 (by omega) (by omega) (fun v116 e116 => ?_)
                  refine lv_aload_n hx hb dL_isHeap_117 rfl (lv_at hl 2 rfl) ?_
                  refine x_calliM (va_runV (As := []) (rest := [.int v116, .ref ((xa 0))]) ⟨hx, hb, hml, hown, hts⟩ (kX3_time l dC dI cI cJ cZ xa H.size u ss hR hI) (cwV 0 hts gL_isHeap_X3_time rfl rfl rfl (by decide +kernel) ⟨Nat.le_of_ble_eq_true rfl, Nat.le_of_ble_eq_true rfl⟩) ⟨x_Mb, va_recv hK hP (ci := 3) (q0 := 0) rfl rfl, (fun U hU hW => ⟨rfl, by rw [hU], by rw [hU]; exact hP, va_K.moved hW.alike hK, hD.weaken (fun _ _ _ _ => trivial)⟩)⟩ rfl rfl hl.1 rfl (lv_room (Nat.le_of_ble_eq_true rfl)) dL_isHeap_118 ⟨Nat.zero_le _, Nat.zero_le _⟩) hS (j_fr hD hS hA) (fun r118 u H locs h118 hP1 hkk hS => ?_)
                  clear hkk
                  have hD : va_D A (wX cI cJ cZ xa u) := l_addr (wX_a u _) hD
                  have hP : va_P (dC, dI) vwCl (wX cI cJ cZ xa u) H := hP1
                  have hR := h118.1
                  have g118 := h118.2
                  refine x_calllM (va_runV (As := [.int v116, .int r118]) (rest := []) ⟨hx, hb, hml, hown, hts⟩ (kX3_orderAt l dC dI cI cJ cZ xa H.size u ss hR hI v116 r118) (cwV 2 hts gL_isHeap_X3_orderAt rfl rfl rfl (by decide +kernel) ⟨Nat.le_of_ble_eq_true rfl, Nat.le_of_ble_eq_true rfl⟩) ⟨x_Mb, va_recv hK hP (ci := 3) (q0 := 0) rfl rfl, (fun U hU hW => ⟨rfl, by rw [hU], by rw [hU]; exact hP, va_K.moved hW.alike hK, hD.weaken (fun _ _ _ _ => trivial)⟩)⟩ rfl rfl hl.1 rfl (lv_room (Nat.le_of_ble_eq_true rfl)) dL_isHeap_121 ⟨Nat.zero_le _, Nat.zero_le _⟩) hS (j_fr hD hS hA) (fun r121 u H locs h121 hP1 hkk hS => ?_)
                  clear hkk
                  have hD : va_D A (wX cI cJ cZ xa u) := l_addr (wX_a u _) hD
                  have hP : va_P (dC, dI) vwCl (wX cI cJ cZ xa u) H := hP1
                  have hR := h121.1
                  have g121 := h121.2
                  rw [show v116.toInt = (rkF (mL ss).1 (mL ss).2.1 (mL ss).2.2 (mt ss) (ma ss i) 24 : Int) by omega, g118, g_ora hI hp24 hpt] at g121
                  refine lv_lload hx hb dL_isHeap_124 (lv_at hl 1 rfl) ?_
                  refine x_lcmp_ne (tgt := 134) hx hb dL_isHeap_126 dL_isHeap_127 (by decide) (fun c126 => ?_) (fun c126 => ?_)
                  · exfalso; omega
                  · refine x_iconst hx hb dL_isHeap_130 (1) (by decide) (fun v130 e130 => ?_)
                    refine lv_goto (tgt := 135) hx hb dL_isHeap_131 (by decide) ?_
                    refine lv_istore (lv' := [(4, .int v130), (2, .int v50), (6, .long r39), (0, .ref ((xa 0))), (1, .int r1), (3, .int en), (5, .int x)]) hx hb dL_isHeap_135 hl (by decide) rfl (fun ls hl => ?_)
                    refine lv_iload hx hb dL_isHeap_137 (lv_at hl 6 rfl) ?_
                    refine x_if_le (tgt := 269) hx hb dL_isHeap_139 (by decide) (fun c139 => ?_) (fun c139 => ?_)
                    · have zc : ¬ cC (erS ss) i = true := fun z => by have := cC_iff.mp z; omega
                      refine x_iinc (k := 6) hx hb (1) (by decide) dL_isHeap_269 hl rfl (by decide) (by omega) (by omega) (fun v269 ls e269 hl => ?_)
                      have hl : lv_has ls 16 [(5, .int v269), (4, .int v130), (2, .int v50), (6, .long r39), (0, .ref ((xa 0))), (1, .int r1), (3, .int en)] := hl
                      refine lv_goto (tgt := 25) hx hb dL_isHeap_272 (by decide) ?_
                      exact ih25 (i + 1) v269 v50 en v130 (by omega) (by omega) hsn2 (by show _ = ((cntF (cC (erS ss)) i + (if cC (erS ss) i = true then 1 else 0) : Nat) : Int); rw [if_neg zc]; omega) (by omega) (by omega) u H locs hR hP hD hS ls (lv_sub hl [4, 5, 2, 6, 1, 0] rfl)
                    · refine lv_iload hx hb dL_isHeap_142 (lv_at hl 0 rfl) ?_
                      refine x_if_eq (tgt := 269) hx hb dL_isHeap_144 (by decide) (fun c144 => ?_) (fun c144 => ?_)
                      · exfalso; omega
                      · refine lv_aload_n hx hb dL_isHeap_147 rfl (lv_at hl 3 rfl) ?_
                        refine lv_iload hx hb dL_isHeap_148 (lv_at hl 6 rfl) ?_
                        refine x_iconst hx hb dL_isHeap_150 (1) (by decide) (fun v150 e150 => ?_)
                        refine x_isub hx hb dL_isHeap_151 (by omega) (by omega) (fun v151 e151 => ?_)
                        refine x_iconst hx hb dL_isHeap_152 (2) (by decide) (fun v152 e152 => ?_)
                        refine x_idiv hx hb dL_isHeap_153 (by omega) (by omega) (fun v153 e153 => ?_)
                        refine x_calllM (va_runV (As := [.int v153]) (rest := []) ⟨hx, hb, hml, hown, hts⟩ (kX3_at l dC dI cI cJ cZ xa H.size u ss hR hI v153) (cwV 1 hts gL_isHeap_X3_at rfl rfl rfl (by decide +kernel) ⟨Nat.le_of_ble_eq_true rfl, Nat.le_of_ble_eq_true rfl⟩) ⟨x_Mb, va_recv hK hP (ci := 3) (q0 := 0) rfl rfl, (fun U hU hW => ⟨rfl, by rw [hU], by rw [hU]; exact hP, va_K.moved hW.alike hK, hD.weaken (fun _ _ _ _ => trivial)⟩)⟩ rfl rfl hl.1 rfl (lv_room (Nat.le_of_ble_eq_true rfl)) dL_isHeap_154 ⟨Nat.zero_le _, Nat.zero_le _⟩) hS (j_fr hD hS hA) (fun r154 u H locs h154 hP1 hkk hS => ?_)
                        clear hkk
                        have hD : va_D A (wX cI cJ cZ xa u) := l_addr (wX_a u _) hD
                        have hP : va_P (dC, dI) vwCl (wX cI cJ cZ xa u) H := hP1
                        have hR := h154.1
                        have g154 := h154.2
                        have q153 : v153.toInt = (((i - 1) / 2 : Nat) : Int) := by rw [e153, e152]; omega
                        rw [q153, g_at (show (i - 1) / 2 < mn ss by omega)] at g154
                        obtain ⟨hq24, hqt⟩ := g_th hI (show (i - 1) / 2 < mn ss by omega)
                        refine lv_lstore (lv' := [(8, .long r154), (4, .int v130), (2, .int v50), (6, .long r39), (0, .ref ((xa 0))), (1, .int r1), (3, .int en), (5, .int x)]) hx hb dL_isHeap_157 hl (by decide) rfl (fun ls hl => ?_)
                        refine lv_aload_n hx hb dL_isHeap_159 rfl (lv_at hl 4 rfl) ?_
                        refine lv_lload hx hb dL_isHeap_160 (lv_at hl 0 rfl) ?_
                        refine x_l2i hx hb dL_isHeap_162 (by omega) (by omega) (fun v162 e162 => ?_)
                        refine x_iconst hx hb dL_isHeap_163 (0) (by decide) (fun v163 e163 => ?_)
                        refine x_calllM (va_runV (As := [.int v162, .int v163]) (rest := []) ⟨hx, hb, hml, hown, hts⟩ (kX3_point l dC dI cI cJ cZ xa H.size u ss hR hI v162 v163) (cwV 2 hts gL_isHeap_X3_point rfl rfl rfl (by decide +kernel) ⟨Nat.le_of_ble_eq_true rfl, Nat.le_of_ble_eq_true rfl⟩) ⟨x_Mb, va_recv hK hP (ci := 3) (q0 := 0) rfl rfl, (fun U hU hW => ⟨rfl, by rw [hU], by rw [hU]; exact hP, va_K.moved hW.alike hK, hD.weaken (fun _ _ _ _ => trivial)⟩)⟩ rfl rfl hl.1 rfl (lv_room (Nat.le_of_ble_eq_true rfl)) dL_isHeap_164 ⟨Nat.zero_le _, Nat.zero_le _⟩) hS (j_fr hD hS hA) (fun r164 u H locs h164 hP1 hkk hS => ?_)
                        clear hkk
                        have hD : va_D A (wX cI cJ cZ xa u) := l_addr (wX_a u _) hD
                        have hP : va_P (dC, dI) vwCl (wX cI cJ cZ xa u) H := hP1
                        have hR := h164.1
                        have g164 := h164.2
                        rw [show v162.toInt = (ma ss ((i - 1) / 2) : Int) by omega, e163, g_p0 hq24 hqt] at g164
                        refine lv_lstore (lv' := [(10, .long r164), (8, .long r154), (4, .int v130), (2, .int v50), (6, .long r39), (0, .ref ((xa 0))), (1, .int r1), (3, .int en), (5, .int x)]) hx hb dL_isHeap_167 hl (by decide) rfl (fun ls hl => ?_)
                        refine lv_aload_n hx hb dL_isHeap_169 rfl (lv_at hl 5 rfl) ?_
                        refine lv_lload hx hb dL_isHeap_170 (lv_at hl 4 rfl) ?_
                        refine x_l2i hx hb dL_isHeap_172 (by omega) (by omega) (fun v172 e172 => ?_)
                        refine x_iconst hx hb dL_isHeap_173 (0) (by decide) (fun v173 e173 => ?_)
                        refine x_calllM (va_runV (As := [.int v172, .int v173]) (rest := []) ⟨hx, hb, hml, hown, hts⟩ (kX3_point l dC dI cI cJ cZ xa H.size u ss hR hI v172 v173) (cwV 2 hts gL_isHeap_X3_point rfl rfl rfl (by decide +kernel) ⟨Nat.le_of_ble_eq_true rfl, Nat.le_of_ble_eq_true rfl⟩) ⟨x_Mb, va_recv hK hP (ci := 3) (q0 := 0) rfl rfl, (fun U hU hW => ⟨rfl, by rw [hU], by rw [hU]; exact hP, va_K.moved hW.alike hK, hD.weaken (fun _ _ _ _ => trivial)⟩)⟩ rfl rfl hl.1 rfl (lv_room (Nat.le_of_ble_eq_true rfl)) dL_isHeap_174 ⟨Nat.zero_le _, Nat.zero_le _⟩) hS (j_fr hD hS hA) (fun r174 u H locs h174 hP1 hkk hS => ?_)
                        clear hkk
                        have hD : va_D A (wX cI cJ cZ xa u) := l_addr (wX_a u _) hD
                        have hP : va_P (dC, dI) vwCl (wX cI cJ cZ xa u) H := hP1
                        have hR := h174.1
                        have g174 := h174.2
                        rw [show v172.toInt = (ma ss i : Int) by omega, e173, g_p0 hp24 hpt] at g174
                        refine lv_lstore (lv' := [(12, .long r174), (10, .long r164), (8, .long r154), (4, .int v130), (2, .int v50), (6, .long r39), (0, .ref ((xa 0))), (1, .int r1), (3, .int en), (5, .int x)]) hx hb dL_isHeap_177 hl (by decide) rfl (fun ls hl => ?_)
                        refine lv_aload_n hx hb dL_isHeap_179 rfl (lv_at hl 6 rfl) ?_
                        refine lv_iload hx hb dL_isHeap_180 (lv_at hl 9 rfl) ?_
                        refine x_calllM (va_runV (As := [.int x]) (rest := []) ⟨hx, hb, hml, hown, hts⟩ (kX3_failure l dC dI cI cJ cZ xa H.size u ss hR hI x) (cwV 1 hts gL_isHeap_X3_failure rfl rfl rfl (by decide +kernel) ⟨Nat.le_of_ble_eq_true rfl, Nat.le_of_ble_eq_true rfl⟩) ⟨x_Mb, va_recv hK hP (ci := 3) (q0 := 0) rfl rfl, (fun U hU hW => ⟨rfl, by rw [hU], by rw [hU]; exact hP, va_K.moved hW.alike hK, hD.weaken (fun _ _ _ _ => trivial)⟩)⟩ rfl rfl hl.1 rfl (lv_room (Nat.le_of_ble_eq_true rfl)) dL_isHeap_182 ⟨Nat.zero_le _, Nat.zero_le _⟩) hS (j_fr hD hS hA) (fun r182 u H locs h182 hP1 hkk hS => ?_)
                        clear hkk
                        have hD : va_D A (wX cI cJ cZ xa u) := l_addr (wX_a u _) hD
                        have hP : va_P (dC, dI) vwCl (wX cI cJ cZ xa u) H := hP1
                        have hR := h182.1
                        have g182 := h182.2
                        rw [hxi, g_fai (show 1 ≤ i by omega) hk] at g182
                        have t182 := g_ton hI (k := i) (by omega) hk
                        have o182 := g_ord hI (k := i) (by omega) hk
                        have a182 : aNF = -1000000000004 := rfl
                        refine lv_lstore (lv' := [(14, .long r182), (12, .long r174), (10, .long r164), (8, .long r154), (4, .int v130), (2, .int v50), (6, .long r39), (0, .ref ((xa 0))), (1, .int r1), (3, .int en), (5, .int x)]) hx hb dL_isHeap_185 hl (by decide) rfl (fun ls hl => ?_)
                        refine lv_iload_n hx hb dL_isHeap_187 rfl (lv_at hl 9 rfl) ?_
                        refine lv_lload hx hb dL_isHeap_188 (lv_at hl 0 rfl) ?_
                        refine x_lconst hx hb dL_isHeap_190 (0) (by decide) (fun v190 e190 => ?_)
                        refine x_lcmp_lt (tgt := 199) hx hb dL_isHeap_191 dL_isHeap_192 (by decide) (fun c191 => ?_) (fun c191 => ?_)
                        · have zc : ¬ cC (erS ss) i = true := fun z => by have z2 := cC_iff.mp z; rcases t182 with y | y <;> omega
                          refine x_iconst hx hb dL_isHeap_199 (0) (by decide) (fun v199 e199 => ?_)
                          refine x_iadd hx hb dL_isHeap_200 (by omega) (by omega) (fun v200 e200 => ?_)
                          refine lv_istore_n (lv' := [(3, .int v200), (14, .long r182), (12, .long r174), (10, .long r164), (8, .long r154), (4, .int v130), (2, .int v50), (6, .long r39), (0, .ref ((xa 0))), (1, .int r1), (5, .int x)]) hx hb dL_isHeap_201 rfl hl (by decide) rfl (fun ls hl => ?_)
                          refine lv_lload hx hb dL_isHeap_202 (lv_at hl 3 rfl) ?_
                          refine lv_lload hx hb dL_isHeap_204 (lv_at hl 2 rfl) ?_
                          refine x_lcmp_lt (tgt := 226) hx hb dL_isHeap_206 dL_isHeap_207 (by decide) (fun c206 => ?_) (fun c206 => ?_)
                          · refine lv_lload hx hb dL_isHeap_226 (lv_at hl 1 rfl) ?_
                            refine x_ldc2 hx hb hown (hts (.constantLong RL 35 (-1000000000004)) (List.mem_of_getElem? (i := 1) rfl)) dL_isHeap_228 (-1000000000004) (by decide) (fun v228 e228 => ?_)
                            refine x_lcmp_eq (tgt := 246) hx hb dL_isHeap_231 dL_isHeap_232 (by decide) (fun c231 => ?_) (fun c231 => ?_)
                            · refine lv_aload_n hx hb dL_isHeap_246 rfl (lv_at hl 8 rfl) ?_
                              refine lv_lload hx hb dL_isHeap_247 (lv_at hl 7 rfl) ?_
                              refine x_l2i hx hb dL_isHeap_249 (by omega) (by omega) (fun v249 e249 => ?_)
                              refine lv_lload hx hb dL_isHeap_250 (lv_at hl 4 rfl) ?_
                              refine x_l2i hx hb dL_isHeap_252 (by omega) (by omega) (fun v252 e252 => ?_)
                              refine x_calllM (va_runV (As := [.int v249, .int v252]) (rest := []) ⟨hx, hb, hml, hown, hts⟩ (kX3_meeting l dC dI cI cJ cZ xa H.size u ss hR hI v249 v252) (cwV 2 hts gL_isHeap_X3_meeting rfl rfl rfl (by decide +kernel) ⟨Nat.le_of_ble_eq_true rfl, Nat.le_of_ble_eq_true rfl⟩) ⟨x_Mb, va_recv hK hP (ci := 3) (q0 := 0) rfl rfl, (fun U hU hW => ⟨rfl, by rw [hU], by rw [hU]; exact hP, va_K.moved hW.alike hK, hD.weaken (fun _ _ _ _ => trivial)⟩)⟩ rfl rfl hl.1 rfl (lv_room (Nat.le_of_ble_eq_true rfl)) dL_isHeap_253 ⟨Nat.zero_le _, Nat.zero_le _⟩) hS (j_fr hD hS hA) (fun r253 u H locs h253 hP1 hkk hS => ?_)
                              clear hkk
                              have hD : va_D A (wX cI cJ cZ xa u) := l_addr (wX_a u _) hD
                              have hP : va_P (dC, dI) vwCl (wX cI cJ cZ xa u) H := hP1
                              have hR := h253.1
                              have g253 := h253.2
                              rw [show v249.toInt = (ma ss i : Int) by omega, show v252.toInt = (ma ss ((i - 1) / 2) : Int) by omega, g_met hI (show 1 ≤ i by omega) hk] at g253
                              refine lv_lload hx hb dL_isHeap_256 (lv_at hl 1 rfl) ?_
                              refine x_lcmp_ne (tgt := 266) hx hb dL_isHeap_258 dL_isHeap_259 (by decide) (fun c258 => ?_) (fun c258 => ?_)
                              · exfalso; omega
                              · refine x_iconst hx hb dL_isHeap_262 (1) (by decide) (fun v262 e262 => ?_)
                                refine lv_goto (tgt := 267) hx hb dL_isHeap_263 (by decide) ?_
                                refine lv_istore (lv' := [(4, .int v262), (3, .int v200), (14, .long r182), (12, .long r174), (10, .long r164), (8, .long r154), (2, .int v50), (6, .long r39), (0, .ref ((xa 0))), (1, .int r1), (5, .int x)]) hx hb dL_isHeap_267 hl (by decide) rfl (fun ls hl => ?_)
                                refine x_iinc (k := 10) hx hb (1) (by decide) dL_isHeap_269 hl rfl (by decide) (by omega) (by omega) (fun v269 ls e269 hl => ?_)
                                have hl : lv_has ls 16 [(5, .int v269), (4, .int v262), (3, .int v200), (14, .long r182), (12, .long r174), (10, .long r164), (8, .long r154), (2, .int v50), (6, .long r39), (0, .ref ((xa 0))), (1, .int r1)] := hl
                                refine lv_goto (tgt := 25) hx hb dL_isHeap_272 (by decide) ?_
                                exact ih25 (i + 1) v269 v50 v200 v262 (by omega) (by omega) hsn2 (by show _ = ((cntF (cC (erS ss)) i + (if cC (erS ss) i = true then 1 else 0) : Nat) : Int); rw [if_neg zc]; omega) (by omega) (by omega) u H locs hR hP hD hS ls (lv_sub hl [9, 10, 7, 2, 1, 0] rfl)
                            · refine lv_lload hx hb dL_isHeap_235 (lv_at hl 1 rfl) ?_
                              refine lv_aload_n hx hb dL_isHeap_237 rfl (lv_at hl 8 rfl) ?_
                              refine x_calliM (va_runV (As := []) (rest := [.long r182]) ⟨hx, hb, hml, hown, hts⟩ (kX3_time l dC dI cI cJ cZ xa H.size u ss hR hI) (cwV 0 hts gL_isHeap_X3_time rfl rfl rfl (by decide +kernel) ⟨Nat.le_of_ble_eq_true rfl, Nat.le_of_ble_eq_true rfl⟩) ⟨x_Mb, va_recv hK hP (ci := 3) (q0 := 0) rfl rfl, (fun U hU hW => ⟨rfl, by rw [hU], by rw [hU]; exact hP, va_K.moved hW.alike hK, hD.weaken (fun _ _ _ _ => trivial)⟩)⟩ rfl rfl hl.1 rfl (lv_room (Nat.le_of_ble_eq_true rfl)) dL_isHeap_238 ⟨Nat.zero_le _, Nat.zero_le _⟩) hS (j_fr hD hS hA) (fun r238 u H locs h238 hP1 hkk hS => ?_)
                              clear hkk
                              have hD : va_D A (wX cI cJ cZ xa u) := l_addr (wX_a u _) hD
                              have hP : va_P (dC, dI) vwCl (wX cI cJ cZ xa u) H := hP1
                              have hR := h238.1
                              have g238 := h238.2
                              refine x_i2l hx hb dL_isHeap_241 (fun v241 e241 => ?_)
                              refine x_lcmp_le (tgt := 266) hx hb dL_isHeap_242 dL_isHeap_243 (by decide) (fun c242 => ?_) (fun c242 => ?_)
                              · exfalso; omega
                              · refine lv_aload_n hx hb dL_isHeap_246 rfl (lv_at hl 8 rfl) ?_
                                refine lv_lload hx hb dL_isHeap_247 (lv_at hl 7 rfl) ?_
                                refine x_l2i hx hb dL_isHeap_249 (by omega) (by omega) (fun v249 e249 => ?_)
                                refine lv_lload hx hb dL_isHeap_250 (lv_at hl 4 rfl) ?_
                                refine x_l2i hx hb dL_isHeap_252 (by omega) (by omega) (fun v252 e252 => ?_)
                                refine x_calllM (va_runV (As := [.int v249, .int v252]) (rest := []) ⟨hx, hb, hml, hown, hts⟩ (kX3_meeting l dC dI cI cJ cZ xa H.size u ss hR hI v249 v252) (cwV 2 hts gL_isHeap_X3_meeting rfl rfl rfl (by decide +kernel) ⟨Nat.le_of_ble_eq_true rfl, Nat.le_of_ble_eq_true rfl⟩) ⟨x_Mb, va_recv hK hP (ci := 3) (q0 := 0) rfl rfl, (fun U hU hW => ⟨rfl, by rw [hU], by rw [hU]; exact hP, va_K.moved hW.alike hK, hD.weaken (fun _ _ _ _ => trivial)⟩)⟩ rfl rfl hl.1 rfl (lv_room (Nat.le_of_ble_eq_true rfl)) dL_isHeap_253 ⟨Nat.zero_le _, Nat.zero_le _⟩) hS (j_fr hD hS hA) (fun r253 u H locs h253 hP1 hkk hS => ?_)
                                clear hkk
                                have hD : va_D A (wX cI cJ cZ xa u) := l_addr (wX_a u _) hD
                                have hP : va_P (dC, dI) vwCl (wX cI cJ cZ xa u) H := hP1
                                have hR := h253.1
                                have g253 := h253.2
                                rw [show v249.toInt = (ma ss i : Int) by omega, show v252.toInt = (ma ss ((i - 1) / 2) : Int) by omega, g_met hI (show 1 ≤ i by omega) hk] at g253
                                refine lv_lload hx hb dL_isHeap_256 (lv_at hl 1 rfl) ?_
                                refine x_lcmp_ne (tgt := 266) hx hb dL_isHeap_258 dL_isHeap_259 (by decide) (fun c258 => ?_) (fun c258 => ?_)
                                · exfalso; omega
                                · refine x_iconst hx hb dL_isHeap_262 (1) (by decide) (fun v262 e262 => ?_)
                                  refine lv_goto (tgt := 267) hx hb dL_isHeap_263 (by decide) ?_
                                  refine lv_istore (lv' := [(4, .int v262), (3, .int v200), (14, .long r182), (12, .long r174), (10, .long r164), (8, .long r154), (2, .int v50), (6, .long r39), (0, .ref ((xa 0))), (1, .int r1), (5, .int x)]) hx hb dL_isHeap_267 hl (by decide) rfl (fun ls hl => ?_)
                                  refine x_iinc (k := 10) hx hb (1) (by decide) dL_isHeap_269 hl rfl (by decide) (by omega) (by omega) (fun v269 ls e269 hl => ?_)
                                  have hl : lv_has ls 16 [(5, .int v269), (4, .int v262), (3, .int v200), (14, .long r182), (12, .long r174), (10, .long r164), (8, .long r154), (2, .int v50), (6, .long r39), (0, .ref ((xa 0))), (1, .int r1)] := hl
                                  refine lv_goto (tgt := 25) hx hb dL_isHeap_272 (by decide) ?_
                                  exact ih25 (i + 1) v269 v50 v200 v262 (by omega) (by omega) hsn2 (by show _ = ((cntF (cC (erS ss)) i + (if cC (erS ss) i = true then 1 else 0) : Nat) : Int); rw [if_neg zc]; omega) (by omega) (by omega) u H locs hR hP hD hS ls (lv_sub hl [9, 10, 7, 2, 1, 0] rfl)
                          · refine lv_lload hx hb dL_isHeap_210 (lv_at hl 3 rfl) ?_
                            refine lv_lload hx hb dL_isHeap_212 (lv_at hl 2 rfl) ?_
                            refine x_lcmp_ne (tgt := 266) hx hb dL_isHeap_214 dL_isHeap_215 (by decide) (fun c214 => ?_) (fun c214 => ?_)
                            · exfalso; omega
                            · refine lv_lload hx hb dL_isHeap_218 (lv_at hl 4 rfl) ?_
                              refine lv_lload hx hb dL_isHeap_220 (lv_at hl 7 rfl) ?_
                              refine x_lcmp_ge (tgt := 266) hx hb dL_isHeap_222 dL_isHeap_223 (by decide) (fun c222 => ?_) (fun c222 => ?_)
                              · exfalso; omega
                              · refine lv_lload hx hb dL_isHeap_226 (lv_at hl 1 rfl) ?_
                                refine x_ldc2 hx hb hown (hts (.constantLong RL 35 (-1000000000004)) (List.mem_of_getElem? (i := 1) rfl)) dL_isHeap_228 (-1000000000004) (by decide) (fun v228 e228 => ?_)
                                refine x_lcmp_eq (tgt := 246) hx hb dL_isHeap_231 dL_isHeap_232 (by decide) (fun c231 => ?_) (fun c231 => ?_)
                                · refine lv_aload_n hx hb dL_isHeap_246 rfl (lv_at hl 8 rfl) ?_
                                  refine lv_lload hx hb dL_isHeap_247 (lv_at hl 7 rfl) ?_
                                  refine x_l2i hx hb dL_isHeap_249 (by omega) (by omega) (fun v249 e249 => ?_)
                                  refine lv_lload hx hb dL_isHeap_250 (lv_at hl 4 rfl) ?_
                                  refine x_l2i hx hb dL_isHeap_252 (by omega) (by omega) (fun v252 e252 => ?_)
                                  refine x_calllM (va_runV (As := [.int v249, .int v252]) (rest := []) ⟨hx, hb, hml, hown, hts⟩ (kX3_meeting l dC dI cI cJ cZ xa H.size u ss hR hI v249 v252) (cwV 2 hts gL_isHeap_X3_meeting rfl rfl rfl (by decide +kernel) ⟨Nat.le_of_ble_eq_true rfl, Nat.le_of_ble_eq_true rfl⟩) ⟨x_Mb, va_recv hK hP (ci := 3) (q0 := 0) rfl rfl, (fun U hU hW => ⟨rfl, by rw [hU], by rw [hU]; exact hP, va_K.moved hW.alike hK, hD.weaken (fun _ _ _ _ => trivial)⟩)⟩ rfl rfl hl.1 rfl (lv_room (Nat.le_of_ble_eq_true rfl)) dL_isHeap_253 ⟨Nat.zero_le _, Nat.zero_le _⟩) hS (j_fr hD hS hA) (fun r253 u H locs h253 hP1 hkk hS => ?_)
                                  clear hkk
                                  have hD : va_D A (wX cI cJ cZ xa u) := l_addr (wX_a u _) hD
                                  have hP : va_P (dC, dI) vwCl (wX cI cJ cZ xa u) H := hP1
                                  have hR := h253.1
                                  have g253 := h253.2
                                  rw [show v249.toInt = (ma ss i : Int) by omega, show v252.toInt = (ma ss ((i - 1) / 2) : Int) by omega, g_met hI (show 1 ≤ i by omega) hk] at g253
                                  refine lv_lload hx hb dL_isHeap_256 (lv_at hl 1 rfl) ?_
                                  refine x_lcmp_ne (tgt := 266) hx hb dL_isHeap_258 dL_isHeap_259 (by decide) (fun c258 => ?_) (fun c258 => ?_)
                                  · exfalso; omega
                                  · refine x_iconst hx hb dL_isHeap_262 (1) (by decide) (fun v262 e262 => ?_)
                                    refine lv_goto (tgt := 267) hx hb dL_isHeap_263 (by decide) ?_
                                    refine lv_istore (lv' := [(4, .int v262), (3, .int v200), (14, .long r182), (12, .long r174), (10, .long r164), (8, .long r154), (2, .int v50), (6, .long r39), (0, .ref ((xa 0))), (1, .int r1), (5, .int x)]) hx hb dL_isHeap_267 hl (by decide) rfl (fun ls hl => ?_)
                                    refine x_iinc (k := 10) hx hb (1) (by decide) dL_isHeap_269 hl rfl (by decide) (by omega) (by omega) (fun v269 ls e269 hl => ?_)
                                    have hl : lv_has ls 16 [(5, .int v269), (4, .int v262), (3, .int v200), (14, .long r182), (12, .long r174), (10, .long r164), (8, .long r154), (2, .int v50), (6, .long r39), (0, .ref ((xa 0))), (1, .int r1)] := hl
                                    refine lv_goto (tgt := 25) hx hb dL_isHeap_272 (by decide) ?_
                                    exact ih25 (i + 1) v269 v50 v200 v262 (by omega) (by omega) hsn2 (by show _ = ((cntF (cC (erS ss)) i + (if cC (erS ss) i = true then 1 else 0) : Nat) : Int); rw [if_neg zc]; omega) (by omega) (by omega) u H locs hR hP hD hS ls (lv_sub hl [9, 10, 7, 2, 1, 0] rfl)
                                · refine lv_lload hx hb dL_isHeap_235 (lv_at hl 1 rfl) ?_
                                  refine lv_aload_n hx hb dL_isHeap_237 rfl (lv_at hl 8 rfl) ?_
                                  refine x_calliM (va_runV (As := []) (rest := [.long r182]) ⟨hx, hb, hml, hown, hts⟩ (kX3_time l dC dI cI cJ cZ xa H.size u ss hR hI) (cwV 0 hts gL_isHeap_X3_time rfl rfl rfl (by decide +kernel) ⟨Nat.le_of_ble_eq_true rfl, Nat.le_of_ble_eq_true rfl⟩) ⟨x_Mb, va_recv hK hP (ci := 3) (q0 := 0) rfl rfl, (fun U hU hW => ⟨rfl, by rw [hU], by rw [hU]; exact hP, va_K.moved hW.alike hK, hD.weaken (fun _ _ _ _ => trivial)⟩)⟩ rfl rfl hl.1 rfl (lv_room (Nat.le_of_ble_eq_true rfl)) dL_isHeap_238 ⟨Nat.zero_le _, Nat.zero_le _⟩) hS (j_fr hD hS hA) (fun r238 u H locs h238 hP1 hkk hS => ?_)
                                  clear hkk
                                  have hD : va_D A (wX cI cJ cZ xa u) := l_addr (wX_a u _) hD
                                  have hP : va_P (dC, dI) vwCl (wX cI cJ cZ xa u) H := hP1
                                  have hR := h238.1
                                  have g238 := h238.2
                                  refine x_i2l hx hb dL_isHeap_241 (fun v241 e241 => ?_)
                                  refine x_lcmp_le (tgt := 266) hx hb dL_isHeap_242 dL_isHeap_243 (by decide) (fun c242 => ?_) (fun c242 => ?_)
                                  · exfalso; omega
                                  · refine lv_aload_n hx hb dL_isHeap_246 rfl (lv_at hl 8 rfl) ?_
                                    refine lv_lload hx hb dL_isHeap_247 (lv_at hl 7 rfl) ?_
                                    refine x_l2i hx hb dL_isHeap_249 (by omega) (by omega) (fun v249 e249 => ?_)
                                    refine lv_lload hx hb dL_isHeap_250 (lv_at hl 4 rfl) ?_
                                    refine x_l2i hx hb dL_isHeap_252 (by omega) (by omega) (fun v252 e252 => ?_)
                                    refine x_calllM (va_runV (As := [.int v249, .int v252]) (rest := []) ⟨hx, hb, hml, hown, hts⟩ (kX3_meeting l dC dI cI cJ cZ xa H.size u ss hR hI v249 v252) (cwV 2 hts gL_isHeap_X3_meeting rfl rfl rfl (by decide +kernel) ⟨Nat.le_of_ble_eq_true rfl, Nat.le_of_ble_eq_true rfl⟩) ⟨x_Mb, va_recv hK hP (ci := 3) (q0 := 0) rfl rfl, (fun U hU hW => ⟨rfl, by rw [hU], by rw [hU]; exact hP, va_K.moved hW.alike hK, hD.weaken (fun _ _ _ _ => trivial)⟩)⟩ rfl rfl hl.1 rfl (lv_room (Nat.le_of_ble_eq_true rfl)) dL_isHeap_253 ⟨Nat.zero_le _, Nat.zero_le _⟩) hS (j_fr hD hS hA) (fun r253 u H locs h253 hP1 hkk hS => ?_)
                                    clear hkk
                                    have hD : va_D A (wX cI cJ cZ xa u) := l_addr (wX_a u _) hD
                                    have hP : va_P (dC, dI) vwCl (wX cI cJ cZ xa u) H := hP1
                                    have hR := h253.1
                                    have g253 := h253.2
                                    rw [show v249.toInt = (ma ss i : Int) by omega, show v252.toInt = (ma ss ((i - 1) / 2) : Int) by omega, g_met hI (show 1 ≤ i by omega) hk] at g253
                                    refine lv_lload hx hb dL_isHeap_256 (lv_at hl 1 rfl) ?_
                                    refine x_lcmp_ne (tgt := 266) hx hb dL_isHeap_258 dL_isHeap_259 (by decide) (fun c258 => ?_) (fun c258 => ?_)
                                    · exfalso; omega
                                    · refine x_iconst hx hb dL_isHeap_262 (1) (by decide) (fun v262 e262 => ?_)
                                      refine lv_goto (tgt := 267) hx hb dL_isHeap_263 (by decide) ?_
                                      refine lv_istore (lv' := [(4, .int v262), (3, .int v200), (14, .long r182), (12, .long r174), (10, .long r164), (8, .long r154), (2, .int v50), (6, .long r39), (0, .ref ((xa 0))), (1, .int r1), (5, .int x)]) hx hb dL_isHeap_267 hl (by decide) rfl (fun ls hl => ?_)
                                      refine x_iinc (k := 10) hx hb (1) (by decide) dL_isHeap_269 hl rfl (by decide) (by omega) (by omega) (fun v269 ls e269 hl => ?_)
                                      have hl : lv_has ls 16 [(5, .int v269), (4, .int v262), (3, .int v200), (14, .long r182), (12, .long r174), (10, .long r164), (8, .long r154), (2, .int v50), (6, .long r39), (0, .ref ((xa 0))), (1, .int r1)] := hl
                                      refine lv_goto (tgt := 25) hx hb dL_isHeap_272 (by decide) ?_
                                      exact ih25 (i + 1) v269 v50 v200 v262 (by omega) (by omega) hsn2 (by show _ = ((cntF (cC (erS ss)) i + (if cC (erS ss) i = true then 1 else 0) : Nat) : Int); rw [if_neg zc]; omega) (by omega) (by omega) u H locs hR hP hD hS ls (lv_sub hl [9, 10, 7, 2, 1, 0] rfl)
                        · have zc : cC (erS ss) i = true := cC_iff.mpr ⟨by omega, by rcases t182 with y | y; (exfalso; omega); exact y.2.2.2⟩
                          refine x_iconst hx hb dL_isHeap_195 (1) (by decide) (fun v195 e195 => ?_)
                          refine lv_goto (tgt := 200) hx hb dL_isHeap_196 (by decide) ?_
                          refine x_iadd hx hb dL_isHeap_200 (by omega) (by omega) (fun v200 e200 => ?_)
                          refine lv_istore_n (lv' := [(3, .int v200), (14, .long r182), (12, .long r174), (10, .long r164), (8, .long r154), (4, .int v130), (2, .int v50), (6, .long r39), (0, .ref ((xa 0))), (1, .int r1), (5, .int x)]) hx hb dL_isHeap_201 rfl hl (by decide) rfl (fun ls hl => ?_)
                          refine lv_lload hx hb dL_isHeap_202 (lv_at hl 3 rfl) ?_
                          refine lv_lload hx hb dL_isHeap_204 (lv_at hl 2 rfl) ?_
                          refine x_lcmp_lt (tgt := 226) hx hb dL_isHeap_206 dL_isHeap_207 (by decide) (fun c206 => ?_) (fun c206 => ?_)
                          · refine lv_lload hx hb dL_isHeap_226 (lv_at hl 1 rfl) ?_
                            refine x_ldc2 hx hb hown (hts (.constantLong RL 35 (-1000000000004)) (List.mem_of_getElem? (i := 1) rfl)) dL_isHeap_228 (-1000000000004) (by decide) (fun v228 e228 => ?_)
                            refine x_lcmp_eq (tgt := 246) hx hb dL_isHeap_231 dL_isHeap_232 (by decide) (fun c231 => ?_) (fun c231 => ?_)
                            · refine lv_aload_n hx hb dL_isHeap_246 rfl (lv_at hl 8 rfl) ?_
                              refine lv_lload hx hb dL_isHeap_247 (lv_at hl 7 rfl) ?_
                              refine x_l2i hx hb dL_isHeap_249 (by omega) (by omega) (fun v249 e249 => ?_)
                              refine lv_lload hx hb dL_isHeap_250 (lv_at hl 4 rfl) ?_
                              refine x_l2i hx hb dL_isHeap_252 (by omega) (by omega) (fun v252 e252 => ?_)
                              refine x_calllM (va_runV (As := [.int v249, .int v252]) (rest := []) ⟨hx, hb, hml, hown, hts⟩ (kX3_meeting l dC dI cI cJ cZ xa H.size u ss hR hI v249 v252) (cwV 2 hts gL_isHeap_X3_meeting rfl rfl rfl (by decide +kernel) ⟨Nat.le_of_ble_eq_true rfl, Nat.le_of_ble_eq_true rfl⟩) ⟨x_Mb, va_recv hK hP (ci := 3) (q0 := 0) rfl rfl, (fun U hU hW => ⟨rfl, by rw [hU], by rw [hU]; exact hP, va_K.moved hW.alike hK, hD.weaken (fun _ _ _ _ => trivial)⟩)⟩ rfl rfl hl.1 rfl (lv_room (Nat.le_of_ble_eq_true rfl)) dL_isHeap_253 ⟨Nat.zero_le _, Nat.zero_le _⟩) hS (j_fr hD hS hA) (fun r253 u H locs h253 hP1 hkk hS => ?_)
                              clear hkk
                              have hD : va_D A (wX cI cJ cZ xa u) := l_addr (wX_a u _) hD
                              have hP : va_P (dC, dI) vwCl (wX cI cJ cZ xa u) H := hP1
                              have hR := h253.1
                              have g253 := h253.2
                              rw [show v249.toInt = (ma ss i : Int) by omega, show v252.toInt = (ma ss ((i - 1) / 2) : Int) by omega, g_met hI (show 1 ≤ i by omega) hk] at g253
                              refine lv_lload hx hb dL_isHeap_256 (lv_at hl 1 rfl) ?_
                              refine x_lcmp_ne (tgt := 266) hx hb dL_isHeap_258 dL_isHeap_259 (by decide) (fun c258 => ?_) (fun c258 => ?_)
                              · exfalso; omega
                              · refine x_iconst hx hb dL_isHeap_262 (1) (by decide) (fun v262 e262 => ?_)
                                refine lv_goto (tgt := 267) hx hb dL_isHeap_263 (by decide) ?_
                                refine lv_istore (lv' := [(4, .int v262), (3, .int v200), (14, .long r182), (12, .long r174), (10, .long r164), (8, .long r154), (2, .int v50), (6, .long r39), (0, .ref ((xa 0))), (1, .int r1), (5, .int x)]) hx hb dL_isHeap_267 hl (by decide) rfl (fun ls hl => ?_)
                                refine x_iinc (k := 10) hx hb (1) (by decide) dL_isHeap_269 hl rfl (by decide) (by omega) (by omega) (fun v269 ls e269 hl => ?_)
                                have hl : lv_has ls 16 [(5, .int v269), (4, .int v262), (3, .int v200), (14, .long r182), (12, .long r174), (10, .long r164), (8, .long r154), (2, .int v50), (6, .long r39), (0, .ref ((xa 0))), (1, .int r1)] := hl
                                refine lv_goto (tgt := 25) hx hb dL_isHeap_272 (by decide) ?_
                                exact ih25 (i + 1) v269 v50 v200 v262 (by omega) (by omega) hsn2 (by show _ = ((cntF (cC (erS ss)) i + (if cC (erS ss) i = true then 1 else 0) : Nat) : Int); rw [if_pos zc]; omega) (by omega) (by omega) u H locs hR hP hD hS ls (lv_sub hl [9, 10, 7, 2, 1, 0] rfl)
                            · refine lv_lload hx hb dL_isHeap_235 (lv_at hl 1 rfl) ?_
                              refine lv_aload_n hx hb dL_isHeap_237 rfl (lv_at hl 8 rfl) ?_
                              refine x_calliM (va_runV (As := []) (rest := [.long r182]) ⟨hx, hb, hml, hown, hts⟩ (kX3_time l dC dI cI cJ cZ xa H.size u ss hR hI) (cwV 0 hts gL_isHeap_X3_time rfl rfl rfl (by decide +kernel) ⟨Nat.le_of_ble_eq_true rfl, Nat.le_of_ble_eq_true rfl⟩) ⟨x_Mb, va_recv hK hP (ci := 3) (q0 := 0) rfl rfl, (fun U hU hW => ⟨rfl, by rw [hU], by rw [hU]; exact hP, va_K.moved hW.alike hK, hD.weaken (fun _ _ _ _ => trivial)⟩)⟩ rfl rfl hl.1 rfl (lv_room (Nat.le_of_ble_eq_true rfl)) dL_isHeap_238 ⟨Nat.zero_le _, Nat.zero_le _⟩) hS (j_fr hD hS hA) (fun r238 u H locs h238 hP1 hkk hS => ?_)
                              clear hkk
                              have hD : va_D A (wX cI cJ cZ xa u) := l_addr (wX_a u _) hD
                              have hP : va_P (dC, dI) vwCl (wX cI cJ cZ xa u) H := hP1
                              have hR := h238.1
                              have g238 := h238.2
                              refine x_i2l hx hb dL_isHeap_241 (fun v241 e241 => ?_)
                              refine x_lcmp_le (tgt := 266) hx hb dL_isHeap_242 dL_isHeap_243 (by decide) (fun c242 => ?_) (fun c242 => ?_)
                              · exfalso; omega
                              · refine lv_aload_n hx hb dL_isHeap_246 rfl (lv_at hl 8 rfl) ?_
                                refine lv_lload hx hb dL_isHeap_247 (lv_at hl 7 rfl) ?_
                                refine x_l2i hx hb dL_isHeap_249 (by omega) (by omega) (fun v249 e249 => ?_)
                                refine lv_lload hx hb dL_isHeap_250 (lv_at hl 4 rfl) ?_
                                refine x_l2i hx hb dL_isHeap_252 (by omega) (by omega) (fun v252 e252 => ?_)
                                refine x_calllM (va_runV (As := [.int v249, .int v252]) (rest := []) ⟨hx, hb, hml, hown, hts⟩ (kX3_meeting l dC dI cI cJ cZ xa H.size u ss hR hI v249 v252) (cwV 2 hts gL_isHeap_X3_meeting rfl rfl rfl (by decide +kernel) ⟨Nat.le_of_ble_eq_true rfl, Nat.le_of_ble_eq_true rfl⟩) ⟨x_Mb, va_recv hK hP (ci := 3) (q0 := 0) rfl rfl, (fun U hU hW => ⟨rfl, by rw [hU], by rw [hU]; exact hP, va_K.moved hW.alike hK, hD.weaken (fun _ _ _ _ => trivial)⟩)⟩ rfl rfl hl.1 rfl (lv_room (Nat.le_of_ble_eq_true rfl)) dL_isHeap_253 ⟨Nat.zero_le _, Nat.zero_le _⟩) hS (j_fr hD hS hA) (fun r253 u H locs h253 hP1 hkk hS => ?_)
                                clear hkk
                                have hD : va_D A (wX cI cJ cZ xa u) := l_addr (wX_a u _) hD
                                have hP : va_P (dC, dI) vwCl (wX cI cJ cZ xa u) H := hP1
                                have hR := h253.1
                                have g253 := h253.2
                                rw [show v249.toInt = (ma ss i : Int) by omega, show v252.toInt = (ma ss ((i - 1) / 2) : Int) by omega, g_met hI (show 1 ≤ i by omega) hk] at g253
                                refine lv_lload hx hb dL_isHeap_256 (lv_at hl 1 rfl) ?_
                                refine x_lcmp_ne (tgt := 266) hx hb dL_isHeap_258 dL_isHeap_259 (by decide) (fun c258 => ?_) (fun c258 => ?_)
                                · exfalso; omega
                                · refine x_iconst hx hb dL_isHeap_262 (1) (by decide) (fun v262 e262 => ?_)
                                  refine lv_goto (tgt := 267) hx hb dL_isHeap_263 (by decide) ?_
                                  refine lv_istore (lv' := [(4, .int v262), (3, .int v200), (14, .long r182), (12, .long r174), (10, .long r164), (8, .long r154), (2, .int v50), (6, .long r39), (0, .ref ((xa 0))), (1, .int r1), (5, .int x)]) hx hb dL_isHeap_267 hl (by decide) rfl (fun ls hl => ?_)
                                  refine x_iinc (k := 10) hx hb (1) (by decide) dL_isHeap_269 hl rfl (by decide) (by omega) (by omega) (fun v269 ls e269 hl => ?_)
                                  have hl : lv_has ls 16 [(5, .int v269), (4, .int v262), (3, .int v200), (14, .long r182), (12, .long r174), (10, .long r164), (8, .long r154), (2, .int v50), (6, .long r39), (0, .ref ((xa 0))), (1, .int r1)] := hl
                                  refine lv_goto (tgt := 25) hx hb dL_isHeap_272 (by decide) ?_
                                  exact ih25 (i + 1) v269 v50 v200 v262 (by omega) (by omega) hsn2 (by show _ = ((cntF (cC (erS ss)) i + (if cC (erS ss) i = true then 1 else 0) : Nat) : Int); rw [if_pos zc]; omega) (by omega) (by omega) u H locs hR hP hD hS ls (lv_sub hl [9, 10, 7, 2, 1, 0] rfl)
                          · refine lv_lload hx hb dL_isHeap_210 (lv_at hl 3 rfl) ?_
                            refine lv_lload hx hb dL_isHeap_212 (lv_at hl 2 rfl) ?_
                            refine x_lcmp_ne (tgt := 266) hx hb dL_isHeap_214 dL_isHeap_215 (by decide) (fun c214 => ?_) (fun c214 => ?_)
                            · exfalso; omega
                            · refine lv_lload hx hb dL_isHeap_218 (lv_at hl 4 rfl) ?_
                              refine lv_lload hx hb dL_isHeap_220 (lv_at hl 7 rfl) ?_
                              refine x_lcmp_ge (tgt := 266) hx hb dL_isHeap_222 dL_isHeap_223 (by decide) (fun c222 => ?_) (fun c222 => ?_)
                              · exfalso; omega
                              · refine lv_lload hx hb dL_isHeap_226 (lv_at hl 1 rfl) ?_
                                refine x_ldc2 hx hb hown (hts (.constantLong RL 35 (-1000000000004)) (List.mem_of_getElem? (i := 1) rfl)) dL_isHeap_228 (-1000000000004) (by decide) (fun v228 e228 => ?_)
                                refine x_lcmp_eq (tgt := 246) hx hb dL_isHeap_231 dL_isHeap_232 (by decide) (fun c231 => ?_) (fun c231 => ?_)
                                · refine lv_aload_n hx hb dL_isHeap_246 rfl (lv_at hl 8 rfl) ?_
                                  refine lv_lload hx hb dL_isHeap_247 (lv_at hl 7 rfl) ?_
                                  refine x_l2i hx hb dL_isHeap_249 (by omega) (by omega) (fun v249 e249 => ?_)
                                  refine lv_lload hx hb dL_isHeap_250 (lv_at hl 4 rfl) ?_
                                  refine x_l2i hx hb dL_isHeap_252 (by omega) (by omega) (fun v252 e252 => ?_)
                                  refine x_calllM (va_runV (As := [.int v249, .int v252]) (rest := []) ⟨hx, hb, hml, hown, hts⟩ (kX3_meeting l dC dI cI cJ cZ xa H.size u ss hR hI v249 v252) (cwV 2 hts gL_isHeap_X3_meeting rfl rfl rfl (by decide +kernel) ⟨Nat.le_of_ble_eq_true rfl, Nat.le_of_ble_eq_true rfl⟩) ⟨x_Mb, va_recv hK hP (ci := 3) (q0 := 0) rfl rfl, (fun U hU hW => ⟨rfl, by rw [hU], by rw [hU]; exact hP, va_K.moved hW.alike hK, hD.weaken (fun _ _ _ _ => trivial)⟩)⟩ rfl rfl hl.1 rfl (lv_room (Nat.le_of_ble_eq_true rfl)) dL_isHeap_253 ⟨Nat.zero_le _, Nat.zero_le _⟩) hS (j_fr hD hS hA) (fun r253 u H locs h253 hP1 hkk hS => ?_)
                                  clear hkk
                                  have hD : va_D A (wX cI cJ cZ xa u) := l_addr (wX_a u _) hD
                                  have hP : va_P (dC, dI) vwCl (wX cI cJ cZ xa u) H := hP1
                                  have hR := h253.1
                                  have g253 := h253.2
                                  rw [show v249.toInt = (ma ss i : Int) by omega, show v252.toInt = (ma ss ((i - 1) / 2) : Int) by omega, g_met hI (show 1 ≤ i by omega) hk] at g253
                                  refine lv_lload hx hb dL_isHeap_256 (lv_at hl 1 rfl) ?_
                                  refine x_lcmp_ne (tgt := 266) hx hb dL_isHeap_258 dL_isHeap_259 (by decide) (fun c258 => ?_) (fun c258 => ?_)
                                  · exfalso; omega
                                  · refine x_iconst hx hb dL_isHeap_262 (1) (by decide) (fun v262 e262 => ?_)
                                    refine lv_goto (tgt := 267) hx hb dL_isHeap_263 (by decide) ?_
                                    refine lv_istore (lv' := [(4, .int v262), (3, .int v200), (14, .long r182), (12, .long r174), (10, .long r164), (8, .long r154), (2, .int v50), (6, .long r39), (0, .ref ((xa 0))), (1, .int r1), (5, .int x)]) hx hb dL_isHeap_267 hl (by decide) rfl (fun ls hl => ?_)
                                    refine x_iinc (k := 10) hx hb (1) (by decide) dL_isHeap_269 hl rfl (by decide) (by omega) (by omega) (fun v269 ls e269 hl => ?_)
                                    have hl : lv_has ls 16 [(5, .int v269), (4, .int v262), (3, .int v200), (14, .long r182), (12, .long r174), (10, .long r164), (8, .long r154), (2, .int v50), (6, .long r39), (0, .ref ((xa 0))), (1, .int r1)] := hl
                                    refine lv_goto (tgt := 25) hx hb dL_isHeap_272 (by decide) ?_
                                    exact ih25 (i + 1) v269 v50 v200 v262 (by omega) (by omega) hsn2 (by show _ = ((cntF (cC (erS ss)) i + (if cC (erS ss) i = true then 1 else 0) : Nat) : Int); rw [if_pos zc]; omega) (by omega) (by omega) u H locs hR hP hD hS ls (lv_sub hl [9, 10, 7, 2, 1, 0] rfl)
                                · refine lv_lload hx hb dL_isHeap_235 (lv_at hl 1 rfl) ?_
                                  refine lv_aload_n hx hb dL_isHeap_237 rfl (lv_at hl 8 rfl) ?_
                                  refine x_calliM (va_runV (As := []) (rest := [.long r182]) ⟨hx, hb, hml, hown, hts⟩ (kX3_time l dC dI cI cJ cZ xa H.size u ss hR hI) (cwV 0 hts gL_isHeap_X3_time rfl rfl rfl (by decide +kernel) ⟨Nat.le_of_ble_eq_true rfl, Nat.le_of_ble_eq_true rfl⟩) ⟨x_Mb, va_recv hK hP (ci := 3) (q0 := 0) rfl rfl, (fun U hU hW => ⟨rfl, by rw [hU], by rw [hU]; exact hP, va_K.moved hW.alike hK, hD.weaken (fun _ _ _ _ => trivial)⟩)⟩ rfl rfl hl.1 rfl (lv_room (Nat.le_of_ble_eq_true rfl)) dL_isHeap_238 ⟨Nat.zero_le _, Nat.zero_le _⟩) hS (j_fr hD hS hA) (fun r238 u H locs h238 hP1 hkk hS => ?_)
                                  clear hkk
                                  have hD : va_D A (wX cI cJ cZ xa u) := l_addr (wX_a u _) hD
                                  have hP : va_P (dC, dI) vwCl (wX cI cJ cZ xa u) H := hP1
                                  have hR := h238.1
                                  have g238 := h238.2
                                  refine x_i2l hx hb dL_isHeap_241 (fun v241 e241 => ?_)
                                  refine x_lcmp_le (tgt := 266) hx hb dL_isHeap_242 dL_isHeap_243 (by decide) (fun c242 => ?_) (fun c242 => ?_)
                                  · exfalso; omega
                                  · refine lv_aload_n hx hb dL_isHeap_246 rfl (lv_at hl 8 rfl) ?_
                                    refine lv_lload hx hb dL_isHeap_247 (lv_at hl 7 rfl) ?_
                                    refine x_l2i hx hb dL_isHeap_249 (by omega) (by omega) (fun v249 e249 => ?_)
                                    refine lv_lload hx hb dL_isHeap_250 (lv_at hl 4 rfl) ?_
                                    refine x_l2i hx hb dL_isHeap_252 (by omega) (by omega) (fun v252 e252 => ?_)
                                    refine x_calllM (va_runV (As := [.int v249, .int v252]) (rest := []) ⟨hx, hb, hml, hown, hts⟩ (kX3_meeting l dC dI cI cJ cZ xa H.size u ss hR hI v249 v252) (cwV 2 hts gL_isHeap_X3_meeting rfl rfl rfl (by decide +kernel) ⟨Nat.le_of_ble_eq_true rfl, Nat.le_of_ble_eq_true rfl⟩) ⟨x_Mb, va_recv hK hP (ci := 3) (q0 := 0) rfl rfl, (fun U hU hW => ⟨rfl, by rw [hU], by rw [hU]; exact hP, va_K.moved hW.alike hK, hD.weaken (fun _ _ _ _ => trivial)⟩)⟩ rfl rfl hl.1 rfl (lv_room (Nat.le_of_ble_eq_true rfl)) dL_isHeap_253 ⟨Nat.zero_le _, Nat.zero_le _⟩) hS (j_fr hD hS hA) (fun r253 u H locs h253 hP1 hkk hS => ?_)
                                    clear hkk
                                    have hD : va_D A (wX cI cJ cZ xa u) := l_addr (wX_a u _) hD
                                    have hP : va_P (dC, dI) vwCl (wX cI cJ cZ xa u) H := hP1
                                    have hR := h253.1
                                    have g253 := h253.2
                                    rw [show v249.toInt = (ma ss i : Int) by omega, show v252.toInt = (ma ss ((i - 1) / 2) : Int) by omega, g_met hI (show 1 ≤ i by omega) hk] at g253
                                    refine lv_lload hx hb dL_isHeap_256 (lv_at hl 1 rfl) ?_
                                    refine x_lcmp_ne (tgt := 266) hx hb dL_isHeap_258 dL_isHeap_259 (by decide) (fun c258 => ?_) (fun c258 => ?_)
                                    · exfalso; omega
                                    · refine x_iconst hx hb dL_isHeap_262 (1) (by decide) (fun v262 e262 => ?_)
                                      refine lv_goto (tgt := 267) hx hb dL_isHeap_263 (by decide) ?_
                                      refine lv_istore (lv' := [(4, .int v262), (3, .int v200), (14, .long r182), (12, .long r174), (10, .long r164), (8, .long r154), (2, .int v50), (6, .long r39), (0, .ref ((xa 0))), (1, .int r1), (5, .int x)]) hx hb dL_isHeap_267 hl (by decide) rfl (fun ls hl => ?_)
                                      refine x_iinc (k := 10) hx hb (1) (by decide) dL_isHeap_269 hl rfl (by decide) (by omega) (by omega) (fun v269 ls e269 hl => ?_)
                                      have hl : lv_has ls 16 [(5, .int v269), (4, .int v262), (3, .int v200), (14, .long r182), (12, .long r174), (10, .long r164), (8, .long r154), (2, .int v50), (6, .long r39), (0, .ref ((xa 0))), (1, .int r1)] := hl
                                      refine lv_goto (tgt := 25) hx hb dL_isHeap_272 (by decide) ?_
                                      exact ih25 (i + 1) v269 v50 v200 v262 (by omega) (by omega) hsn2 (by show _ = ((cntF (cC (erS ss)) i + (if cC (erS ss) i = true then 1 else 0) : Nat) : Int); rw [if_pos zc]; omega) (by omega) (by omega) u H locs hR hP hD hS ls (lv_sub hl [9, 10, 7, 2, 1, 0] rfl)
    exact loop25 _ 0 v22 v5 v7 v15 (Nat.zero_le _) (by omega) (fun q _ => g_z e5 _ q) (by rw [e7]; rfl) e15 (Nat.lt_succ_self _) u H locs hR hP hD hS ls (lv_sub hl [5, 4, 3, 2, 1, 0] rfl)
--== L_isHeap
