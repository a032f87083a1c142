/-! THE LAW, 5: isForetold, its contract -/
set_option maxHeartbeats 8000000 in
set_option maxRecDepth 100000 in
theorem c_L_isForetold (l : Launch) (dC : Nat → ClassId) (dI : Nat → Nat → Nat) (cI cJ cZ : ClassId) (sz : Nat) (a b c d : Int32) (ha1 : -1000 ≤ a.toInt) (ha2 : a.toInt ≤ 1000) (hb1 : -1000 ≤ b.toInt) (hb2 : b.toInt ≤ 1000) (hc1 : -20 ≤ c.toInt) (hc2 : c.toInt ≤ 20) (hd1 : -20 ≤ d.toInt) (hd2 : d.toInt ≤ 20) : Met l yL_isForetold wsL_isForetold ({ frames := 7, cells := 24, slots := 1347, locals := 169 }) (va_Pc [.int a, .int b, .int c, .int d] (x_N3 (dC, dI) vwCl (tysN cI cJ cZ) sz (.fieldLinkNest RX3 115 "MovingHeap$Heap" "exchanges" "J" "MovingHeap") (.fieldLinkNest RX3 118 "MovingHeap$Heap" "topExchanges" "J" "MovingHeap") (.fieldLinkNest RX3 16 "MovingHeap$Heap" "points" "LMovingHeap$Lines;" "MovingHeap"))) (va_Qi (fun (r : Int32) (_ : Unit) => r.toInt = 1) (fun _ _ => True) (va_A [] sz)) 24 1347 (va_A [] sz) := by
  refine x_ofN3 (cc := cL_isForetold) (maxL := 13) (ret := (some .boolean)) (own := RL) (by decide) rfl rfl (Nat.le_of_ble_eq_true rfl) (lvs := [(0, .int a), (1, .int b), (2, .int c), (3, .int d)]) rfl ?_
  intro pg e s mi args below meth co hx hb hr hml hown hts hlocks hsz hK hN1 hN2 hN3 ls hl
  subst hsz
  generalize hAe : (va_A [] s.heap.size) = A
  have hA : ∀ q : Nat, s.heap.size ≤ q → A q := fun q h => by rw [← hAe]; exact Or.inr h
  have hS : va_S A s.heap s.heap [] := va_S.rf
  have hP : va_P (dC, dI) vwCl [] s.heap := fun k q h => by simp at h
  have hD : va_D A [] := ⟨fun i j p q h => by simp at h, fun k q h => by simp at h⟩
  refine va_new (ci := 3) (fs := [.null, .null, .null, .null, .int 0, .long 0]) (C := RX3) (T := TX3) (N := 6) hx hb hts (fun _ h => List.mem_cons_of_mem _ (List.mem_append_left _ (List.mem_append_left _ (List.mem_append_left _ (List.mem_append_right _ h))))) tyX3 tyX3_ok hown (hts (.classLink RL 10 RX3) (List.mem_of_getElem? (i := 1) rfl)) (hts (.instantiable RX3 6) (List.mem_of_getElem? (i := 2) rfl)) (hts (.initialized RX3) (List.mem_of_getElem? (i := 3) rfl)) hK hP hD hS hA rfl (fun j hj => by rcases (show j = 0 ∨ j = 1 ∨ j = 2 ∨ j = 3 ∨ j = 4 ∨ j = 5 by omega) with rfl | rfl | rfl | rfl | rfl | rfl <;> rfl) (Nat.le_of_ble_eq_true rfl) (Nat.le_of_ble_eq_true rfl) dL_isForetold_0 (fun h0 H hP hD hS => ?_)
  have hP : va_P (dC, dI) vwCl [(h0, .inr (3, [.null, .null, .null, .null, .int 0, .long 0]))] H := hP
  have hD : va_D A [(h0, .inr (3, [.null, .null, .null, .null, .int 0, .long 0]))] := hD
  refine lv_dup hx hb dL_isForetold_3 rfl ?_
  have hFc := va_free (wc := [(h0, .inr (3, [.null, .null, .null, .null, .int 0, .long 0]))]) hD hS hA [0] rfl
  refine va_callv (va_runI (As := []) (rest := [.ref h0]) ⟨hx, hb, hml, hown, hts⟩ (c_X3_init l dC dI cI cJ cZ h0 H.size) (cwI 0 hts gL_isForetold_X3_init rfl rfl rfl (hts (.initialized RX3) (List.mem_of_getElem? (i := 3) rfl)) (hts (.methodLink RL 87 yX3_init) (List.mem_of_getElem? (i := 8) rfl)) (hts (.instanceMethod yX3_init) (List.mem_of_getElem? (i := 9) rfl)) rfl (by decide +kernel) ⟨Nat.le_of_ble_eq_true rfl, Nat.le_of_ble_eq_true rfl⟩) ⟨x_Nb rfl rfl, fun U hU hW => ⟨rfl, by rw [hU], by rw [hU]; exact hP, va_K.moved hW.alike hK, hD.weaken (fun _ _ _ _ => trivial), va_Nw.warmF hW hN3, va_Nw.warmF hW hN3⟩⟩ rfl rfl hl.1 rfl (lv_room (Nat.le_of_ble_eq_true rfl)) dL_isForetold_4 ⟨Nat.le_of_ble_eq_true rfl, Nat.le_of_ble_eq_true rfl⟩) hS (fun q _ h => hFc q h) hFc (fun u t H1 locs ht hvm _ hB hz1 hk1 hS => ?_)
  obtain ⟨hP1, hD1⟩ := hB
  rw [ht] at hP1
  obtain ⟨q0, q1, q2, q3, r0, r1, r2, r3, s0, b0, b1, b2, b3, z0, z1, z2, z3, s1, s2, s3, s4, s5, x1⟩ := u
  have hP1 : va_P (dC, dI) vwCl (wX cI cJ cZ (l_ad [h0, x1, q0, q1, q2, q3, r0, r1, r2, r3, s0, s1, s2, s3, s4, s5, b0, b1, b2, b3, z0, z1, z2, z3]) u00) H1 := hP1
  have hD1 : va_D (va_A [(h0, .inr (3, [.null, .null, .null, .null, .int 0, .long 0]))] H.size) (wX cI cJ cZ (l_ad [h0, x1, q0, q1, q2, q3, r0, r1, r2, r3, s0, s1, s2, s3, s4, s5, b0, b1, b2, b3, z0, z1, z2, z3]) u00) := hD1
  have hD9 : va_D A (wX cI cJ cZ (l_ad [h0, x1, q0, q1, q2, q3, r0, r1, r2, r3, s0, s1, s2, s3, s4, s5, b0, b1, b2, b3, z0, z1, z2, z3]) u00) := hD1.weaken (fun _ _ _ h => hFc _ h)
  refine lv_astore (lv' := [(4, .ref h0), (0, .int a), (1, .int b), (2, .int c), (3, .int d)]) hx hb dL_isForetold_7 hl (by decide) rfl (fun ls hl => ?_)
  exact fore_body (xa := (l_ad [h0, x1, q0, q1, q2, q3, r0, r1, r2, r3, s0, s1, s2, s3, s4, s5, b0, b1, b2, b3, z0, z1, z2, z3])) hx hb hr hml hown hts hlocks hA hK hN1 hN2 u00 H1 locs rc_0 hP1 hD9 hS a b c d ha1 ha2 hb1 hb2 hc1 hc2 hd1 hd2 ls hl
