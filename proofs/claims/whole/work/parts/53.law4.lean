/-! THE LAW, 4: a fresh object on either side; the entry -/
def ss0 : MS := (0, (fun _ => false, fun _ => 0, fun _ => 0), fun _ => 0, 0, fun _ => 0, 0, 0, 0, (fun _ => false, fun _ => 0, fun _ => 0), fun _ => (0, 0, false, 0, 0), 0, 0)
def u00 : CT := (((fun _ => 0), (fun _ => 0), (fun _ => 0), 0), ((fun _ => 0), (fun _ => 0), (fun _ => 0), 0, 0, 0), ((fun _ => 0), (fun _ => 0), (fun _ => 0), (fun _ => 0), (fun _ => 0), 0, 0, 0), ((fun _ => 0), (fun _ => 0), (fun _ => 0), 0), ((fun _ => 0), (fun _ => 0), (fun _ => 0), 0), ((fun _ => 0), 0, 0))
def um0 : MTt := ((fun _ => 0), (fun _ => 0), (fun _ => 0), (fun _ => 0), (fun _ => 0), (fun _ => 0), 0, 0, 0, 0, 0, 0, (fun _ => 0), (fun _ => 0), (fun _ => 0), (fun _ => 0), (fun _ => 0), 0, 0, (fun _ => 0), (fun _ => 0), 0, (fun _ => 0))
theorem cnt_0 : ∀ n : Nat, cntF (fun _ => false) n = 0 := by
  intro n
  induction n with
  | zero => rfl
  | succ n ih => show cntF (fun _ => false) n + (if false = true then 1 else 0) = 0; rw [ih]; rfl
theorem rln_0 : RLn ((fun _ => 0), (fun _ => 0), (fun _ => 0), 0) (fun _ => false, fun _ => 0, fun _ => 0) := ⟨fun p _ => ⟨fun h => absurd h (by show ¬ (false = true); decide), fun _ => rfl⟩, by show (0 : Int32).toInt = (cntF (fun _ => false) 24 : Int); rw [cnt_0]; rfl⟩
theorem rc_0 : RC u00 ss0 := ⟨rln_0, ⟨⟨rfl, Nat.zero_le _, fun k hk => absurd hk (Nat.not_lt_zero _)⟩, rfl, rfl⟩, ⟨⟨rfl, Nat.zero_le _, fun i hi => absurd hi (Nat.not_lt_zero _)⟩, rfl⟩, rln_0, fun _ _ => rfl, rfl, rfl⟩
theorem inv_0 : Inv ss0 := by
  refine ⟨⟨Int.le_refl _, by show (0 : Int) ≤ 100000; decide⟩, Nat.zero_le _, fun k hk => absurd hk (Nat.not_lt_zero _), fun i j hi => absurd hi (Nat.not_lt_zero _), fun p _ hp => absurd hp (by show ¬ (false = true); decide), cnt_0 24, fun p _ hp => absurd hp (by show ¬ (false = true); decide), fun k _ hk => absurd hk (Nat.not_lt_zero _), Nat.zero_le _, ⟨Int.le_refl _, Int.le_refl _⟩, fun i hi => absurd hi (Nat.not_lt_zero _), fun i j _ hj => absurd hj (Nat.not_lt_zero _), fun p _ => ⟨rfl, fun hp => absurd hp (by show ¬ (false = true); decide)⟩⟩
theorem rm_0 : RM um0 ss0 := by
  refine ⟨fun p _ => ⟨fun h => absurd h (by show ¬ (false = true); decide), fun _ => rfl⟩, ⟨rfl, Nat.zero_le _, fun k hk => absurd hk (Nat.not_lt_zero _)⟩, fun _ _ => rfl, rfl, rfl, rfl, rfl, rfl, rfl, 0, rfl, 0, Nat.zero_le _, rfl, Nat.zero_le _, fun j hj => absurd hj (Nat.not_lt_zero _), fun p _ hp => absurd hp (by show ¬ (false = true); decide), fun i hi => absurd hi (Nat.not_lt_zero _)⟩
def l_ad (as : List Nat) (k : Nat) : Nat := as.getD k 0
theorem l_pR {D : va_G} {cl : List vw_C} {w1 w2 : va_W} {H : Heap} (h : va_P D cl (w1 ++ w2) H) : va_P D cl w2 H := fun k q hq => h (w1.length + k) q (by rw [List.getElem?_append_right (by omega), Nat.add_sub_cancel_left]; exact hq)
theorem l_pL {D : va_G} {cl : List vw_C} {w1 w2 : va_W} {H : Heap} (h : va_P D cl (w1 ++ w2) H) : va_P D cl w1 H := fun k q hq => h k q (by rw [List.getElem?_append_left (List.getElem?_eq_some_iff.mp hq).1]; exact hq)
theorem l_nw1 : (Cond.fieldLinkNest RX3 115 "MovingHeap$Heap" "exchanges" "J" "MovingHeap") ∈ lw_tbl := by
  unfold lw_tbl tables_1
  exact List.mem_append_right _ (List.mem_append_left _ (List.mem_of_getElem? (i := 50) rfl))
theorem l_nw2 : (Cond.fieldLinkNest RX3 118 "MovingHeap$Heap" "topExchanges" "J" "MovingHeap") ∈ lw_tbl := by
  unfold lw_tbl tables_1
  exact List.mem_append_right _ (List.mem_append_left _ (List.mem_of_getElem? (i := 52) rfl))
theorem l_nw3 : (Cond.fieldLinkNest RX3 16 "MovingHeap$Heap" "points" "LMovingHeap$Lines;" "MovingHeap") ∈ lw_tbl := by
  unfold lw_tbl tables_1
  exact List.mem_append_right _ (List.mem_append_left _ (List.mem_of_getElem? (i := 44) rfl))
section LV4
variable {p : Program} {l : Launch} {e : Env} {s : State} {mi : MethodId} {below : List Frame} {meth : Method} {co : Code} {b L : Nat} {xs : Nat → Int32} {A : Nat → Prop}
set_option maxHeartbeats 4000000 in
set_option maxRecDepth 100000 in
theorem l_classes (hts0 : ∀ w ∈ lw_tbl, w.before #[Value.ref b] s = true) : ∃ (dC : Nat → ClassId) (dI : Nat → Nat → Nat) (cI cJ cZ : ClassId), va_K (dC, dI) vwCl (tysN cI cJ cZ) s := by
  obtain ⟨c0, i0, h0⟩ := u_known (C := RX0) (T := TX0) (N := 7) (n := 7) hts0 in0X0 (hts0 (.instantiable RX0 7) (wsL_law_r1_in _ (List.mem_of_getElem? (i := 13) rfl)))
  obtain ⟨c1, i1, h1⟩ := u_known (C := RX1) (T := TX1) (N := 10) (n := 10) hts0 in0X1 (hts0 (.instantiable RX1 10) (wsL_law_r1_in _ (List.mem_of_getElem? (i := 18) rfl)))
  obtain ⟨c2, i2, h2⟩ := u_known (C := RX2) (T := TX2) (N := 4) (n := 4) hts0 in0X2 (hts0 (.instantiable RX2 4) (wsL_law_r2_in _ (List.mem_of_getElem? (i := 6) rfl)))
  obtain ⟨c3, i3, h3⟩ := u_known (C := RX3) (T := TX3) (N := 6) (n := 6) hts0 in0X3 (hts0 (.instantiable RX3 6) (wsL_law_r1_in _ (List.mem_of_getElem? (i := 1) rfl)))
  obtain ⟨c4, i4, h4⟩ := u_known (C := RX4) (T := TX4) (N := 23) (n := 23) hts0 in0X4 (hts0 (.instantiable RX4 23) (wsL_law_r1_in _ (List.mem_of_getElem? (i := 4) rfl)))
  have hKc : ∀ (k : Nat) (q : vw_C), vwCl[k]? = some q → u_Kn s q.1 q.2.1 q.2.2 ((fun k => match k with | 0 => c0 | 1 => c1 | 2 => c2 | 3 => c3 | _ => c4) k) ((fun k => match k with | 0 => i0 | 1 => i1 | 2 => i2 | 3 => i3 | _ => i4) k) := by
    intro k q hq
    match k, hq with
    | 0, hq => cases hq; exact h0
    | 1, hq => cases hq; exact h1
    | 2, hq => cases hq; exact h2
    | 3, hq => cases hq; exact h3
    | 4, hq => cases hq; exact h4
    | k + 5, hq => simp [vwCl] at hq
  obtain ⟨cI, cJ, cZ, hK⟩ := x_tys (D := ((fun k => match k with | 0 => c0 | 1 => c1 | 2 => c2 | 3 => c3 | _ => c4), (fun k => match k with | 0 => i0 | 1 => i1 | 2 => i2 | 3 => i3 | _ => i4))) (cl := vwCl) ⟨hKc, fun k q h => by simp at h⟩ (hts0 (.arrayClass .int) (wsL_law_r1_in _ (List.mem_of_getElem? (i := 21) rfl))) (hts0 (.arrayClass .long) (wsL_law_r2_in _ (List.mem_of_getElem? (i := 21) rfl))) (hts0 (.arrayClass .boolean) (wsL_law_r2_in _ (List.mem_of_getElem? (i := 19) rfl)))
  exact ⟨_, _, cI, cJ, cZ, hK⟩
set_option maxHeartbeats 4000000 in
set_option maxRecDepth 100000 in
theorem l_mkX {dC : Nat → ClassId} {dI : Nat → Nat → Nat} {cI cJ cZ : ClassId} (hx : p.tables.exec = Jvm.exec) (hb : co.code = cL_law) (hml : co.maxLocals = 4) (hown : s.vm.findClass RL = some mi.cls) (hts0 : ∀ w ∈ lw_tbl, w.before #[Value.ref b] s = true) (hA : ∀ q : Nat, s.heap.size ≤ q → A q) (hK : va_K (dC, dI) vwCl (tysN cI cJ cZ) s) (hD0 : va_D A []) {ls : Array Slot} (hl : lv_has ls 4 [(0, .ref b)]) (kk : ∀ (h0 q0 q1 q2 q3 r0 r1 r2 r3 s0 b0 b1 b2 b3 z0 z1 z2 z3 s1 s2 s3 s4 s5 x1 : Nat) (H : Heap) (locs : List Loc) (ls : Array Slot), va_P (dC, dI) vwCl (wX cI cJ cZ (l_ad [h0, x1, q0, q1, q2, q3, r0, r1, r2, r3, s0, s1, s2, s3, s4, s5, b0, b1, b2, b3, z0, z1, z2, z3]) u00) H → va_D A (wX cI cJ cZ (l_ad [h0, x1, q0, q1, q2, q3, r0, r1, r2, r3, s0, s1, s2, s3, s4, s5, b0, b1, b2, b3, z0, z1, z2, z3]) u00) → va_S A s.heap H locs → lv_has ls 4 [(1, .ref h0), (0, .ref b)] → W p l e room_1 s mi #[Value.ref b] below meth co H locs 24 1347 (lw_Z below #[Value.ref b] s) (F0 mi 8 ls [])) : W p l e room_1 s mi #[Value.ref b] below meth co s.heap [] 0 0 (lw_Z below #[Value.ref b] s) (F0 mi 0 ls []) := by
  have hts : ∀ w ∈ wsL_law, w.before #[Value.ref b] s = true := fun w hw => hts0 w (wsL_law_in w hw)
  have hS : va_S A s.heap s.heap [] := va_S.rf
  have hP : va_P (dC, dI) vwCl [] s.heap := fun k q h => by simp at h
  refine va_new (ci := 3) (fs := [.null, .null, .null, .null, .int 0, .long 0]) (C := RX3) (T := TX3) (N := 6) hx hb hts0 in0X3 tyX3 tyX3_ok hown (hts0 (.classLink RL 7 RX3) (wsL_law_r1_in _ (List.mem_of_getElem? (i := 0) rfl))) (hts0 (.instantiable RX3 6) (wsL_law_r1_in _ (List.mem_of_getElem? (i := 1) rfl))) (hts0 (.initialized RX3) (wsL_law_r1_in _ (List.mem_of_getElem? (i := 2) rfl))) hK hP hD0 hS hA rfl (fun j hj => by rcases (show j = 0 ∨ j = 1 ∨ j = 2 ∨ j = 3 ∨ j = 4 ∨ j = 5 by omega) with rfl | rfl | rfl | rfl | rfl | rfl <;> rfl) (Nat.le_of_ble_eq_true rfl) (Nat.le_of_ble_eq_true rfl) dL_law_0 (fun h0 H hP hD hS => ?_)
  have hP : va_P (dC, dI) vwCl [(h0, .inr (3, [.null, .null, .null, .null, .int 0, .long 0]))] H := hP
  have hD : va_D A [(h0, .inr (3, [.null, .null, .null, .null, .int 0, .long 0]))] := hD
  refine lv_dup hx hb dL_law_3 rfl ?_
  have hn3 : va_Nw (.fieldLinkNest RX3 16 "MovingHeap$Heap" "points" "LMovingHeap$Lines;" "MovingHeap") s := va_Nw.of rfl (hts0 _ l_nw3)
  have hFc := va_free (wc := [(h0, .inr (3, [.null, .null, .null, .null, .int 0, .long 0]))]) hD hS hA [0] rfl
  refine va_callv (va_runI (As := []) (rest := [.ref h0]) ⟨hx, hb, hml, hown, hts⟩ (c_X3_init l dC dI cI cJ cZ h0 H.size) (cwI 0 hts gL_law_X3_init rfl rfl rfl (hts0 (.initialized RX3) (wsL_law_r1_in _ (List.mem_of_getElem? (i := 2) rfl))) (hts0 (.methodLink RL 9 yX3_init) (wsL_law_r1_in _ (List.mem_of_getElem? (i := 6) rfl))) (hts0 (.instanceMethod yX3_init) (wsL_law_r1_in _ (List.mem_of_getElem? (i := 7) rfl))) rfl (by decide +kernel) ⟨Nat.le_of_ble_eq_true rfl, Nat.le_of_ble_eq_true rfl⟩) ⟨x_Nb rfl rfl, fun U hU hW => ⟨rfl, by rw [hU], by rw [hU]; exact hP, va_K.moved hW.alike hK, hD.weaken (fun _ _ _ _ => trivial), va_Nw.warmF hW hn3, va_Nw.warmF hW hn3⟩⟩ rfl rfl hl.1 rfl (lv_room (Nat.le_of_ble_eq_true rfl)) dL_law_4 ⟨Nat.le_of_ble_eq_true rfl, Nat.le_of_ble_eq_true rfl⟩) hS (fun q _ h => hFc q h) hFc (fun u t H1 locs ht hvm _ hB hz1 hk1 hS => ?_)
  obtain ⟨hP1, hD1⟩ := hB
  rw [ht] at hP1
  obtain ⟨q0, q1, q2, q3, r0, r1, r2, r3, s0, b0, b1, b2, b3, z0, z1, z2, z3, s1, s2, s3, s4, s5, x1⟩ := u
  have hP1 : va_P (dC, dI) vwCl (wX cI cJ cZ (l_ad [h0, x1, q0, q1, q2, q3, r0, r1, r2, r3, s0, s1, s2, s3, s4, s5, b0, b1, b2, b3, z0, z1, z2, z3]) u00) H1 := hP1
  have hD1 : va_D (va_A [(h0, .inr (3, [.null, .null, .null, .null, .int 0, .long 0]))] H.size) (wX cI cJ cZ (l_ad [h0, x1, q0, q1, q2, q3, r0, r1, r2, r3, s0, s1, s2, s3, s4, s5, b0, b1, b2, b3, z0, z1, z2, z3]) u00) := hD1
  refine lv_astore_n (lv' := [(1, .ref h0), (0, .ref b)]) hx hb dL_law_7 rfl hl (by decide) rfl (fun ls hl => ?_)
  exact kk h0 q0 q1 q2 q3 r0 r1 r2 r3 s0 b0 b1 b2 b3 z0 z1 z2 z3 s1 s2 s3 s4 s5 x1 H1 locs ls hP1 (hD1.weaken (fun _ _ _ h => hFc _ h)) hS hl
set_option maxHeartbeats 4000000 in
set_option maxRecDepth 100000 in
theorem l_mkY {dC : Nat → ClassId} {dI : Nat → Nat → Nat} {cI cJ cZ : ClassId} (hx : p.tables.exec = Jvm.exec) (hb : co.code = cL_law) (hml : co.maxLocals = 4) (hown : s.vm.findClass RL = some mi.cls) (hts0 : ∀ w ∈ lw_tbl, w.before #[Value.ref b] s = true) (hA : ∀ q : Nat, s.heap.size ≤ q → A q) (hK : va_K (dC, dI) vwCl (tysN cI cJ cZ) s) {wx : va_W} {h0 : Nat} {H : Heap} {locs : List Loc} {ls : Array Slot} (hP0 : va_P (dC, dI) vwCl wx H) (hD0 : va_D A wx) (hS : va_S A s.heap H locs) (hl : lv_has ls 4 [(1, .ref h0), (0, .ref b)]) (kk : ∀ (y0 y1 y2 y3 y4 y5 y6 y7 y8 y9 y10 y11 y12 y13 y14 : Nat) (H : Heap) (locs : List Loc) (ls : Array Slot), va_P (dC, dI) vwCl wx H → va_P (dC, dI) vwCl (wY cI cJ cZ (l_ad [y0, y1, y2, y3, y4, y5, y6, y7, y8, y9, y10, y11, y12, y13, y14]) um0) H → va_D A (wx ++ (wY cI cJ cZ (l_ad [y0, y1, y2, y3, y4, y5, y6, y7, y8, y9, y10, y11, y12, y13, y14]) um0)) → va_S A s.heap H locs → lv_has ls 4 [(2, .ref y0), (1, .ref h0), (0, .ref b)] → W p l e room_1 s mi #[Value.ref b] below meth co H locs 39 2706 (lw_Z below #[Value.ref b] s) (F0 mi 16 ls [])) : W p l e room_1 s mi #[Value.ref b] below meth co H locs 24 1347 (lw_Z below #[Value.ref b] s) (F0 mi 8 ls []) := by
  have hts : ∀ w ∈ wsL_law, w.before #[Value.ref b] s = true := fun w hw => hts0 w (wsL_law_in w hw)
  refine va_new (ci := 4) (fs := [.int 0, .int 0, .null, .null, .null, .null, .null, .null, .long 0, .long 0, .long 0, .int 0, .null, .null, .null, .null, .null, .int 0, .int 0, .null, .null, .int 0, .null]) (C := RX4) (T := TX4) (N := 23) hx hb hts0 in0X4 tyX4 tyX4_ok hown (hts0 (.classLink RL 10 RX4) (wsL_law_r1_in _ (List.mem_of_getElem? (i := 3) rfl))) (hts0 (.instantiable RX4 23) (wsL_law_r1_in _ (List.mem_of_getElem? (i := 4) rfl))) (hts0 (.initialized RX4) (wsL_law_r1_in _ (List.mem_of_getElem? (i := 5) rfl))) hK hP0 hD0 hS hA rfl (fun j hj => by rcases (show j = 0 ∨ j = 1 ∨ j = 2 ∨ j = 3 ∨ j = 4 ∨ j = 5 ∨ j = 6 ∨ j = 7 ∨ j = 8 ∨ j = 9 ∨ j = 10 ∨ j = 11 ∨ j = 12 ∨ j = 13 ∨ j = 14 ∨ j = 15 ∨ j = 16 ∨ j = 17 ∨ j = 18 ∨ j = 19 ∨ j = 20 ∨ j = 21 ∨ j = 22 by omega) with rfl | rfl | rfl | rfl | rfl | rfl | rfl | rfl | rfl | rfl | rfl | rfl | rfl | rfl | rfl | rfl | rfl | rfl | rfl | rfl | rfl | rfl | rfl <;> rfl) (Nat.le_of_ble_eq_true rfl) (Nat.le_of_ble_eq_true rfl) dL_law_8 (fun y0 H hP hD hS => ?_)
  refine lv_dup hx hb dL_law_11 rfl ?_
  have hPc := l_pR hP
  have hDc := l_comm hD
  have hFc := l_fr hDc hS hA
  refine va_callv (va_runI (As := []) (rest := [.ref y0]) ⟨hx, hb, hml, hown, hts⟩ (c_X4_init l dC dI cI cJ cZ y0 H.size) (cwI 0 hts gL_law_X4_init rfl rfl rfl (hts0 (.initialized RX4) (wsL_law_r1_in _ (List.mem_of_getElem? (i := 5) rfl))) (hts0 (.methodLink RL 12 yX4_init) (wsL_law_r3_in _ (List.mem_of_getElem? (i := 17) rfl))) (hts0 (.instanceMethod yX4_init) (wsL_law_r3_in _ (List.mem_of_getElem? (i := 18) rfl))) rfl (by decide +kernel) ⟨Nat.le_of_ble_eq_true rfl, Nat.le_of_ble_eq_true rfl⟩) ⟨x_Mb, fun U hU hW => ⟨rfl, by rw [hU], by rw [hU]; exact hPc, va_K.moved hW.alike hK, (l_left hDc).weaken (fun _ _ _ _ => trivial)⟩⟩ rfl rfl hl.1 rfl (lv_room (Nat.le_of_ble_eq_true rfl)) dL_law_12 ⟨Nat.le_of_ble_eq_true rfl, Nat.le_of_ble_eq_true rfl⟩) hS (fun q _ h => hFc q h) hFc (fun u t H1 locs ht hvm _ hB hz1 hk1 hS => ?_)
  obtain ⟨hP1, hD1⟩ := hB
  rw [ht] at hP1
  obtain ⟨y1, y2, y3, y4, y5, y6, y7, y8, y9, y10, y11, y12, y13, y14⟩ := u
  have hP1 : va_P (dC, dI) vwCl (wY cI cJ cZ (l_ad [y0, y1, y2, y3, y4, y5, y6, y7, y8, y9, y10, y11, y12, y13, y14]) um0) H1 := hP1
  have hD1 : va_D (va_A [(y0, .inr (4, [.int 0, .int 0, .null, .null, .null, .null, .null, .null, .long 0, .long 0, .long 0, .int 0, .null, .null, .null, .null, .null, .int 0, .int 0, .null, .null, .int 0, .null]))] H.size) (wY cI cJ cZ (l_ad [y0, y1, y2, y3, y4, y5, y6, y7, y8, y9, y10, y11, y12, y13, y14]) um0) := hD1
  have hP2 := l_stay hDc (l_pL hP) hk1
  have hDD : va_D A (wx ++ (wY cI cJ cZ (l_ad [y0, y1, y2, y3, y4, y5, y6, y7, y8, y9, y10, y11, y12, y13, y14]) um0)) := hD0.app (hD1.weaken (fun _ _ _ h => hFc _ h)) (fun i j p q hi hj z => by
    rcases hD1.2 j q hj with ⟨k2, e2, h2⟩ | h2
    · exact l_apart hD hi h2 z
    · exact absurd ((l_pL hP) i p hi).lt (by rw [z]; exact Nat.not_lt.mpr h2))
  refine lv_astore_n (lv' := [(2, .ref y0), (1, .ref h0), (0, .ref b)]) hx hb dL_law_15 rfl hl (by decide) rfl (fun ls hl => ?_)
  exact kk y0 y1 y2 y3 y4 y5 y6 y7 y8 y9 y10 y11 y12 y13 y14 H1 locs ls hP2 hP1 hDD hS hl
set_option maxHeartbeats 4000000 in
set_option maxRecDepth 100000 in
theorem l_entry {dC : Nat → ClassId} {dI : Nat → Nat → Nat} {cI cJ cZ : ClassId} (hx : p.tables.exec = Jvm.exec) (hb : co.code = cL_law) (hml : co.maxLocals = 4) (hown : s.vm.findClass RL = some mi.cls) (hts0 : ∀ w ∈ lw_tbl, w.before #[Value.ref b] s = true) (hA : ∀ q : Nat, s.heap.size ≤ q → A q) (hK : va_K (dC, dI) vwCl (tysN cI cJ cZ) s) (hr : meth.sig.returnType = ret) (hlocks : meth.locks = false) (hL : L ≤ 1536) (hX : va_X b L xs s s.heap) (hbl : b < s.heap.size) (hbA : ¬ A b) (hA2 : ∀ q : Nat, A q → s.heap.size ≤ q) {ls : Array Slot} (hl : lv_has ls 4 [(0, .ref b)]) : W p l e room_1 s mi #[Value.ref b] below meth co s.heap [] 0 0 (lw_Z below #[Value.ref b] s) (F0 mi 0 ls []) := by
  have hts : ∀ w ∈ wsL_law, w.before #[Value.ref b] s = true := fun w hw => hts0 w (wsL_law_in w hw)
  have C : LwC p s mi co dC dI cI cJ cZ b L xs A := ⟨hx, hb, hml, hown, hts, va_Nw.of rfl (hts0 _ l_nw1), va_Nw.of rfl (hts0 _ l_nw2), hX, hbl, hbA, hA, hK, hL⟩
  have hD0 : va_D A [] := ⟨fun i j p q h => by simp at h, fun k q h => by simp at h⟩
  refine l_mkX hx hb hml hown hts0 hA hK hD0 hl (fun h0 q0 q1 q2 q3 r0 r1 r2 r3 s0 b0 b1 b2 b3 z0 z1 z2 z3 s1 s2 s3 s4 s5 x1 H locs ls hP hD hS hl => ?_)
  refine l_mkY hx hb hml hown hts0 hA hK hP hD hS hl (fun y0 y1 y2 y3 y4 y5 y6 y7 y8 y9 y10 y11 y12 y13 y14 H locs ls hP1 hP2 hD hS hl => ?_)
  refine x_iconst hx hb dL_law_16 (0) (by decide) (fun v16 e16 => ?_)
  refine lv_istore_n (lv' := [(3, .int v16), (2, .ref y0), (1, .ref h0), (0, .ref b)]) hx hb dL_law_17 rfl hl (by decide) rfl (fun ls hl => ?_)
  exact law_loop C hA2 hr hlocks (L + 1) 0 v16 (Nat.zero_le _) (by omega) e16 ss0 u00 um0 H locs rc_0 rm_0 inv_0 ⟨hP1, hP2, hD, hS⟩ ls (lv_sub hl [3, 2, 1, 0] rfl)
end LV4
set_option maxHeartbeats 4000000 in
theorem whole_start {p : Program} {e : Env} {s : State} {m : MethodId} {below : List Frame} {meth : Method} {c : Code} (l : Launch) (hflags : l.flags = flags0) {b L : Nat} {xs : Nat → Int32} (hL : L ≤ 1536) (C0 : lw_At p s m meth c b L xs) : W p l e room_1 s m #[Value.ref b] below meth c s.heap [] 0 0 (lw_Z below #[Value.ref b] s) (entryFrame m ([Value.ref b] : List Value).toArray 4) := by
  obtain ⟨hx, hb, hr, hml, hown, hts, hX, hbl, hlocks, hgv⟩ := id C0
  obtain ⟨dC, dI, cI, cJ, cZ, hK⟩ := l_classes hts
  have hl := lv_entry ([.ref b]) (n := 4) (Nat.le_of_ble_eq_true rfl)
  rw [lg_entry_eq]
  exact l_entry (A := fun q : Nat => s.heap.size ≤ q) hx hb hml hown hts (fun _ h => h) hK hr hlocks hL hX hbl (Nat.not_le.mpr hbl) (fun _ h => h) hl
