/-! THE LAW, 6: its body and its entry -/
theorem jg_0 : Jg 0 ss0 := ⟨inv_0, fun p _ hp => absurd hp (by show ¬ (false = true); decide), Nat.le_refl _, by show (0 : Int) ≤ (0 : Int64).toInt; decide, by show (0 : Int64).toInt ≤ (0 : Int64).toInt; decide, by show (0 : Int64).toInt ≤ 80000 * ((0 : Nat) : Int); decide, by show (0 : Int) ≤ (0 : Int64).toInt; decide, by show (0 : Int64).toInt ≤ 300 * ((0 : Nat) : Int); decide⟩
theorem l_nw1 : (Cond.fieldLinkNest RX3 115 "MovingHeap$Heap" "exchanges" "J" "MovingHeap") ∈ lw_tbl := by
  unfold lw_tbl tables_1
  exact List.mem_append_right _ (List.mem_append_left _ (List.mem_of_getElem? (i := 49) rfl))
theorem l_nw2 : (Cond.fieldLinkNest RX3 118 "MovingHeap$Heap" "topExchanges" "J" "MovingHeap") ∈ lw_tbl := by
  unfold lw_tbl tables_1
  exact List.mem_append_right _ (List.mem_append_left _ (List.mem_of_getElem? (i := 51) rfl))
theorem l_nw3 : (Cond.fieldLinkNest RX3 16 "MovingHeap$Heap" "points" "LMovingHeap$Lines;" "MovingHeap") ∈ lw_tbl := by
  unfold lw_tbl tables_1
  exact List.mem_append_right _ (List.mem_append_left _ (List.mem_of_getElem? (i := 43) rfl))
set_option maxHeartbeats 8000000 in
set_option maxRecDepth 100000 in
theorem law_body {pg : Program} {l : Launch} {e : Env} {s : State} {mi : MethodId} {below : List Frame} {meth : Method} {co : Code} {b L : Nat} {xs : Nat → Int32} {A : Nat → Prop} {dC : Nat → ClassId} {dI : Nat → Nat → Nat} {cI cJ cZ : ClassId} {xa : Nat → Nat} (hx : pg.tables.exec = Jvm.exec) (hb : co.code = cL_law) (hr : meth.sig.returnType = ret) (hml : co.maxLocals = 5) (hown : s.vm.findClass RL = some mi.cls) (hts0 : ∀ w ∈ lw_tbl, w.before #[Value.ref b] s = true) (hlocks : meth.locks = false) (hA : ∀ q : Nat, s.heap.size ≤ q → A q) (hA2 : ∀ q : Nat, A q → s.heap.size ≤ q) (hK : va_K (dC, dI) vwCl (tysN cI cJ cZ) s) (hX : va_X b L xs s s.heap) (hbl : b < s.heap.size) (hbA : ¬ A b) (hL : L ≤ 260) (hN1 : va_Nw (.fieldLinkNest RX3 115 "MovingHeap$Heap" "exchanges" "J" "MovingHeap") s) (hN2 : va_Nw (.fieldLinkNest RX3 118 "MovingHeap$Heap" "topExchanges" "J" "MovingHeap") s) (hN3 : va_Nw (.fieldLinkNest RX3 16 "MovingHeap$Heap" "points" "LMovingHeap$Lines;" "MovingHeap") s) (u : CT) (H : Heap) (locs : List Loc) (hR : RC u ss0) (hP : va_P (dC, dI) vwCl (wX cI cJ cZ xa u) H) (hD : va_D A (wX cI cJ cZ xa u)) (hS : va_S A s.heap H locs) (ls : Array Slot) (hl : lv_has ls 5 [(1, .ref (xa 0)), (0, .ref b)]) : W pg l e room_1 s mi #[Value.ref b] below meth co H locs 24 1347 (lw_Z below #[Value.ref b] s) (F0 mi 8 ls []) := by
  have hts : ∀ w ∈ wsL_law, w.before #[Value.ref b] s = true := fun w hw => hts0 w (wsL_law_in w hw)
  refine lv_aload_n hx hb dL_law_8 rfl (lv_at hl 0 rfl) ?_
  refine x_calliM (va_runS (As := [.ref ((xa 0))]) (rest := []) ⟨hx, hb, hml, hown, hts⟩ (c_L_isHeap l dC dI cI cJ cZ xa H.size u ss0 hR jg_0.1 jg_0.2.1) (va_cwS 1 hts gL_law_L_isHeap rfl rfl rfl (by decide +kernel) ⟨Nat.le_of_ble_eq_true rfl, Nat.le_of_ble_eq_true rfl⟩) ⟨x_Mb, (fun U hU hW => ⟨rfl, by rw [hU], by rw [hU]; exact hP, va_K.moved hW.alike hK, hD.weaken (fun _ _ _ _ => trivial)⟩)⟩ rfl rfl hl.1 rfl (lv_room (Nat.le_of_ble_eq_true rfl)) dL_law_9 ⟨Nat.le_of_ble_eq_true rfl, Nat.le_of_ble_eq_true rfl⟩) hS (j_fr hD hS hA) (fun r9 u9 H locs h9 hP1 hkk hS => ?_)
  clear hkk
  obtain ⟨u, hu9⟩ : ∃ z, z = u9 := ⟨_, rfl⟩
  rw [← hu9] at hP1 h9
  have hD : va_D A (wX cI cJ cZ xa u) := l_addr (wX_a u _) hD
  have hP : va_P (dC, dI) vwCl (wX cI cJ cZ xa u) H := hP1
  have hR := h9.1
  refine lv_istore_n (lv' := [(2, .int r9), (1, .ref ((xa 0))), (0, .ref b)]) hx hb dL_law_12 rfl hl (by decide) rfl (fun ls hl => ?_)
  refine x_iconst hx hb dL_law_13 (0) (by decide) (fun v13 e13 => ?_)
  refine lv_istore_n (lv' := [(3, .int v13), (2, .int r9), (1, .ref ((xa 0))), (0, .ref b)]) hx hb dL_law_14 rfl hl (by decide) rfl (fun ls hl => ?_)
  have loop15 : ∀ (fu : Nat) (i : Nat) (x : Int32) (ok : Int32) (ss : MS), (i ≤ 48) → (x.toInt = (i : Int)) → (ok.toInt = 1) → (Jg i ss) → (48 - i < fu) → ∀ (u : CT) (H : Heap) (locs : List Loc), RC u ss → va_P (dC, dI) vwCl (wX cI cJ cZ xa u) H → va_D A (wX cI cJ cZ xa u) → va_S A s.heap H locs → ∀ (ls : Array Slot), lv_has ls 5 [(0, .ref b), (1, .ref ((xa 0))), (2, .int ok), (3, .int x)] → W pg l e room_1 s mi #[Value.ref b] below meth co H locs 24 1347 (lw_Z below #[Value.ref b] s) (F0 mi 15 ls []) := by
    intro fu
    induction fu with
    | zero => intro i x ok ss hi hxi hok hJ hn; exact absurd hn (Nat.not_lt_zero _)
    | succ fu ih15 =>
      intro i x ok ss hi hxi hok hJ hn u H locs hR hP hD hS ls hl
      refine lv_iload_n hx hb dL_law_15 rfl (lv_at hl 3 rfl) ?_
      refine x_bipush hx hb dL_law_16 (48) (by decide) (fun v16 e16 => ?_)
      refine x_icmp_ge (tgt := 120) hx hb dL_law_18 (by decide) (fun c18 => ?_) (fun c18 => ?_)
      · refine x_iconst hx hb dL_law_120 (0) (by decide) (fun v120 e120 => ?_)
        refine lv_istore_n (lv' := [(3, .int v120), (0, .ref b), (1, .ref ((xa 0))), (2, .int ok)]) hx hb dL_law_121 rfl hl (by decide) rfl (fun ls hl => ?_)
        have loop122 : ∀ (fu : Nat) (j : Nat) (y : Int32) (ok2 : Int32) (cl : Nat) (sl : Nat), (j ≤ 6) → (y.toInt = (j : Int)) → (ok2.toInt = 1) → (cl ≤ 24 + 24 * j) → (sl ≤ 1347 + 1347 * j) → (6 - j < fu) → ∀ (H : Heap) (locs : List Loc), va_S A s.heap H locs → ∀ (ls : Array Slot), lv_has ls 5 [(0, .ref b), (2, .int ok2), (3, .int y)] → W pg l e room_1 s mi #[Value.ref b] below meth co H locs cl sl (lw_Z below #[Value.ref b] s) (F0 mi 122 ls []) := by
          intro fu
          induction fu with
          | zero => intro j y ok2 cl sl hj hyj hok2 hcl hsl hn; exact absurd hn (Nat.not_lt_zero _)
          | succ fu ih122 =>
            intro j y ok2 cl sl hj hyj hok2 hcl hsl hn H locs hS ls hl
            have hP : va_P (dC, dI) vwCl [] H := fun k q h => by simp at h
            refine lv_iload_n hx hb dL_law_122 rfl (lv_at hl 2 rfl) ?_
            refine x_bipush hx hb dL_law_123 (6) (by decide) (fun v123 e123 => ?_)
            refine x_icmp_ge (tgt := 196) hx hb dL_law_125 (by decide) (fun c125 => ?_) (fun c125 => ?_)
            · refine lv_iload_n hx hb dL_law_196 rfl (lv_at hl 1 rfl) ?_
              have eok : ok2 = 1 := b_eq (by rw [hok2]; rfl)
              rw [eok]
              refine va_forget (fun q hq => hA2 _ (hS.2.2 q hq)) ?_
              refine W.widen (k := 600000) (n := 7302250) (by omega) (by omega) ?_
              exact lw_ret hx hb hr hlocks dL_law_197
            · refine lv_iload_n hx hb dL_law_128 rfl (lv_at hl 1 rfl) ?_
              refine x_if_eq (tgt := 196) hx hb dL_law_129 (by decide) (fun c129 => ?_) (fun c129 => ?_)
              · exfalso; omega
              · refine lv_aload_n hx hb dL_law_132 rfl (lv_at hl 0 rfl) ?_
                refine x_bipush hx hb dL_law_133 (48) (by decide) (fun v133 e133 => ?_)
                refine lv_iload_n hx hb dL_law_135 rfl (lv_at hl 2 rfl) ?_
                refine x_iadd hx hb dL_law_136 (by omega) (by omega) (fun v136 e136 => ?_)
                have hXH := hX.kept (hS.2.1 b hbl hbA)
                refine x_calli (va_runS (As := [.ref b, .int v136]) (rest := []) ⟨hx, hb, hml, hown, hts⟩ (c_L_cell l b L xs H.size v136 (48 + j) (by omega) hL) (va_cwS 2 hts gL_law_L_cell rfl rfl rfl (by decide +kernel) ⟨Nat.le_of_ble_eq_true rfl, Nat.le_of_ble_eq_true rfl⟩) ⟨x_Cb, (fun U hU hW => ⟨rfl, by rw [hU], by rw [hU]; exact va_X.moved hW.alike hXH, Nat.lt_of_lt_of_le hbl hS.1⟩)⟩ rfl rfl hl.1 rfl (lv_room (Nat.le_of_ble_eq_true rfl)) dL_law_137 ⟨(show cl + 0 ≤ 600000 by omega), (show sl + 0 ≤ 7302250 by omega)⟩) hS hA hP (fun r137 _ H locs h137 hP hS => ?_)
                refine lv_istore (lv' := [(4, .int r137), (0, .ref b), (2, .int ok2), (3, .int y)]) hx hb dL_law_140 hl (by decide) rfl (fun ls hl => ?_)
                refine lv_iload hx hb dL_law_142 (lv_at hl 0 rfl) ?_
                refine x_sipush hx hb dL_law_144 (2001) (by decide) (fun v144 e144 => ?_)
                refine x_irem hx hb dL_law_147 (2001) (by omega) (by omega) (by decide) (fun v147 e147 => ?_)
                refine x_sipush hx hb dL_law_148 (1000) (by decide) (fun v148 e148 => ?_)
                refine x_isub hx hb dL_law_151 (by omega) (by omega) (fun v151 e151 => ?_)
                refine lv_iload hx hb dL_law_152 (lv_at hl 0 rfl) ?_
                refine x_iconst hx hb dL_law_154 (5) (by decide) (fun v154 e154 => ?_)
                refine x_ishr0 hx hb dL_law_155 (5) (by omega) (by decide) (by omega) (fun v155 e155 => ?_)
                refine x_sipush hx hb dL_law_156 (2001) (by decide) (fun v156 e156 => ?_)
                refine x_irem hx hb dL_law_159 (2001) (by omega) (by omega) (by decide) (fun v159 e159 => ?_)
                refine x_sipush hx hb dL_law_160 (1000) (by decide) (fun v160 e160 => ?_)
                refine x_isub hx hb dL_law_163 (by omega) (by omega) (fun v163 e163 => ?_)
                refine lv_iload hx hb dL_law_164 (lv_at hl 0 rfl) ?_
                refine x_bipush hx hb dL_law_166 (9) (by decide) (fun v166 e166 => ?_)
                refine x_ishr0 hx hb dL_law_168 (9) (by omega) (by decide) (by omega) (fun v168 e168 => ?_)
                refine x_bipush hx hb dL_law_169 (41) (by decide) (fun v169 e169 => ?_)
                refine x_irem hx hb dL_law_171 (41) (by omega) (by omega) (by decide) (fun v171 e171 => ?_)
                refine x_bipush hx hb dL_law_172 (20) (by decide) (fun v172 e172 => ?_)
                refine x_isub hx hb dL_law_174 (by omega) (by omega) (fun v174 e174 => ?_)
                refine lv_iload hx hb dL_law_175 (lv_at hl 0 rfl) ?_
                refine x_bipush hx hb dL_law_177 (14) (by decide) (fun v177 e177 => ?_)
                refine x_ishr0 hx hb dL_law_179 (14) (by omega) (by decide) (by omega) (fun v179 e179 => ?_)
                refine x_bipush hx hb dL_law_180 (41) (by decide) (fun v180 e180 => ?_)
                refine x_irem hx hb dL_law_182 (41) (by omega) (by omega) (by decide) (fun v182 e182 => ?_)
                refine x_bipush hx hb dL_law_183 (20) (by decide) (fun v183 e183 => ?_)
                refine x_isub hx hb dL_law_185 (by omega) (by omega) (fun v185 e185 => ?_)
                refine va_calli (va_runS (As := [.int v151, .int v163, .int v174, .int v185]) (rest := []) ⟨hx, hb, hml, hown, hts⟩ (c_L_isForetold l dC dI cI cJ cZ H.size v151 v163 v174 v185 (by omega) (by omega) (by omega) (by omega) (by omega) (by omega) (by omega) (by omega)) (va_cwS 4 hts gL_law_L_isForetold rfl rfl rfl (by decide +kernel) ⟨Nat.le_of_ble_eq_true rfl, Nat.le_of_ble_eq_true rfl⟩) ⟨x_N3b rfl rfl rfl, (fun U hU hW => ⟨rfl, by rw [hU], va_K.moved hW.alike hK, va_Nw.warmF hW hN1, va_Nw.warmF hW hN2, va_Nw.warmF hW hN3⟩)⟩ rfl rfl hl.1 rfl (lv_room (Nat.le_of_ble_eq_true rfl)) dL_law_186 ⟨(show cl + 24 ≤ 600000 by omega), (show sl + 1347 ≤ 7302250 by omega)⟩) hS (fun q _ h => x_noA hS.1 hA q h) (x_noA hS.1 hA) (fun r186 _ t9 H locs ht9 hv9 h186 _ hz9 hk9 hS => ?_)
                refine lv_istore_n (lv' := [(2, .int r186), (4, .int r137), (0, .ref b), (3, .int y)]) hx hb dL_law_189 rfl hl (by decide) rfl (fun ls hl => ?_)
                refine x_iinc (k := 3) hx hb (1) (by decide) dL_law_190 hl rfl (by decide) (by omega) (by omega) (fun v190 ls e190 hl => ?_)
                have hl : lv_has ls 5 [(3, .int v190), (2, .int r186), (4, .int r137), (0, .ref b)] := hl
                refine lv_goto (tgt := 122) hx hb dL_law_193 (by decide) ?_
                exact ih122 (j + 1) v190 r186 (cl + 24) (sl + 1347) (by omega) (by omega) (by omega) (by omega) (by omega) (by omega) H locs hS ls (lv_sub hl [3, 1, 0] rfl)
        exact loop122 _ 0 v120 ok 24 1347 (Nat.zero_le _) (by omega) (by omega) (by decide) (by decide) (Nat.lt_succ_self _) H locs hS ls (lv_sub hl [1, 3, 0] rfl)
      · refine lv_iload_n hx hb dL_law_21 rfl (lv_at hl 2 rfl) ?_
        refine x_if_eq (tgt := 120) hx hb dL_law_22 (by decide) (fun c22 => ?_) (fun c22 => ?_)
        · exfalso; omega
        · refine lv_aload_n hx hb dL_law_25 rfl (lv_at hl 1 rfl) ?_
          refine lv_aload_n hx hb dL_law_26 rfl (lv_at hl 0 rfl) ?_
          refine lv_iload_n hx hb dL_law_27 rfl (lv_at hl 3 rfl) ?_
          have hXH := hX.kept (hS.2.1 b hbl hbA)
          refine x_calli (va_runS (As := [.ref b, .int x]) (rest := [.ref ((xa 0))]) ⟨hx, hb, hml, hown, hts⟩ (c_L_cell l b L xs H.size x i (by omega) hL) (va_cwS 2 hts gL_law_L_cell rfl rfl rfl (by decide +kernel) ⟨Nat.le_of_ble_eq_true rfl, Nat.le_of_ble_eq_true rfl⟩) ⟨x_Cb, (fun U hU hW => ⟨rfl, by rw [hU], by rw [hU]; exact va_X.moved hW.alike hXH, Nat.lt_of_lt_of_le hbl hS.1⟩)⟩ rfl rfl hl.1 rfl (lv_room (Nat.le_of_ble_eq_true rfl)) dL_law_28 ⟨Nat.le_of_ble_eq_true rfl, Nat.le_of_ble_eq_true rfl⟩) hS hA hP (fun r28 _ H locs h28 hP hS => ?_)
          refine x_calliM (va_runS (As := [.ref ((xa 0)), .int r28]) (rest := []) ⟨hx, hb, hml, hown, hts⟩ (c_L_acts l dC dI cI cJ cZ xa H.size u ss i (by omega) hR hJ r28 h28) (va_cwS 2 hts gL_law_L_acts rfl rfl rfl (by decide +kernel) ⟨Nat.le_of_ble_eq_true rfl, Nat.le_of_ble_eq_true rfl⟩) ⟨(x_Nb rfl rfl), (fun U hU hW => ⟨rfl, by rw [hU], by rw [hU]; exact hP, va_K.moved hW.alike hK, hD.weaken (fun _ _ _ _ => trivial), va_Nw.warmF hW hN1, va_Nw.warmF hW hN2⟩)⟩ rfl rfl hl.1 rfl (lv_room (Nat.le_of_ble_eq_true rfl)) dL_law_31 ⟨Nat.le_of_ble_eq_true rfl, Nat.le_of_ble_eq_true rfl⟩) hS (j_fr hD hS hA) (fun r31 u9 H locs h31 hP1 hkk hS => ?_)
          clear hkk
          obtain ⟨u, s1⟩ := u9
          have hD : va_D A (wX cI cJ cZ xa u) := l_addr (wX_a u _) hD
          have hP : va_P (dC, dI) vwCl (wX cI cJ cZ xa u) H := hP1
          have hR := h31.1
          have hJ1 : Jg (i + 1) s1 := h31.2.1
          have g31 : r31.toInt = 1 := h31.2.2
          refine x_if_eq (tgt := 48) hx hb dL_law_34 (by decide) (fun c34 => ?_) (fun c34 => ?_)
          · exfalso; omega
          · refine lv_aload_n hx hb dL_law_37 rfl (lv_at hl 1 rfl) ?_
            refine x_calliM (va_runS (As := [.ref ((xa 0))]) (rest := []) ⟨hx, hb, hml, hown, hts⟩ (c_L_isHeap l dC dI cI cJ cZ xa H.size u s1 hR hJ1.1 hJ1.2.1) (va_cwS 1 hts gL_law_L_isHeap rfl rfl rfl (by decide +kernel) ⟨Nat.le_of_ble_eq_true rfl, Nat.le_of_ble_eq_true rfl⟩) ⟨x_Mb, (fun U hU hW => ⟨rfl, by rw [hU], by rw [hU]; exact hP, va_K.moved hW.alike hK, hD.weaken (fun _ _ _ _ => trivial)⟩)⟩ rfl rfl hl.1 rfl (lv_room (Nat.le_of_ble_eq_true rfl)) dL_law_38 ⟨Nat.le_of_ble_eq_true rfl, Nat.le_of_ble_eq_true rfl⟩) hS (j_fr hD hS hA) (fun r38 u9 H locs h38 hP1 hkk hS => ?_)
            clear hkk
            obtain ⟨u, hu9⟩ : ∃ z, z = u9 := ⟨_, rfl⟩
            rw [← hu9] at hP1 h38
            have hD : va_D A (wX cI cJ cZ xa u) := l_addr (wX_a u _) hD
            have hP : va_P (dC, dI) vwCl (wX cI cJ cZ xa u) H := hP1
            have hR := h38.1
            have g38 := h38.2
            refine x_if_eq (tgt := 48) hx hb dL_law_41 (by decide) (fun c41 => ?_) (fun c41 => ?_)
            · exfalso; omega
            · refine x_iconst hx hb dL_law_44 (1) (by decide) (fun v44 e44 => ?_)
              refine lv_goto (tgt := 49) hx hb dL_law_45 (by decide) ?_
              refine lv_istore_n (lv' := [(2, .int v44), (0, .ref b), (1, .ref ((xa 0))), (3, .int x)]) hx hb dL_law_49 rfl hl (by decide) rfl (fun ls hl => ?_)
              refine lv_iload_n hx hb dL_law_50 rfl (lv_at hl 3 rfl) ?_
              refine x_bipush hx hb dL_law_51 (30) (by decide) (fun v51 e51 => ?_)
              refine x_icmp_ne (tgt := 114) hx hb dL_law_53 (by decide) (fun c53 => ?_) (fun c53 => ?_)
              · refine x_iinc (k := 3) hx hb (1) (by decide) dL_law_114 hl rfl (by decide) (by omega) (by omega) (fun v114 ls e114 hl => ?_)
                have hl : lv_has ls 5 [(3, .int v114), (2, .int v44), (0, .ref b), (1, .ref ((xa 0)))] := hl
                refine lv_goto (tgt := 15) hx hb dL_law_117 (by decide) ?_
                exact ih15 (i + 1) v114 v44 s1 (by omega) (by omega) (by omega) hJ1 (by omega) u H locs hR hP hD hS ls (lv_sub hl [2, 3, 1, 0] rfl)
              · refine lv_aload_n hx hb dL_law_56 rfl (lv_at hl 2 rfl) ?_
                refine x_calliM (va_runV (As := []) (rest := []) ⟨hx, hb, hml, hown, hts⟩ (kX3_time l dC dI cI cJ cZ xa H.size u s1 hR hJ1.1) (cwV 0 hts gL_law_X3_time rfl rfl rfl (by decide +kernel) ⟨Nat.le_of_ble_eq_true rfl, Nat.le_of_ble_eq_true rfl⟩) ⟨x_Mb, va_recv hK hP (ci := 3) (q0 := 0) rfl rfl, (fun U hU hW => ⟨rfl, by rw [hU], by rw [hU]; exact hP, va_K.moved hW.alike hK, hD.weaken (fun _ _ _ _ => trivial)⟩)⟩ rfl rfl hl.1 rfl (lv_room (Nat.le_of_ble_eq_true rfl)) dL_law_57 ⟨Nat.le_of_ble_eq_true rfl, Nat.le_of_ble_eq_true rfl⟩) hS (j_fr hD hS hA) (fun r57 u H locs h57 hP1 hkk hS => ?_)
                clear hkk
                have hD : va_D A (wX cI cJ cZ xa u) := l_addr (wX_a u _) hD
                have hP : va_P (dC, dI) vwCl (wX cI cJ cZ xa u) H := hP1
                have hR := h57.1
                have g57 := h57.2
                have t57 := hJ1.1.1
                refine lv_istore (lv' := [(4, .int r57), (2, .int v44), (0, .ref b), (1, .ref ((xa 0))), (3, .int x)]) hx hb dL_law_60 hl (by decide) rfl (fun ls hl => ?_)
                refine lv_iload_n hx hb dL_law_62 rfl (lv_at hl 1 rfl) ?_
                refine x_if_eq (tgt := 112) hx hb dL_law_63 (by decide) (fun c63 => ?_) (fun c63 => ?_)
                · exfalso; omega
                · refine lv_aload_n hx hb dL_law_66 rfl (lv_at hl 3 rfl) ?_
                  refine x_calliM (va_runV (As := []) (rest := []) ⟨hx, hb, hml, hown, hts⟩ (kX3_forget l dC dI cI cJ cZ xa H.size u s1 hR hJ1.1) (cwV 0 hts gL_law_X3_forget rfl rfl rfl (by decide +kernel) ⟨Nat.le_of_ble_eq_true rfl, Nat.le_of_ble_eq_true rfl⟩) ⟨x_Mb, va_recv hK hP (ci := 3) (q0 := 0) rfl rfl, (fun U hU hW => ⟨rfl, by rw [hU], by rw [hU]; exact hP, va_K.moved hW.alike hK, hD.weaken (fun _ _ _ _ => trivial)⟩)⟩ rfl rfl hl.1 rfl (lv_room (Nat.le_of_ble_eq_true rfl)) dL_law_67 ⟨Nat.le_of_ble_eq_true rfl, Nat.le_of_ble_eq_true rfl⟩) hS (j_fr hD hS hA) (fun r67 u H locs h67 hP1 hkk hS => ?_)
                  clear hkk
                  have hD : va_D A (wX cI cJ cZ xa u) := l_addr (wX_a u _) hD
                  have hP : va_P (dC, dI) vwCl (wX cI cJ cZ xa u) H := hP1
                  have hR := h67.1
                  have g67 := h67.2
                  have q67 := q_fog hJ1
                  rw [← g67] at q67
                  obtain ⟨s2, es2⟩ : ∃ z, z = (fogF s1).2 := ⟨_, rfl⟩
                  rw [← es2] at hR q67
                  obtain ⟨hJ2, f1, f2, f3, f4, f5⟩ := q67
                  refine x_if_lt (tgt := 112) hx hb dL_law_70 (by decide) (fun c70 => ?_) (fun c70 => ?_)
                  · exfalso; omega
                  · refine lv_iload hx hb dL_law_73 (lv_at hl 0 rfl) ?_
                    refine x_if_eq (tgt := 93) hx hb dL_law_75 (by decide) (fun c75 => ?_) (fun c75 => ?_)
                    · refine lv_aload_n hx hb dL_law_93 rfl (lv_at hl 3 rfl) ?_
                      refine lv_iload hx hb dL_law_94 (lv_at hl 0 rfl) ?_
                      refine x_calllM (va_runV (As := [.int r57]) (rest := []) ⟨hx, hb, hml, hown, hts⟩ (kX3_sizeAt l dC dI cI cJ cZ xa H.size u s2 hR hJ2.1 r57) (cwV 1 hts gL_law_X3_sizeAt rfl rfl rfl (by decide +kernel) ⟨Nat.le_of_ble_eq_true rfl, Nat.le_of_ble_eq_true rfl⟩) ⟨x_Mb, va_recv hK hP (ci := 3) (q0 := 0) rfl rfl, (fun U hU hW => ⟨rfl, by rw [hU], by rw [hU]; exact hP, va_K.moved hW.alike hK, hD.weaken (fun _ _ _ _ => trivial)⟩)⟩ rfl rfl hl.1 rfl (lv_room (Nat.le_of_ble_eq_true rfl)) dL_law_96 ⟨Nat.le_of_ble_eq_true rfl, Nat.le_of_ble_eq_true rfl⟩) hS (j_fr hD hS hA) (fun r96 u H locs h96 hP1 hkk hS => ?_)
                      clear hkk
                      have hD : va_D A (wX cI cJ cZ xa u) := l_addr (wX_a u _) hD
                      have hP : va_P (dC, dI) vwCl (wX cI cJ cZ xa u) H := hP1
                      have hR := h96.1
                      have g96 := h96.2
                      rw [g57, f5] at g96
                      refine lv_aload_n hx hb dL_law_99 rfl (lv_at hl 3 rfl) ?_
                      refine x_calliM (va_runV (As := []) (rest := [.long r96]) ⟨hx, hb, hml, hown, hts⟩ (kX3_size l dC dI cI cJ cZ xa H.size u s2 hR hJ2.1) (cwV 0 hts gL_law_X3_size rfl rfl rfl (by decide +kernel) ⟨Nat.le_of_ble_eq_true rfl, Nat.le_of_ble_eq_true rfl⟩) ⟨x_Mb, va_recv hK hP (ci := 3) (q0 := 0) rfl rfl, (fun U hU hW => ⟨rfl, by rw [hU], by rw [hU]; exact hP, va_K.moved hW.alike hK, hD.weaken (fun _ _ _ _ => trivial)⟩)⟩ rfl rfl hl.1 rfl (lv_room (Nat.le_of_ble_eq_true rfl)) dL_law_100 ⟨Nat.le_of_ble_eq_true rfl, Nat.le_of_ble_eq_true rfl⟩) hS (j_fr hD hS hA) (fun r100 u H locs h100 hP1 hkk hS => ?_)
                      clear hkk
                      have hD : va_D A (wX cI cJ cZ xa u) := l_addr (wX_a u _) hD
                      have hP : va_P (dC, dI) vwCl (wX cI cJ cZ xa u) H := hP1
                      have hR := h100.1
                      have g100 := h100.2
                      refine x_i2l hx hb dL_law_103 (fun v103 e103 => ?_)
                      refine x_lcmp_ne (tgt := 112) hx hb dL_law_104 dL_law_105 (by decide) (fun c104 => ?_) (fun c104 => ?_)
                      · exfalso; omega
                      · refine x_iconst hx hb dL_law_108 (1) (by decide) (fun v108 e108 => ?_)
                        refine lv_goto (tgt := 113) hx hb dL_law_109 (by decide) ?_
                        refine lv_istore_n (lv' := [(2, .int v108), (4, .int r57), (0, .ref b), (1, .ref ((xa 0))), (3, .int x)]) hx hb dL_law_113 rfl hl (by decide) rfl (fun ls hl => ?_)
                        refine x_iinc (k := 4) hx hb (1) (by decide) dL_law_114 hl rfl (by decide) (by omega) (by omega) (fun v114 ls e114 hl => ?_)
                        have hl : lv_has ls 5 [(3, .int v114), (2, .int v108), (4, .int r57), (0, .ref b), (1, .ref ((xa 0)))] := hl
                        refine lv_goto (tgt := 15) hx hb dL_law_117 (by decide) ?_
                        exact ih15 (i + 1) v114 v108 s2 (by omega) (by omega) (by omega) hJ2 (by omega) u H locs hR hP hD hS ls (lv_sub hl [3, 4, 1, 0] rfl)
                    · refine lv_aload_n hx hb dL_law_78 rfl (lv_at hl 3 rfl) ?_
                      refine lv_iload hx hb dL_law_79 (lv_at hl 0 rfl) ?_
                      refine x_iconst hx hb dL_law_81 (1) (by decide) (fun v81 e81 => ?_)
                      refine x_isub hx hb dL_law_82 (by omega) (by omega) (fun v82 e82 => ?_)
                      refine x_calllM (va_runV (As := [.int v82]) (rest := []) ⟨hx, hb, hml, hown, hts⟩ (kX3_topAt l dC dI cI cJ cZ xa H.size u s2 hR hJ2.1 v82) (cwV 1 hts gL_law_X3_topAt rfl rfl rfl (by decide +kernel) ⟨Nat.le_of_ble_eq_true rfl, Nat.le_of_ble_eq_true rfl⟩) ⟨x_Mb, va_recv hK hP (ci := 3) (q0 := 0) rfl rfl, (fun U hU hW => ⟨rfl, by rw [hU], by rw [hU]; exact hP, va_K.moved hW.alike hK, hD.weaken (fun _ _ _ _ => trivial)⟩)⟩ rfl rfl hl.1 rfl (lv_room (Nat.le_of_ble_eq_true rfl)) dL_law_83 ⟨Nat.le_of_ble_eq_true rfl, Nat.le_of_ble_eq_true rfl⟩) hS (j_fr hD hS hA) (fun r83 u H locs h83 hP1 hkk hS => ?_)
                      clear hkk
                      have hD : va_D A (wX cI cJ cZ xa u) := l_addr (wX_a u _) hD
                      have hP : va_P (dC, dI) vwCl (wX cI cJ cZ xa u) H := hP1
                      have hR := h83.1
                      have g83 := h83.2
                      have k83 := f4 (by omega)
                      rw [show v82.toInt = mt s1 - 1 by omega, k83] at g83
                      have a83 : aNP = -1000000000002 := rfl
                      refine x_ldc2 hx hb hown (hts0 (.constantLong RL 113 (-1000000000002)) (wsL_law_r1_in _ (List.mem_of_getElem? (i := 3) rfl))) dL_law_86 (-1000000000002) (by decide) (fun v86 e86 => ?_)
                      refine x_lcmp_ne (tgt := 112) hx hb dL_law_89 dL_law_90 (by decide) (fun c89 => ?_) (fun c89 => ?_)
                      · exfalso; omega
                      · refine lv_aload_n hx hb dL_law_93 rfl (lv_at hl 3 rfl) ?_
                        refine lv_iload hx hb dL_law_94 (lv_at hl 0 rfl) ?_
                        refine x_calllM (va_runV (As := [.int r57]) (rest := []) ⟨hx, hb, hml, hown, hts⟩ (kX3_sizeAt l dC dI cI cJ cZ xa H.size u s2 hR hJ2.1 r57) (cwV 1 hts gL_law_X3_sizeAt rfl rfl rfl (by decide +kernel) ⟨Nat.le_of_ble_eq_true rfl, Nat.le_of_ble_eq_true rfl⟩) ⟨x_Mb, va_recv hK hP (ci := 3) (q0 := 0) rfl rfl, (fun U hU hW => ⟨rfl, by rw [hU], by rw [hU]; exact hP, va_K.moved hW.alike hK, hD.weaken (fun _ _ _ _ => trivial)⟩)⟩ rfl rfl hl.1 rfl (lv_room (Nat.le_of_ble_eq_true rfl)) dL_law_96 ⟨Nat.le_of_ble_eq_true rfl, Nat.le_of_ble_eq_true rfl⟩) hS (j_fr hD hS hA) (fun r96 u H locs h96 hP1 hkk hS => ?_)
                        clear hkk
                        have hD : va_D A (wX cI cJ cZ xa u) := l_addr (wX_a u _) hD
                        have hP : va_P (dC, dI) vwCl (wX cI cJ cZ xa u) H := hP1
                        have hR := h96.1
                        have g96 := h96.2
                        rw [g57, f5] at g96
                        refine lv_aload_n hx hb dL_law_99 rfl (lv_at hl 3 rfl) ?_
                        refine x_calliM (va_runV (As := []) (rest := [.long r96]) ⟨hx, hb, hml, hown, hts⟩ (kX3_size l dC dI cI cJ cZ xa H.size u s2 hR hJ2.1) (cwV 0 hts gL_law_X3_size rfl rfl rfl (by decide +kernel) ⟨Nat.le_of_ble_eq_true rfl, Nat.le_of_ble_eq_true rfl⟩) ⟨x_Mb, va_recv hK hP (ci := 3) (q0 := 0) rfl rfl, (fun U hU hW => ⟨rfl, by rw [hU], by rw [hU]; exact hP, va_K.moved hW.alike hK, hD.weaken (fun _ _ _ _ => trivial)⟩)⟩ rfl rfl hl.1 rfl (lv_room (Nat.le_of_ble_eq_true rfl)) dL_law_100 ⟨Nat.le_of_ble_eq_true rfl, Nat.le_of_ble_eq_true rfl⟩) hS (j_fr hD hS hA) (fun r100 u H locs h100 hP1 hkk hS => ?_)
                        clear hkk
                        have hD : va_D A (wX cI cJ cZ xa u) := l_addr (wX_a u _) hD
                        have hP : va_P (dC, dI) vwCl (wX cI cJ cZ xa u) H := hP1
                        have hR := h100.1
                        have g100 := h100.2
                        refine x_i2l hx hb dL_law_103 (fun v103 e103 => ?_)
                        refine x_lcmp_ne (tgt := 112) hx hb dL_law_104 dL_law_105 (by decide) (fun c104 => ?_) (fun c104 => ?_)
                        · exfalso; omega
                        · refine x_iconst hx hb dL_law_108 (1) (by decide) (fun v108 e108 => ?_)
                          refine lv_goto (tgt := 113) hx hb dL_law_109 (by decide) ?_
                          refine lv_istore_n (lv' := [(2, .int v108), (4, .int r57), (0, .ref b), (1, .ref ((xa 0))), (3, .int x)]) hx hb dL_law_113 rfl hl (by decide) rfl (fun ls hl => ?_)
                          refine x_iinc (k := 4) hx hb (1) (by decide) dL_law_114 hl rfl (by decide) (by omega) (by omega) (fun v114 ls e114 hl => ?_)
                          have hl : lv_has ls 5 [(3, .int v114), (2, .int v108), (4, .int r57), (0, .ref b), (1, .ref ((xa 0)))] := hl
                          refine lv_goto (tgt := 15) hx hb dL_law_117 (by decide) ?_
                          exact ih15 (i + 1) v114 v108 s2 (by omega) (by omega) (by omega) hJ2 (by omega) u H locs hR hP hD hS ls (lv_sub hl [3, 4, 1, 0] rfl)
  exact loop15 _ 0 v13 r9 ss0 (by decide) (by omega) h9.2 jg_0 (Nat.lt_succ_self _) u H locs hR hP hD hS ls (lv_sub hl [3, 2, 1, 0] rfl)
section LV4
variable {pg : Program} {l : Launch} {e : Env} {s : State} {mi : MethodId} {below : List Frame} {meth : Method} {co : Code} {b L : Nat} {xs : Nat → Int32} 
set_option maxHeartbeats 4000000 in
set_option maxRecDepth 100000 in
theorem l_classes (hts0 : ∀ w ∈ lw_tbl, w.before #[Value.ref b] s = true) : ∃ (dC : Nat → ClassId) (dI : Nat → Nat → Nat) (cI cJ cZ : ClassId), va_K (dC, dI) vwCl (tysN cI cJ cZ) s := by
  obtain ⟨c0, i0, h0⟩ := u_known (C := RX0) (T := TX0) (N := 7) (n := 7) hts0 in0X0 (hts0 (.instantiable RX0 7) (wsL_law_r1_in _ (List.mem_of_getElem? (i := 11) rfl)))
  obtain ⟨c1, i1, h1⟩ := u_known (C := RX1) (T := TX1) (N := 10) (n := 10) hts0 in0X1 (hts0 (.instantiable RX1 10) (wsL_law_r1_in _ (List.mem_of_getElem? (i := 16) rfl)))
  obtain ⟨c2, i2, h2⟩ := u_known (C := RX2) (T := TX2) (N := 4) (n := 4) hts0 in0X2 (hts0 (.instantiable RX2 4) (wsL_law_r2_in _ (List.mem_of_getElem? (i := 4) rfl)))
  obtain ⟨c3, i3, h3⟩ := u_known (C := RX3) (T := TX3) (N := 6) (n := 6) hts0 in0X3 (hts0 (.instantiable RX3 6) (wsL_law_r1_in _ (List.mem_of_getElem? (i := 1) rfl)))
  have hKc : ∀ (k : Nat) (q : vw_C), vwCl[k]? = some q → u_Kn s q.1 q.2.1 q.2.2 ((fun k => match k with | 0 => c0 | 1 => c1 | 2 => c2 | _ => c3) k) ((fun k => match k with | 0 => i0 | 1 => i1 | 2 => i2 | _ => i3) k) := by
    intro k q hq
    match k, hq with
    | 0, hq => cases hq; exact h0
    | 1, hq => cases hq; exact h1
    | 2, hq => cases hq; exact h2
    | 3, hq => cases hq; exact h3
    | k + 4, hq => simp [vwCl] at hq
  obtain ⟨cI, cJ, cZ, hK⟩ := x_tys (D := ((fun k => match k with | 0 => c0 | 1 => c1 | 2 => c2 | _ => c3), (fun k => match k with | 0 => i0 | 1 => i1 | 2 => i2 | _ => i3))) (cl := vwCl) ⟨hKc, fun k q h => by simp at h⟩ (hts0 (.arrayClass .int) (wsL_law_r1_in _ (List.mem_of_getElem? (i := 19) rfl))) (hts0 (.arrayClass .long) (wsL_law_r2_in _ (List.mem_of_getElem? (i := 19) rfl))) (hts0 (.arrayClass .boolean) (wsL_law_r2_in _ (List.mem_of_getElem? (i := 17) rfl)))
  exact ⟨_, _, cI, cJ, cZ, hK⟩
set_option maxHeartbeats 4000000 in
set_option maxRecDepth 100000 in
theorem l_entry {dC : Nat → ClassId} {dI : Nat → Nat → Nat} {cI cJ cZ : ClassId} {A : Nat → Prop} (hx : pg.tables.exec = Jvm.exec) (hb : co.code = cL_law) (hr : meth.sig.returnType = ret) (hml : co.maxLocals = 5) (hown : s.vm.findClass RL = some mi.cls) (hts0 : ∀ w ∈ lw_tbl, w.before #[Value.ref b] s = true) (hlocks : meth.locks = false) (hA : ∀ q : Nat, s.heap.size ≤ q → A q) (hA2 : ∀ q : Nat, A q → s.heap.size ≤ q) (hK : va_K (dC, dI) vwCl (tysN cI cJ cZ) s) (hX : va_X b L xs s s.heap) (hbl : b < s.heap.size) (hbA : ¬ A b) (hL : L ≤ 260) {ls : Array Slot} (hl : lv_has ls 5 [(0, .ref b)]) : W pg l e room_1 s mi #[Value.ref b] below meth co s.heap [] 0 0 (lw_Z below #[Value.ref b] s) (F0 mi 0 ls []) := by
  have hts : ∀ w ∈ wsL_law, w.before #[Value.ref b] s = true := fun w hw => hts0 w (wsL_law_in w hw)
  have hN1 : va_Nw (.fieldLinkNest RX3 115 "MovingHeap$Heap" "exchanges" "J" "MovingHeap") s := va_Nw.of rfl (hts0 _ l_nw1)
  have hN2 : va_Nw (.fieldLinkNest RX3 118 "MovingHeap$Heap" "topExchanges" "J" "MovingHeap") s := va_Nw.of rfl (hts0 _ l_nw2)
  have hN3 : va_Nw (.fieldLinkNest RX3 16 "MovingHeap$Heap" "points" "LMovingHeap$Lines;" "MovingHeap") s := va_Nw.of rfl (hts0 _ l_nw3)
  have hS : va_S A s.heap s.heap [] := va_S.rf
  have hP : va_P (dC, dI) vwCl [] s.heap := fun k q h => by simp at h
  have hD : va_D A [] := ⟨fun i j p q h => by simp at h, fun k q h => by simp at h⟩
  refine va_new (ci := 3) (fs := [.null, .null, .null, .null, .int 0, .long 0]) (C := RX3) (T := TX3) (N := 6) hx hb hts0 in0X3 tyX3 tyX3_ok hown (hts0 (.classLink RL 10 RX3) (wsL_law_r1_in _ (List.mem_of_getElem? (i := 0) rfl))) (hts0 (.instantiable RX3 6) (wsL_law_r1_in _ (List.mem_of_getElem? (i := 1) rfl))) (hts0 (.initialized RX3) (wsL_law_r1_in _ (List.mem_of_getElem? (i := 2) rfl))) hK hP hD hS hA rfl (fun j hj => by rcases (show j = 0 ∨ j = 1 ∨ j = 2 ∨ j = 3 ∨ j = 4 ∨ j = 5 by omega) with rfl | rfl | rfl | rfl | rfl | rfl <;> rfl) (Nat.le_of_ble_eq_true rfl) (Nat.le_of_ble_eq_true rfl) dL_law_0 (fun h0 H hP hD hS => ?_)
  have hP : va_P (dC, dI) vwCl [(h0, .inr (3, [.null, .null, .null, .null, .int 0, .long 0]))] H := hP
  have hD : va_D A [(h0, .inr (3, [.null, .null, .null, .null, .int 0, .long 0]))] := hD
  refine lv_dup hx hb dL_law_3 rfl ?_
  have hFc := va_free (wc := [(h0, .inr (3, [.null, .null, .null, .null, .int 0, .long 0]))]) hD hS hA [0] rfl
  refine va_callv (va_runI (As := []) (rest := [.ref h0]) ⟨hx, hb, hml, hown, hts⟩ (c_X3_init l dC dI cI cJ cZ h0 H.size) (cwI 0 hts gL_law_X3_init rfl rfl rfl (hts0 (.initialized RX3) (wsL_law_r1_in _ (List.mem_of_getElem? (i := 2) rfl))) (hts0 (.methodLink RL 87 yX3_init) (wsL_law_r1_in _ (List.mem_of_getElem? (i := 4) rfl))) (hts0 (.instanceMethod yX3_init) (wsL_law_r1_in _ (List.mem_of_getElem? (i := 5) rfl))) rfl (by decide +kernel) ⟨Nat.le_of_ble_eq_true rfl, Nat.le_of_ble_eq_true rfl⟩) ⟨x_Nb rfl rfl, fun U hU hW => ⟨rfl, by rw [hU], by rw [hU]; exact hP, va_K.moved hW.alike hK, hD.weaken (fun _ _ _ _ => trivial), va_Nw.warmF hW hN3, va_Nw.warmF hW hN3⟩⟩ rfl rfl hl.1 rfl (lv_room (Nat.le_of_ble_eq_true rfl)) dL_law_4 ⟨Nat.le_of_ble_eq_true rfl, Nat.le_of_ble_eq_true rfl⟩) hS (fun q _ h => hFc q h) hFc (fun u t H1 locs ht hvm _ hB hz1 hk1 hS => ?_)
  obtain ⟨hP1, hD1⟩ := hB
  rw [ht] at hP1
  obtain ⟨q0, q1, q2, q3, r0, r1, r2, r3, s0, b0, b1, b2, b3, z0, z1, z2, z3, s1, s2, s3, s4, s5, x1⟩ := u
  have hP1 : va_P (dC, dI) vwCl (wX cI cJ cZ (l_ad [h0, x1, q0, q1, q2, q3, r0, r1, r2, r3, s0, s1, s2, s3, s4, s5, b0, b1, b2, b3, z0, z1, z2, z3]) u00) H1 := hP1
  have hD1 : va_D (va_A [(h0, .inr (3, [.null, .null, .null, .null, .int 0, .long 0]))] H.size) (wX cI cJ cZ (l_ad [h0, x1, q0, q1, q2, q3, r0, r1, r2, r3, s0, s1, s2, s3, s4, s5, b0, b1, b2, b3, z0, z1, z2, z3]) u00) := hD1
  have hD9 : va_D A (wX cI cJ cZ (l_ad [h0, x1, q0, q1, q2, q3, r0, r1, r2, r3, s0, s1, s2, s3, s4, s5, b0, b1, b2, b3, z0, z1, z2, z3]) u00) := hD1.weaken (fun _ _ _ h => hFc _ h)
  refine lv_astore_n (lv' := [(1, .ref h0), (0, .ref b)]) hx hb dL_law_7 rfl hl (by decide) rfl (fun ls hl => ?_)
  exact law_body (xa := (l_ad [h0, x1, q0, q1, q2, q3, r0, r1, r2, r3, s0, s1, s2, s3, s4, s5, b0, b1, b2, b3, z0, z1, z2, z3])) hx hb hr hml hown hts0 hlocks hA hA2 hK hX hbl hbA hL hN1 hN2 hN3 u00 H1 locs rc_0 hP1 hD9 hS ls hl
end LV4
set_option maxHeartbeats 4000000 in
theorem whole_start {p : Program} {e : Env} {s : State} {m : MethodId} {below : List Frame} {meth : Method} {c : Code} (l : Launch) (hflags : l.flags = flags0) {b L : Nat} {xs : Nat → Int32} (hL : L ≤ 260) (C0 : lw_At p s m meth c b L xs) : W p l e room_1 s m #[Value.ref b] below meth c s.heap [] 0 0 (lw_Z below #[Value.ref b] s) (entryFrame m ([Value.ref b] : List Value).toArray 5) := by
  obtain ⟨hx, hb, hr, hml, hown, hts0, hX, hbl, hlocks, hgv⟩ := id C0
  obtain ⟨dC, dI, cI, cJ, cZ, hK⟩ := l_classes hts0
  have hl := lv_entry ([.ref b]) (n := 5) (Nat.le_of_ble_eq_true rfl)
  rw [lg_entry_eq]
  exact l_entry (A := fun q : Nat => s.heap.size ≤ q) hx hb hr hml hown hts0 hlocks (fun _ h => h) (fun _ h => h) hK hX hbl (Nat.not_le.mpr hbl) hL hl
