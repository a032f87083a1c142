/-! THE LAW, 3: acts -/
set_option maxHeartbeats 4000000 in
set_option maxRecDepth 100000 in
theorem c_L_acts (l : Launch) (dC : Nat → ClassId) (dI : Nat → Nat → Nat) (cI cJ cZ : ClassId) (xa : Nat → Nat) (sz : Nat) (u : CT) (ss : MS) (k : Nat) (hk : k ≤ 100) (hR : RC u ss) (hJ : Jg k ss) (x : Int32) (hx0 : 0 ≤ x.toInt) : Met l yL_acts wsL_acts ({ frames := 7, cells := 0, slots := 0, locals := 169 }) (va_Pc [.ref ((xa 0)), .int x] (x_N (dC, dI) vwCl (tysN cI cJ cZ) (wX cI cJ cZ xa u) sz (.fieldLinkNest RX3 115 "MovingHeap$Heap" "exchanges" "J" "MovingHeap") (.fieldLinkNest RX3 118 "MovingHeap$Heap" "topExchanges" "J" "MovingHeap"))) (va_Qi (fun (r : Int32) (v : CT × MS) => RC v.1 v.2 ∧ Jg (k + 1) v.2 ∧ r.toInt = 1) (fun (v : CT × MS) t => va_P (dC, dI) vwCl (wX cI cJ cZ xa v.1) t.heap) (va_A (wX cI cJ cZ xa u) sz)) 0 0 (va_A (wX cI cJ cZ xa u) sz) := by
  refine x_ofN (cc := cL_acts) (maxL := 19) (ret := (some .boolean)) (own := RL) (by decide) rfl rfl (Nat.le_of_ble_eq_true rfl) (lvs := [(0, .ref ((xa 0))), (1, .int x)]) rfl ?_
  intro pg e s mi args below meth co hx hb hr hml hown hts hlocks hin hsz hP hK hD hN1 hN2 ls hl
  subst hsz
  generalize hAe : (va_A (wX cI cJ cZ xa u) s.heap.size) = A at hD ⊢
  have hA : ∀ q : Nat, s.heap.size ≤ q → A q := fun q h => by rw [← hAe]; exact Or.inr h
  have hS : va_S A s.heap s.heap [] := va_S.rf
  have hI := hJ.1
  have hti := hI.1
  have hn24 := hI.2.1
  have hJ7 := hJ.2.2
  have aL : aLIM = -1000000000003 := rfl
  have aI : aINV = -1000000000001 := rfl
  have aN : aNF = -1000000000004 := rfl
  refine lv_iload_n hx hb dL_acts_0 rfl (lv_at hl 1 rfl) ?_
  refine x_iconst hx hb dL_acts_1 (4) (by decide) (fun v1 e1 => ?_)
  refine x_ishr0 hx hb dL_acts_2 (4) (by omega) (by decide) (by omega) (fun v2 e2 => ?_)
  refine x_bipush hx hb dL_acts_3 (24) (by decide) (fun v3 e3 => ?_)
  refine x_irem hx hb dL_acts_5 (24) (by omega) (by omega) (by decide) (fun v5 e5 => ?_)
  refine lv_istore_n (lv' := [(2, .int v5), (0, .ref ((xa 0))), (1, .int x)]) hx hb dL_acts_6 rfl hl (by decide) rfl (fun ls hl => ?_)
  refine lv_iload_n hx hb dL_acts_7 rfl (lv_at hl 2 rfl) ?_
  refine x_bipush hx hb dL_acts_8 (6) (by decide) (fun v8 e8 => ?_)
  refine x_ishr0 hx hb dL_acts_10 (6) (by omega) (by decide) (by omega) (fun v10 e10 => ?_)
  refine x_ldc hx hb hown (hts (.constant RL 52 (2000001)) (List.mem_of_getElem? (i := 1) rfl)) dL_acts_11 (2000001) (by decide) (fun v11 e11 => ?_)
  refine x_irem hx hb dL_acts_13 (2000001) (by omega) (by omega) (by decide) (fun v13 e13 => ?_)
  refine x_ldc hx hb hown (hts (.constant RL 53 (1000000)) (List.mem_of_getElem? (i := 2) rfl)) dL_acts_14 (1000000) (by decide) (fun v14 e14 => ?_)
  refine x_isub hx hb dL_acts_16 (by omega) (by omega) (fun v16 e16 => ?_)
  refine lv_istore_n (lv' := [(3, .int v16), (2, .int v5), (0, .ref ((xa 0))), (1, .int x)]) hx hb dL_acts_17 rfl hl (by decide) rfl (fun ls hl => ?_)
  refine lv_iload_n hx hb dL_acts_18 rfl (lv_at hl 3 rfl) ?_
  refine x_bipush hx hb dL_acts_19 (8) (by decide) (fun v19 e19 => ?_)
  refine x_ishr0 hx hb dL_acts_21 (8) (by omega) (by decide) (by omega) (fun v21 e21 => ?_)
  refine x_sipush hx hb dL_acts_22 (2001) (by decide) (fun v22 e22 => ?_)
  refine x_irem hx hb dL_acts_25 (2001) (by omega) (by omega) (by decide) (fun v25 e25 => ?_)
  refine x_sipush hx hb dL_acts_26 (1000) (by decide) (fun v26 e26 => ?_)
  refine x_isub hx hb dL_acts_29 (by omega) (by omega) (fun v29 e29 => ?_)
  refine lv_istore (lv' := [(4, .int v29), (3, .int v16), (2, .int v5), (0, .ref ((xa 0))), (1, .int x)]) hx hb dL_acts_30 hl (by decide) rfl (fun ls hl => ?_)
  refine lv_aload_n hx hb dL_acts_32 rfl (lv_at hl 3 rfl) ?_
  refine x_calliM (va_runV (As := []) (rest := []) ⟨hx, hb, hml, hown, hts⟩ (kX3_size l dC dI cI cJ cZ xa s.heap.size u ss hR hI) (cwV 0 hts gL_acts_X3_size rfl rfl rfl (by decide +kernel) ⟨Nat.le_of_ble_eq_true rfl, Nat.le_of_ble_eq_true rfl⟩) ⟨x_Mb, va_recv hK hP (ci := 3) (q0 := 0) rfl rfl, (fun U hU hW => ⟨rfl, by rw [hU], by rw [hU]; exact hP, va_K.moved hW.alike hK, hD.weaken (fun _ _ _ _ => trivial)⟩)⟩ rfl rfl hl.1 rfl (lv_room (Nat.le_of_ble_eq_true rfl)) dL_acts_33 ⟨Nat.zero_le _, Nat.zero_le _⟩) hS (j_fr hD hS hA) (fun r33 u H locs h33 hP1 hkk hS => ?_)
  clear hkk
  have hD : va_D A (wX cI cJ cZ xa u) := l_addr (wX_a u _) hD
  have hP : va_P (dC, dI) vwCl (wX cI cJ cZ xa u) H := hP1
  have hR := h33.1
  have g33 := h33.2
  refine lv_istore (lv' := [(5, .int r33), (4, .int v29), (3, .int v16), (2, .int v5), (0, .ref ((xa 0))), (1, .int x)]) hx hb dL_acts_36 hl (by decide) rfl (fun ls hl => ?_)
  refine lv_iload_n hx hb dL_acts_38 rfl (lv_at hl 5 rfl) ?_
  refine x_bipush hx hb dL_acts_39 (9) (by decide) (fun v39 e39 => ?_)
  refine x_irem hx hb dL_acts_41 (9) (by omega) (by omega) (by decide) (fun v41 e41 => ?_)
  have j88 : W pg l e (headSpec wsL_acts ({ frames := 7, cells := 0, slots := 0, locals := 169 })).room s mi args below meth co H locs 0 0 (MQ below (va_Qi (fun (r : Int32) (v : CT × MS) => RC v.1 v.2 ∧ Jg (k + 1) v.2 ∧ r.toInt = 1) (fun (v : CT × MS) t => va_P (dC, dI) vwCl (wX cI cJ cZ xa v.1) t.heap) A) args s 0 0 A) (F0 mi 88 ls []) := by
    refine lv_aload_n hx hb dL_acts_88 rfl (lv_at hl 4 rfl) ?_
    refine lv_iload_n hx hb dL_acts_89 rfl (lv_at hl 5 rfl) ?_
    refine x_iconst hx hb dL_acts_90 (2) (by decide) (fun v90 e90 => ?_)
    refine x_irem hx hb dL_acts_91 (2) (by omega) (by omega) (by decide) (fun v91 e91 => ?_)
    refine x_if_ne (tgt := 99) hx hb dL_acts_92 (by decide) (fun c92 => ?_) (fun c92 => ?_)
    · refine lv_iload_n hx hb dL_acts_99 rfl (lv_at hl 2 rfl) ?_
      refine x_sipush hx hb dL_acts_100 (1000) (by decide) (fun v100 e100 => ?_)
      refine x_idivT hx hb dL_acts_103 (1000) (1000000) (by omega) (by decide) (by decide) (by omega) (by omega) (fun v103 e103 f103 => ?_)
      refine lv_iload_n hx hb dL_acts_104 rfl (lv_at hl 5 rfl) ?_
      refine x_iconst hx hb dL_acts_105 (4) (by decide) (fun v105 e105 => ?_)
      refine x_irem hx hb dL_acts_106 (4) (by omega) (by omega) (by decide) (fun v106 e106 => ?_)
      refine x_iconst hx hb dL_acts_107 (2) (by decide) (fun v107 e107 => ?_)
      refine x_icmp_ge (tgt := 119) hx hb dL_acts_108 (by decide) (fun c108 => ?_) (fun c108 => ?_)
      · refine lv_iload hx hb dL_acts_119 (lv_at hl 1 rfl) ?_
        refine x_calllM (va_runV (As := [.int v103, .int v29]) (rest := []) ⟨hx, hb, hml, hown, hts⟩ (kX3_insert l dC dI cI cJ cZ xa H.size u ss hR hI v103 v29) (cwV 2 hts gL_acts_X3_insert rfl rfl rfl (by decide +kernel) ⟨Nat.le_of_ble_eq_true rfl, Nat.le_of_ble_eq_true rfl⟩) ⟨x_Mb, va_recv hK hP (ci := 3) (q0 := 0) rfl rfl, (fun U hU hW => ⟨rfl, by rw [hU], by rw [hU]; exact hP, va_K.moved hW.alike hK, hD.weaken (fun _ _ _ _ => trivial)⟩)⟩ rfl rfl hl.1 rfl (lv_room (Nat.le_of_ble_eq_true rfl)) dL_acts_121 ⟨Nat.zero_le _, Nat.zero_le _⟩) hS (j_fr hD hS hA) (fun r121 u H locs h121 hP1 hkk hS => ?_)
        clear hkk
        have hD : va_D A (wX cI cJ cZ xa u) := l_addr (wX_a u _) hD
        have hP : va_P (dC, dI) vwCl (wX cI cJ cZ xa u) H := hP1
        have hR := h121.1
        have g121 := h121.2
        have q121 := q_ins hJ hk (y := v103.toInt) (w := v29.toInt) ⟨by omega, by omega⟩ ⟨by omega, by omega⟩
        rw [← g121] at q121
        obtain ⟨s1, es1⟩ : ∃ z, z = (insF ss v103.toInt v29.toInt).2 := ⟨_, rfl⟩
        rw [← es1] at hR q121
        obtain ⟨hJ1, q121⟩ := q121
        refine lv_lstore (lv' := [(6, .long r121), (5, .int r33), (4, .int v29), (3, .int v16), (2, .int v5), (0, .ref ((xa 0))), (1, .int x)]) hx hb dL_acts_124 hl (by decide) rfl (fun ls hl => ?_)
        refine lv_lload hx hb dL_acts_126 (lv_at hl 0 rfl) ?_
        refine x_ldc2 hx hb hown (hts (.constantLong RL 57 (-1000000000003)) (List.mem_of_getElem? (i := 3) rfl)) dL_acts_128 (-1000000000003) (by decide) (fun v128 e128 => ?_)
        refine x_lcmp_ne (tgt := 150) hx hb dL_acts_131 dL_acts_132 (by decide) (fun c131 => ?_) (fun c131 => ?_)
        · refine lv_aload_n hx hb dL_acts_150 rfl (lv_at hl 5 rfl) ?_
          refine x_calliM (va_runV (As := []) (rest := []) ⟨hx, hb, hml, hown, hts⟩ (kX3_size l dC dI cI cJ cZ xa H.size u s1 hR hJ1.1) (cwV 0 hts gL_acts_X3_size rfl rfl rfl (by decide +kernel) ⟨Nat.le_of_ble_eq_true rfl, Nat.le_of_ble_eq_true rfl⟩) ⟨x_Mb, va_recv hK hP (ci := 3) (q0 := 0) rfl rfl, (fun U hU hW => ⟨rfl, by rw [hU], by rw [hU]; exact hP, va_K.moved hW.alike hK, hD.weaken (fun _ _ _ _ => trivial)⟩)⟩ rfl rfl hl.1 rfl (lv_room (Nat.le_of_ble_eq_true rfl)) dL_acts_151 ⟨Nat.zero_le _, Nat.zero_le _⟩) hS (j_fr hD hS hA) (fun r151 u H locs h151 hP1 hkk hS => ?_)
          clear hkk
          have hD : va_D A (wX cI cJ cZ xa u) := l_addr (wX_a u _) hD
          have hP : va_P (dC, dI) vwCl (wX cI cJ cZ xa u) H := hP1
          have hR := h151.1
          have g151 := h151.2
          refine lv_iload hx hb dL_acts_154 (lv_at hl 1 rfl) ?_
          refine x_iconst hx hb dL_acts_156 (1) (by decide) (fun v156 e156 => ?_)
          refine x_iadd hx hb dL_acts_157 (by omega) (by omega) (fun v157 e157 => ?_)
          refine x_icmp_ne (tgt := 182) hx hb dL_acts_158 (by decide) (fun c158 => ?_) (fun c158 => ?_)
          · exfalso; omega
          · refine lv_aload_n hx hb dL_acts_161 rfl (lv_at hl 5 rfl) ?_
            refine lv_lload hx hb dL_acts_162 (lv_at hl 0 rfl) ?_
            refine x_l2i hx hb dL_acts_164 (by omega) (by omega) (fun v164 e164 => ?_)
            refine x_iconst hx hb dL_acts_165 (3) (by decide) (fun v165 e165 => ?_)
            refine x_calllM (va_runV (As := [.int v164, .int v165]) (rest := []) ⟨hx, hb, hml, hown, hts⟩ (kX3_point l dC dI cI cJ cZ xa H.size u s1 hR hJ1.1 v164 v165) (cwV 2 hts gL_acts_X3_point rfl rfl rfl (by decide +kernel) ⟨Nat.le_of_ble_eq_true rfl, Nat.le_of_ble_eq_true rfl⟩) ⟨x_Mb, va_recv hK hP (ci := 3) (q0 := 0) rfl rfl, (fun U hU hW => ⟨rfl, by rw [hU], by rw [hU]; exact hP, va_K.moved hW.alike hK, hD.weaken (fun _ _ _ _ => trivial)⟩)⟩ rfl rfl hl.1 rfl (lv_room (Nat.le_of_ble_eq_true rfl)) dL_acts_166 ⟨Nat.zero_le _, Nat.zero_le _⟩) hS (j_fr hD hS hA) (fun r166 u H locs h166 hP1 hkk hS => ?_)
            clear hkk
            have hD : va_D A (wX cI cJ cZ xa u) := l_addr (wX_a u _) hD
            have hP : va_P (dC, dI) vwCl (wX cI cJ cZ xa u) H := hP1
            have hR := h166.1
            have g166 := h166.2
            rw [show v164.toInt = r121.toInt by omega, e165] at g166
            have k166 : ptF s1 r121.toInt 3 = mt s1 := by rcases q121 with z | z; (exfalso; omega); exact z.2.2.2
            rw [k166] at g166
            refine lv_aload_n hx hb dL_acts_169 rfl (lv_at hl 5 rfl) ?_
            refine x_calliM (va_runV (As := []) (rest := [.long r166]) ⟨hx, hb, hml, hown, hts⟩ (kX3_time l dC dI cI cJ cZ xa H.size u s1 hR hJ1.1) (cwV 0 hts gL_acts_X3_time rfl rfl rfl (by decide +kernel) ⟨Nat.le_of_ble_eq_true rfl, Nat.le_of_ble_eq_true rfl⟩) ⟨x_Mb, va_recv hK hP (ci := 3) (q0 := 0) rfl rfl, (fun U hU hW => ⟨rfl, by rw [hU], by rw [hU]; exact hP, va_K.moved hW.alike hK, hD.weaken (fun _ _ _ _ => trivial)⟩)⟩ rfl rfl hl.1 rfl (lv_room (Nat.le_of_ble_eq_true rfl)) dL_acts_170 ⟨Nat.zero_le _, Nat.zero_le _⟩) hS (j_fr hD hS hA) (fun r170 u H locs h170 hP1 hkk hS => ?_)
            clear hkk
            have hD : va_D A (wX cI cJ cZ xa u) := l_addr (wX_a u _) hD
            have hP : va_P (dC, dI) vwCl (wX cI cJ cZ xa u) H := hP1
            have hR := h170.1
            have g170 := h170.2
            refine x_i2l hx hb dL_acts_173 (fun v173 e173 => ?_)
            refine x_lcmp_ne (tgt := 182) hx hb dL_acts_174 dL_acts_175 (by decide) (fun c174 => ?_) (fun c174 => ?_)
            · exfalso; omega
            · refine x_iconst hx hb dL_acts_178 (1) (by decide) (fun v178 e178 => ?_)
              refine lv_goto (tgt := 183) hx hb dL_acts_179 (by decide) ?_
              exact x_zret hx hb hr hlocks hS (u, s1) dL_acts_183 (fun t ht => by rw [ht]; exact hP) (by omega) ⟨hR, hJ1, by omega⟩
        · refine lv_iload hx hb dL_acts_135 (lv_at hl 1 rfl) ?_
          refine x_bipush hx hb dL_acts_137 (24) (by decide) (fun v137 e137 => ?_)
          refine x_icmp_ne (tgt := 146) hx hb dL_acts_139 (by decide) (fun c139 => ?_) (fun c139 => ?_)
          · exfalso; omega
          · refine x_iconst hx hb dL_acts_142 (1) (by decide) (fun v142 e142 => ?_)
            refine lv_goto (tgt := 183) hx hb dL_acts_143 (by decide) ?_
            exact x_zret hx hb hr hlocks hS (u, s1) dL_acts_183 (fun t ht => by rw [ht]; exact hP) (by omega) ⟨hR, hJ1, by omega⟩
      · refine lv_iload hx hb dL_acts_111 (lv_at hl 1 rfl) ?_
        refine x_bipush hx hb dL_acts_113 (50) (by decide) (fun v113 e113 => ?_)
        refine x_idivT hx hb dL_acts_115 (50) (1000) (by omega) (by decide) (by decide) (by omega) (by omega) (fun v115 e115 f115 => ?_)
        refine lv_goto (tgt := 121) hx hb dL_acts_116 (by decide) ?_
        refine x_calllM (va_runV (As := [.int v103, .int v115]) (rest := []) ⟨hx, hb, hml, hown, hts⟩ (kX3_insert l dC dI cI cJ cZ xa H.size u ss hR hI v103 v115) (cwV 2 hts gL_acts_X3_insert rfl rfl rfl (by decide +kernel) ⟨Nat.le_of_ble_eq_true rfl, Nat.le_of_ble_eq_true rfl⟩) ⟨x_Mb, va_recv hK hP (ci := 3) (q0 := 0) rfl rfl, (fun U hU hW => ⟨rfl, by rw [hU], by rw [hU]; exact hP, va_K.moved hW.alike hK, hD.weaken (fun _ _ _ _ => trivial)⟩)⟩ rfl rfl hl.1 rfl (lv_room (Nat.le_of_ble_eq_true rfl)) dL_acts_121 ⟨Nat.zero_le _, Nat.zero_le _⟩) hS (j_fr hD hS hA) (fun r121 u H locs h121 hP1 hkk hS => ?_)
        clear hkk
        have hD : va_D A (wX cI cJ cZ xa u) := l_addr (wX_a u _) hD
        have hP : va_P (dC, dI) vwCl (wX cI cJ cZ xa u) H := hP1
        have hR := h121.1
        have g121 := h121.2
        have q121 := q_ins hJ hk (y := v103.toInt) (w := v115.toInt) ⟨by omega, by omega⟩ ⟨by omega, by omega⟩
        rw [← g121] at q121
        obtain ⟨s1, es1⟩ : ∃ z, z = (insF ss v103.toInt v115.toInt).2 := ⟨_, rfl⟩
        rw [← es1] at hR q121
        obtain ⟨hJ1, q121⟩ := q121
        refine lv_lstore (lv' := [(6, .long r121), (5, .int r33), (4, .int v29), (3, .int v16), (2, .int v5), (0, .ref ((xa 0))), (1, .int x)]) hx hb dL_acts_124 hl (by decide) rfl (fun ls hl => ?_)
        refine lv_lload hx hb dL_acts_126 (lv_at hl 0 rfl) ?_
        refine x_ldc2 hx hb hown (hts (.constantLong RL 57 (-1000000000003)) (List.mem_of_getElem? (i := 3) rfl)) dL_acts_128 (-1000000000003) (by decide) (fun v128 e128 => ?_)
        refine x_lcmp_ne (tgt := 150) hx hb dL_acts_131 dL_acts_132 (by decide) (fun c131 => ?_) (fun c131 => ?_)
        · refine lv_aload_n hx hb dL_acts_150 rfl (lv_at hl 5 rfl) ?_
          refine x_calliM (va_runV (As := []) (rest := []) ⟨hx, hb, hml, hown, hts⟩ (kX3_size l dC dI cI cJ cZ xa H.size u s1 hR hJ1.1) (cwV 0 hts gL_acts_X3_size rfl rfl rfl (by decide +kernel) ⟨Nat.le_of_ble_eq_true rfl, Nat.le_of_ble_eq_true rfl⟩) ⟨x_Mb, va_recv hK hP (ci := 3) (q0 := 0) rfl rfl, (fun U hU hW => ⟨rfl, by rw [hU], by rw [hU]; exact hP, va_K.moved hW.alike hK, hD.weaken (fun _ _ _ _ => trivial)⟩)⟩ rfl rfl hl.1 rfl (lv_room (Nat.le_of_ble_eq_true rfl)) dL_acts_151 ⟨Nat.zero_le _, Nat.zero_le _⟩) hS (j_fr hD hS hA) (fun r151 u H locs h151 hP1 hkk hS => ?_)
          clear hkk
          have hD : va_D A (wX cI cJ cZ xa u) := l_addr (wX_a u _) hD
          have hP : va_P (dC, dI) vwCl (wX cI cJ cZ xa u) H := hP1
          have hR := h151.1
          have g151 := h151.2
          refine lv_iload hx hb dL_acts_154 (lv_at hl 1 rfl) ?_
          refine x_iconst hx hb dL_acts_156 (1) (by decide) (fun v156 e156 => ?_)
          refine x_iadd hx hb dL_acts_157 (by omega) (by omega) (fun v157 e157 => ?_)
          refine x_icmp_ne (tgt := 182) hx hb dL_acts_158 (by decide) (fun c158 => ?_) (fun c158 => ?_)
          · exfalso; omega
          · refine lv_aload_n hx hb dL_acts_161 rfl (lv_at hl 5 rfl) ?_
            refine lv_lload hx hb dL_acts_162 (lv_at hl 0 rfl) ?_
            refine x_l2i hx hb dL_acts_164 (by omega) (by omega) (fun v164 e164 => ?_)
            refine x_iconst hx hb dL_acts_165 (3) (by decide) (fun v165 e165 => ?_)
            refine x_calllM (va_runV (As := [.int v164, .int v165]) (rest := []) ⟨hx, hb, hml, hown, hts⟩ (kX3_point l dC dI cI cJ cZ xa H.size u s1 hR hJ1.1 v164 v165) (cwV 2 hts gL_acts_X3_point rfl rfl rfl (by decide +kernel) ⟨Nat.le_of_ble_eq_true rfl, Nat.le_of_ble_eq_true rfl⟩) ⟨x_Mb, va_recv hK hP (ci := 3) (q0 := 0) rfl rfl, (fun U hU hW => ⟨rfl, by rw [hU], by rw [hU]; exact hP, va_K.moved hW.alike hK, hD.weaken (fun _ _ _ _ => trivial)⟩)⟩ rfl rfl hl.1 rfl (lv_room (Nat.le_of_ble_eq_true rfl)) dL_acts_166 ⟨Nat.zero_le _, Nat.zero_le _⟩) hS (j_fr hD hS hA) (fun r166 u H locs h166 hP1 hkk hS => ?_)
            clear hkk
            have hD : va_D A (wX cI cJ cZ xa u) := l_addr (wX_a u _) hD
            have hP : va_P (dC, dI) vwCl (wX cI cJ cZ xa u) H := hP1
            have hR := h166.1
            have g166 := h166.2
            rw [show v164.toInt = r121.toInt by omega, e165] at g166
            have k166 : ptF s1 r121.toInt 3 = mt s1 := by rcases q121 with z | z; (exfalso; omega); exact z.2.2.2
            rw [k166] at g166
            refine lv_aload_n hx hb dL_acts_169 rfl (lv_at hl 5 rfl) ?_
            refine x_calliM (va_runV (As := []) (rest := [.long r166]) ⟨hx, hb, hml, hown, hts⟩ (kX3_time l dC dI cI cJ cZ xa H.size u s1 hR hJ1.1) (cwV 0 hts gL_acts_X3_time rfl rfl rfl (by decide +kernel) ⟨Nat.le_of_ble_eq_true rfl, Nat.le_of_ble_eq_true rfl⟩) ⟨x_Mb, va_recv hK hP (ci := 3) (q0 := 0) rfl rfl, (fun U hU hW => ⟨rfl, by rw [hU], by rw [hU]; exact hP, va_K.moved hW.alike hK, hD.weaken (fun _ _ _ _ => trivial)⟩)⟩ rfl rfl hl.1 rfl (lv_room (Nat.le_of_ble_eq_true rfl)) dL_acts_170 ⟨Nat.zero_le _, Nat.zero_le _⟩) hS (j_fr hD hS hA) (fun r170 u H locs h170 hP1 hkk hS => ?_)
            clear hkk
            have hD : va_D A (wX cI cJ cZ xa u) := l_addr (wX_a u _) hD
            have hP : va_P (dC, dI) vwCl (wX cI cJ cZ xa u) H := hP1
            have hR := h170.1
            have g170 := h170.2
            refine x_i2l hx hb dL_acts_173 (fun v173 e173 => ?_)
            refine x_lcmp_ne (tgt := 182) hx hb dL_acts_174 dL_acts_175 (by decide) (fun c174 => ?_) (fun c174 => ?_)
            · exfalso; omega
            · refine x_iconst hx hb dL_acts_178 (1) (by decide) (fun v178 e178 => ?_)
              refine lv_goto (tgt := 183) hx hb dL_acts_179 (by decide) ?_
              exact x_zret hx hb hr hlocks hS (u, s1) dL_acts_183 (fun t ht => by rw [ht]; exact hP) (by omega) ⟨hR, hJ1, by omega⟩
        · refine lv_iload hx hb dL_acts_135 (lv_at hl 1 rfl) ?_
          refine x_bipush hx hb dL_acts_137 (24) (by decide) (fun v137 e137 => ?_)
          refine x_icmp_ne (tgt := 146) hx hb dL_acts_139 (by decide) (fun c139 => ?_) (fun c139 => ?_)
          · exfalso; omega
          · refine x_iconst hx hb dL_acts_142 (1) (by decide) (fun v142 e142 => ?_)
            refine lv_goto (tgt := 183) hx hb dL_acts_143 (by decide) ?_
            exact x_zret hx hb hr hlocks hS (u, s1) dL_acts_183 (fun t ht => by rw [ht]; exact hP) (by omega) ⟨hR, hJ1, by omega⟩
    · refine lv_iload_n hx hb dL_acts_95 rfl (lv_at hl 2 rfl) ?_
      refine lv_goto (tgt := 104) hx hb dL_acts_96 (by decide) ?_
      refine lv_iload_n hx hb dL_acts_104 rfl (lv_at hl 5 rfl) ?_
      refine x_iconst hx hb dL_acts_105 (4) (by decide) (fun v105 e105 => ?_)
      refine x_irem hx hb dL_acts_106 (4) (by omega) (by omega) (by decide) (fun v106 e106 => ?_)
      refine x_iconst hx hb dL_acts_107 (2) (by decide) (fun v107 e107 => ?_)
      refine x_icmp_ge (tgt := 119) hx hb dL_acts_108 (by decide) (fun c108 => ?_) (fun c108 => ?_)
      · refine lv_iload hx hb dL_acts_119 (lv_at hl 1 rfl) ?_
        refine x_calllM (va_runV (As := [.int v16, .int v29]) (rest := []) ⟨hx, hb, hml, hown, hts⟩ (kX3_insert l dC dI cI cJ cZ xa H.size u ss hR hI v16 v29) (cwV 2 hts gL_acts_X3_insert rfl rfl rfl (by decide +kernel) ⟨Nat.le_of_ble_eq_true rfl, Nat.le_of_ble_eq_true rfl⟩) ⟨x_Mb, va_recv hK hP (ci := 3) (q0 := 0) rfl rfl, (fun U hU hW => ⟨rfl, by rw [hU], by rw [hU]; exact hP, va_K.moved hW.alike hK, hD.weaken (fun _ _ _ _ => trivial)⟩)⟩ rfl rfl hl.1 rfl (lv_room (Nat.le_of_ble_eq_true rfl)) dL_acts_121 ⟨Nat.zero_le _, Nat.zero_le _⟩) hS (j_fr hD hS hA) (fun r121 u H locs h121 hP1 hkk hS => ?_)
        clear hkk
        have hD : va_D A (wX cI cJ cZ xa u) := l_addr (wX_a u _) hD
        have hP : va_P (dC, dI) vwCl (wX cI cJ cZ xa u) H := hP1
        have hR := h121.1
        have g121 := h121.2
        have q121 := q_ins hJ hk (y := v16.toInt) (w := v29.toInt) ⟨by omega, by omega⟩ ⟨by omega, by omega⟩
        rw [← g121] at q121
        obtain ⟨s1, es1⟩ : ∃ z, z = (insF ss v16.toInt v29.toInt).2 := ⟨_, rfl⟩
        rw [← es1] at hR q121
        obtain ⟨hJ1, q121⟩ := q121
        refine lv_lstore (lv' := [(6, .long r121), (5, .int r33), (4, .int v29), (3, .int v16), (2, .int v5), (0, .ref ((xa 0))), (1, .int x)]) hx hb dL_acts_124 hl (by decide) rfl (fun ls hl => ?_)
        refine lv_lload hx hb dL_acts_126 (lv_at hl 0 rfl) ?_
        refine x_ldc2 hx hb hown (hts (.constantLong RL 57 (-1000000000003)) (List.mem_of_getElem? (i := 3) rfl)) dL_acts_128 (-1000000000003) (by decide) (fun v128 e128 => ?_)
        refine x_lcmp_ne (tgt := 150) hx hb dL_acts_131 dL_acts_132 (by decide) (fun c131 => ?_) (fun c131 => ?_)
        · refine lv_aload_n hx hb dL_acts_150 rfl (lv_at hl 5 rfl) ?_
          refine x_calliM (va_runV (As := []) (rest := []) ⟨hx, hb, hml, hown, hts⟩ (kX3_size l dC dI cI cJ cZ xa H.size u s1 hR hJ1.1) (cwV 0 hts gL_acts_X3_size rfl rfl rfl (by decide +kernel) ⟨Nat.le_of_ble_eq_true rfl, Nat.le_of_ble_eq_true rfl⟩) ⟨x_Mb, va_recv hK hP (ci := 3) (q0 := 0) rfl rfl, (fun U hU hW => ⟨rfl, by rw [hU], by rw [hU]; exact hP, va_K.moved hW.alike hK, hD.weaken (fun _ _ _ _ => trivial)⟩)⟩ rfl rfl hl.1 rfl (lv_room (Nat.le_of_ble_eq_true rfl)) dL_acts_151 ⟨Nat.zero_le _, Nat.zero_le _⟩) hS (j_fr hD hS hA) (fun r151 u H locs h151 hP1 hkk hS => ?_)
          clear hkk
          have hD : va_D A (wX cI cJ cZ xa u) := l_addr (wX_a u _) hD
          have hP : va_P (dC, dI) vwCl (wX cI cJ cZ xa u) H := hP1
          have hR := h151.1
          have g151 := h151.2
          refine lv_iload hx hb dL_acts_154 (lv_at hl 1 rfl) ?_
          refine x_iconst hx hb dL_acts_156 (1) (by decide) (fun v156 e156 => ?_)
          refine x_iadd hx hb dL_acts_157 (by omega) (by omega) (fun v157 e157 => ?_)
          refine x_icmp_ne (tgt := 182) hx hb dL_acts_158 (by decide) (fun c158 => ?_) (fun c158 => ?_)
          · exfalso; omega
          · refine lv_aload_n hx hb dL_acts_161 rfl (lv_at hl 5 rfl) ?_
            refine lv_lload hx hb dL_acts_162 (lv_at hl 0 rfl) ?_
            refine x_l2i hx hb dL_acts_164 (by omega) (by omega) (fun v164 e164 => ?_)
            refine x_iconst hx hb dL_acts_165 (3) (by decide) (fun v165 e165 => ?_)
            refine x_calllM (va_runV (As := [.int v164, .int v165]) (rest := []) ⟨hx, hb, hml, hown, hts⟩ (kX3_point l dC dI cI cJ cZ xa H.size u s1 hR hJ1.1 v164 v165) (cwV 2 hts gL_acts_X3_point rfl rfl rfl (by decide +kernel) ⟨Nat.le_of_ble_eq_true rfl, Nat.le_of_ble_eq_true rfl⟩) ⟨x_Mb, va_recv hK hP (ci := 3) (q0 := 0) rfl rfl, (fun U hU hW => ⟨rfl, by rw [hU], by rw [hU]; exact hP, va_K.moved hW.alike hK, hD.weaken (fun _ _ _ _ => trivial)⟩)⟩ rfl rfl hl.1 rfl (lv_room (Nat.le_of_ble_eq_true rfl)) dL_acts_166 ⟨Nat.zero_le _, Nat.zero_le _⟩) hS (j_fr hD hS hA) (fun r166 u H locs h166 hP1 hkk hS => ?_)
            clear hkk
            have hD : va_D A (wX cI cJ cZ xa u) := l_addr (wX_a u _) hD
            have hP : va_P (dC, dI) vwCl (wX cI cJ cZ xa u) H := hP1
            have hR := h166.1
            have g166 := h166.2
            rw [show v164.toInt = r121.toInt by omega, e165] at g166
            have k166 : ptF s1 r121.toInt 3 = mt s1 := by rcases q121 with z | z; (exfalso; omega); exact z.2.2.2
            rw [k166] at g166
            refine lv_aload_n hx hb dL_acts_169 rfl (lv_at hl 5 rfl) ?_
            refine x_calliM (va_runV (As := []) (rest := [.long r166]) ⟨hx, hb, hml, hown, hts⟩ (kX3_time l dC dI cI cJ cZ xa H.size u s1 hR hJ1.1) (cwV 0 hts gL_acts_X3_time rfl rfl rfl (by decide +kernel) ⟨Nat.le_of_ble_eq_true rfl, Nat.le_of_ble_eq_true rfl⟩) ⟨x_Mb, va_recv hK hP (ci := 3) (q0 := 0) rfl rfl, (fun U hU hW => ⟨rfl, by rw [hU], by rw [hU]; exact hP, va_K.moved hW.alike hK, hD.weaken (fun _ _ _ _ => trivial)⟩)⟩ rfl rfl hl.1 rfl (lv_room (Nat.le_of_ble_eq_true rfl)) dL_acts_170 ⟨Nat.zero_le _, Nat.zero_le _⟩) hS (j_fr hD hS hA) (fun r170 u H locs h170 hP1 hkk hS => ?_)
            clear hkk
            have hD : va_D A (wX cI cJ cZ xa u) := l_addr (wX_a u _) hD
            have hP : va_P (dC, dI) vwCl (wX cI cJ cZ xa u) H := hP1
            have hR := h170.1
            have g170 := h170.2
            refine x_i2l hx hb dL_acts_173 (fun v173 e173 => ?_)
            refine x_lcmp_ne (tgt := 182) hx hb dL_acts_174 dL_acts_175 (by decide) (fun c174 => ?_) (fun c174 => ?_)
            · exfalso; omega
            · refine x_iconst hx hb dL_acts_178 (1) (by decide) (fun v178 e178 => ?_)
              refine lv_goto (tgt := 183) hx hb dL_acts_179 (by decide) ?_
              exact x_zret hx hb hr hlocks hS (u, s1) dL_acts_183 (fun t ht => by rw [ht]; exact hP) (by omega) ⟨hR, hJ1, by omega⟩
        · refine lv_iload hx hb dL_acts_135 (lv_at hl 1 rfl) ?_
          refine x_bipush hx hb dL_acts_137 (24) (by decide) (fun v137 e137 => ?_)
          refine x_icmp_ne (tgt := 146) hx hb dL_acts_139 (by decide) (fun c139 => ?_) (fun c139 => ?_)
          · exfalso; omega
          · refine x_iconst hx hb dL_acts_142 (1) (by decide) (fun v142 e142 => ?_)
            refine lv_goto (tgt := 183) hx hb dL_acts_143 (by decide) ?_
            exact x_zret hx hb hr hlocks hS (u, s1) dL_acts_183 (fun t ht => by rw [ht]; exact hP) (by omega) ⟨hR, hJ1, by omega⟩
      · refine lv_iload hx hb dL_acts_111 (lv_at hl 1 rfl) ?_
        refine x_bipush hx hb dL_acts_113 (50) (by decide) (fun v113 e113 => ?_)
        refine x_idivT hx hb dL_acts_115 (50) (1000) (by omega) (by decide) (by decide) (by omega) (by omega) (fun v115 e115 f115 => ?_)
        refine lv_goto (tgt := 121) hx hb dL_acts_116 (by decide) ?_
        refine x_calllM (va_runV (As := [.int v16, .int v115]) (rest := []) ⟨hx, hb, hml, hown, hts⟩ (kX3_insert l dC dI cI cJ cZ xa H.size u ss hR hI v16 v115) (cwV 2 hts gL_acts_X3_insert rfl rfl rfl (by decide +kernel) ⟨Nat.le_of_ble_eq_true rfl, Nat.le_of_ble_eq_true rfl⟩) ⟨x_Mb, va_recv hK hP (ci := 3) (q0 := 0) rfl rfl, (fun U hU hW => ⟨rfl, by rw [hU], by rw [hU]; exact hP, va_K.moved hW.alike hK, hD.weaken (fun _ _ _ _ => trivial)⟩)⟩ rfl rfl hl.1 rfl (lv_room (Nat.le_of_ble_eq_true rfl)) dL_acts_121 ⟨Nat.zero_le _, Nat.zero_le _⟩) hS (j_fr hD hS hA) (fun r121 u H locs h121 hP1 hkk hS => ?_)
        clear hkk
        have hD : va_D A (wX cI cJ cZ xa u) := l_addr (wX_a u _) hD
        have hP : va_P (dC, dI) vwCl (wX cI cJ cZ xa u) H := hP1
        have hR := h121.1
        have g121 := h121.2
        have q121 := q_ins hJ hk (y := v16.toInt) (w := v115.toInt) ⟨by omega, by omega⟩ ⟨by omega, by omega⟩
        rw [← g121] at q121
        obtain ⟨s1, es1⟩ : ∃ z, z = (insF ss v16.toInt v115.toInt).2 := ⟨_, rfl⟩
        rw [← es1] at hR q121
        obtain ⟨hJ1, q121⟩ := q121
        refine lv_lstore (lv' := [(6, .long r121), (5, .int r33), (4, .int v29), (3, .int v16), (2, .int v5), (0, .ref ((xa 0))), (1, .int x)]) hx hb dL_acts_124 hl (by decide) rfl (fun ls hl => ?_)
        refine lv_lload hx hb dL_acts_126 (lv_at hl 0 rfl) ?_
        refine x_ldc2 hx hb hown (hts (.constantLong RL 57 (-1000000000003)) (List.mem_of_getElem? (i := 3) rfl)) dL_acts_128 (-1000000000003) (by decide) (fun v128 e128 => ?_)
        refine x_lcmp_ne (tgt := 150) hx hb dL_acts_131 dL_acts_132 (by decide) (fun c131 => ?_) (fun c131 => ?_)
        · refine lv_aload_n hx hb dL_acts_150 rfl (lv_at hl 5 rfl) ?_
          refine x_calliM (va_runV (As := []) (rest := []) ⟨hx, hb, hml, hown, hts⟩ (kX3_size l dC dI cI cJ cZ xa H.size u s1 hR hJ1.1) (cwV 0 hts gL_acts_X3_size rfl rfl rfl (by decide +kernel) ⟨Nat.le_of_ble_eq_true rfl, Nat.le_of_ble_eq_true rfl⟩) ⟨x_Mb, va_recv hK hP (ci := 3) (q0 := 0) rfl rfl, (fun U hU hW => ⟨rfl, by rw [hU], by rw [hU]; exact hP, va_K.moved hW.alike hK, hD.weaken (fun _ _ _ _ => trivial)⟩)⟩ rfl rfl hl.1 rfl (lv_room (Nat.le_of_ble_eq_true rfl)) dL_acts_151 ⟨Nat.zero_le _, Nat.zero_le _⟩) hS (j_fr hD hS hA) (fun r151 u H locs h151 hP1 hkk hS => ?_)
          clear hkk
          have hD : va_D A (wX cI cJ cZ xa u) := l_addr (wX_a u _) hD
          have hP : va_P (dC, dI) vwCl (wX cI cJ cZ xa u) H := hP1
          have hR := h151.1
          have g151 := h151.2
          refine lv_iload hx hb dL_acts_154 (lv_at hl 1 rfl) ?_
          refine x_iconst hx hb dL_acts_156 (1) (by decide) (fun v156 e156 => ?_)
          refine x_iadd hx hb dL_acts_157 (by omega) (by omega) (fun v157 e157 => ?_)
          refine x_icmp_ne (tgt := 182) hx hb dL_acts_158 (by decide) (fun c158 => ?_) (fun c158 => ?_)
          · exfalso; omega
          · refine lv_aload_n hx hb dL_acts_161 rfl (lv_at hl 5 rfl) ?_
            refine lv_lload hx hb dL_acts_162 (lv_at hl 0 rfl) ?_
            refine x_l2i hx hb dL_acts_164 (by omega) (by omega) (fun v164 e164 => ?_)
            refine x_iconst hx hb dL_acts_165 (3) (by decide) (fun v165 e165 => ?_)
            refine x_calllM (va_runV (As := [.int v164, .int v165]) (rest := []) ⟨hx, hb, hml, hown, hts⟩ (kX3_point l dC dI cI cJ cZ xa H.size u s1 hR hJ1.1 v164 v165) (cwV 2 hts gL_acts_X3_point rfl rfl rfl (by decide +kernel) ⟨Nat.le_of_ble_eq_true rfl, Nat.le_of_ble_eq_true rfl⟩) ⟨x_Mb, va_recv hK hP (ci := 3) (q0 := 0) rfl rfl, (fun U hU hW => ⟨rfl, by rw [hU], by rw [hU]; exact hP, va_K.moved hW.alike hK, hD.weaken (fun _ _ _ _ => trivial)⟩)⟩ rfl rfl hl.1 rfl (lv_room (Nat.le_of_ble_eq_true rfl)) dL_acts_166 ⟨Nat.zero_le _, Nat.zero_le _⟩) hS (j_fr hD hS hA) (fun r166 u H locs h166 hP1 hkk hS => ?_)
            clear hkk
            have hD : va_D A (wX cI cJ cZ xa u) := l_addr (wX_a u _) hD
            have hP : va_P (dC, dI) vwCl (wX cI cJ cZ xa u) H := hP1
            have hR := h166.1
            have g166 := h166.2
            rw [show v164.toInt = r121.toInt by omega, e165] at g166
            have k166 : ptF s1 r121.toInt 3 = mt s1 := by rcases q121 with z | z; (exfalso; omega); exact z.2.2.2
            rw [k166] at g166
            refine lv_aload_n hx hb dL_acts_169 rfl (lv_at hl 5 rfl) ?_
            refine x_calliM (va_runV (As := []) (rest := [.long r166]) ⟨hx, hb, hml, hown, hts⟩ (kX3_time l dC dI cI cJ cZ xa H.size u s1 hR hJ1.1) (cwV 0 hts gL_acts_X3_time rfl rfl rfl (by decide +kernel) ⟨Nat.le_of_ble_eq_true rfl, Nat.le_of_ble_eq_true rfl⟩) ⟨x_Mb, va_recv hK hP (ci := 3) (q0 := 0) rfl rfl, (fun U hU hW => ⟨rfl, by rw [hU], by rw [hU]; exact hP, va_K.moved hW.alike hK, hD.weaken (fun _ _ _ _ => trivial)⟩)⟩ rfl rfl hl.1 rfl (lv_room (Nat.le_of_ble_eq_true rfl)) dL_acts_170 ⟨Nat.zero_le _, Nat.zero_le _⟩) hS (j_fr hD hS hA) (fun r170 u H locs h170 hP1 hkk hS => ?_)
            clear hkk
            have hD : va_D A (wX cI cJ cZ xa u) := l_addr (wX_a u _) hD
            have hP : va_P (dC, dI) vwCl (wX cI cJ cZ xa u) H := hP1
            have hR := h170.1
            have g170 := h170.2
            refine x_i2l hx hb dL_acts_173 (fun v173 e173 => ?_)
            refine x_lcmp_ne (tgt := 182) hx hb dL_acts_174 dL_acts_175 (by decide) (fun c174 => ?_) (fun c174 => ?_)
            · exfalso; omega
            · refine x_iconst hx hb dL_acts_178 (1) (by decide) (fun v178 e178 => ?_)
              refine lv_goto (tgt := 183) hx hb dL_acts_179 (by decide) ?_
              exact x_zret hx hb hr hlocks hS (u, s1) dL_acts_183 (fun t ht => by rw [ht]; exact hP) (by omega) ⟨hR, hJ1, by omega⟩
        · refine lv_iload hx hb dL_acts_135 (lv_at hl 1 rfl) ?_
          refine x_bipush hx hb dL_acts_137 (24) (by decide) (fun v137 e137 => ?_)
          refine x_icmp_ne (tgt := 146) hx hb dL_acts_139 (by decide) (fun c139 => ?_) (fun c139 => ?_)
          · exfalso; omega
          · refine x_iconst hx hb dL_acts_142 (1) (by decide) (fun v142 e142 => ?_)
            refine lv_goto (tgt := 183) hx hb dL_acts_143 (by decide) ?_
            exact x_zret hx hb hr hlocks hS (u, s1) dL_acts_183 (fun t ht => by rw [ht]; exact hP) (by omega) ⟨hR, hJ1, by omega⟩
  rcases (show (v41.toInt < 0 ∨ 7 < v41.toInt) ∨ v41.toInt = 0 ∨ v41.toInt = 1 ∨ v41.toInt = 2 ∨ v41.toInt = 3 ∨ v41.toInt = 4 ∨ v41.toInt = 5 ∨ v41.toInt = 6 ∨ v41.toInt = 7 by omega) with c42 | c42 | c42 | c42 | c42 | c42 | c42 | c42 | c42
  · refine lv_tableOut (tgt := 496) hx hb dL_acts_42 (by omega) (by decide) ?_
    refine lv_aload_n hx hb dL_acts_496 rfl (lv_at hl 4 rfl) ?_
    refine x_calliM (va_runV (As := []) (rest := []) ⟨hx, hb, hml, hown, hts⟩ (kX3_time l dC dI cI cJ cZ xa H.size u ss hR hI) (cwV 0 hts gL_acts_X3_time rfl rfl rfl (by decide +kernel) ⟨Nat.le_of_ble_eq_true rfl, Nat.le_of_ble_eq_true rfl⟩) ⟨x_Mb, va_recv hK hP (ci := 3) (q0 := 0) rfl rfl, (fun U hU hW => ⟨rfl, by rw [hU], by rw [hU]; exact hP, va_K.moved hW.alike hK, hD.weaken (fun _ _ _ _ => trivial)⟩)⟩ rfl rfl hl.1 rfl (lv_room (Nat.le_of_ble_eq_true rfl)) dL_acts_497 ⟨Nat.zero_le _, Nat.zero_le _⟩) hS (j_fr hD hS hA) (fun r497 u H locs h497 hP1 hkk hS => ?_)
    clear hkk
    have hD : va_D A (wX cI cJ cZ xa u) := l_addr (wX_a u _) hD
    have hP : va_P (dC, dI) vwCl (wX cI cJ cZ xa u) H := hP1
    have hR := h497.1
    have g497 := h497.2
    refine lv_iload_n hx hb dL_acts_500 rfl (lv_at hl 5 rfl) ?_
    refine x_bipush hx hb dL_acts_501 (9) (by decide) (fun v501 e501 => ?_)
    refine x_ishr0 hx hb dL_acts_503 (9) (by omega) (by decide) (by omega) (fun v503 e503 => ?_)
    refine x_sipush hx hb dL_acts_504 (200) (by decide) (fun v504 e504 => ?_)
    refine x_irem hx hb dL_acts_507 (200) (by omega) (by omega) (by decide) (fun v507 e507 => ?_)
    refine x_iadd hx hb dL_acts_508 (by omega) (by omega) (fun v508 e508 => ?_)
    refine lv_istore (lv' := [(16, .int v508), (5, .int r33), (4, .int v29), (3, .int v16), (2, .int v5), (0, .ref ((xa 0))), (1, .int x)]) hx hb dL_acts_509 hl (by decide) rfl (fun ls hl => ?_)
    refine lv_aload_n hx hb dL_acts_511 rfl (lv_at hl 5 rfl) ?_
    refine x_iconst hx hb dL_acts_512 (0) (by decide) (fun v512 e512 => ?_)
    refine x_calllM (va_runV (As := [.int v512]) (rest := []) ⟨hx, hb, hml, hown, hts⟩ (kX3_count l dC dI cI cJ cZ xa H.size u ss hR hI v512) (cwV 1 hts gL_acts_X3_count rfl rfl rfl (by decide +kernel) ⟨Nat.le_of_ble_eq_true rfl, Nat.le_of_ble_eq_true rfl⟩) ⟨(x_Nb rfl rfl), va_recv hK hP (ci := 3) (q0 := 0) rfl rfl, (fun U hU hW => ⟨rfl, by rw [hU], by rw [hU]; exact hP, va_K.moved hW.alike hK, hD.weaken (fun _ _ _ _ => trivial), va_Nw.warmF hW hN1, va_Nw.warmF hW hN2⟩)⟩ rfl rfl hl.1 rfl (lv_room (Nat.le_of_ble_eq_true rfl)) dL_acts_513 ⟨Nat.zero_le _, Nat.zero_le _⟩) hS (j_fr hD hS hA) (fun r513 u H locs h513 hP1 hkk hS => ?_)
    clear hkk
    have hD : va_D A (wX cI cJ cZ xa u) := l_addr (wX_a u _) hD
    have hP : va_P (dC, dI) vwCl (wX cI cJ cZ xa u) H := hP1
    have hR := h513.1
    have g513 := h513.2
    rw [e512] at g513
    unfold couF at g513
    rw [if_pos rfl] at g513
    refine lv_lstore (lv' := [(17, .long r513), (16, .int v508), (5, .int r33), (4, .int v29), (3, .int v16), (2, .int v5), (0, .ref ((xa 0))), (1, .int x)]) hx hb dL_acts_516 hl (by decide) rfl (fun ls hl => ?_)
    refine lv_aload_n hx hb dL_acts_518 rfl (lv_at hl 6 rfl) ?_
    refine x_iconst hx hb dL_acts_519 (1) (by decide) (fun v519 e519 => ?_)
    refine x_calllM (va_runV (As := [.int v519]) (rest := []) ⟨hx, hb, hml, hown, hts⟩ (kX3_count l dC dI cI cJ cZ xa H.size u ss hR hI v519) (cwV 1 hts gL_acts_X3_count rfl rfl rfl (by decide +kernel) ⟨Nat.le_of_ble_eq_true rfl, Nat.le_of_ble_eq_true rfl⟩) ⟨(x_Nb rfl rfl), va_recv hK hP (ci := 3) (q0 := 0) rfl rfl, (fun U hU hW => ⟨rfl, by rw [hU], by rw [hU]; exact hP, va_K.moved hW.alike hK, hD.weaken (fun _ _ _ _ => trivial), va_Nw.warmF hW hN1, va_Nw.warmF hW hN2⟩)⟩ rfl rfl hl.1 rfl (lv_room (Nat.le_of_ble_eq_true rfl)) dL_acts_520 ⟨Nat.zero_le _, Nat.zero_le _⟩) hS (j_fr hD hS hA) (fun r520 u H locs h520 hP1 hkk hS => ?_)
    clear hkk
    have hD : va_D A (wX cI cJ cZ xa u) := l_addr (wX_a u _) hD
    have hP : va_P (dC, dI) vwCl (wX cI cJ cZ xa u) H := hP1
    have hR := h520.1
    have g520 := h520.2
    rw [e519] at g520
    unfold couF at g520
    rw [if_neg (by decide), if_pos rfl] at g520
    refine lv_lstore (lv' := [(12, .long r520), (17, .long r513), (16, .int v508), (5, .int r33), (4, .int v29), (3, .int v16), (2, .int v5), (0, .ref ((xa 0))), (1, .int x)]) hx hb dL_acts_523 hl (by decide) rfl (fun ls hl => ?_)
    refine lv_iload hx hb dL_acts_525 (lv_at hl 2 rfl) ?_
    refine x_ldc hx hb hown (hts (.constant RL 83 (100000)) (List.mem_of_getElem? (i := 9) rfl)) dL_acts_527 (100000) (by decide) (fun v527 e527 => ?_)
    refine x_icmp_le (tgt := 534) hx hb dL_acts_529 (by decide) (fun c529 => ?_) (fun c529 => ?_)
    · refine lv_aload_n hx hb dL_acts_534 rfl (lv_at hl 7 rfl) ?_
      refine lv_iload hx hb dL_acts_535 (lv_at hl 2 rfl) ?_
      refine x_calllM (va_runV (As := [.int v508]) (rest := []) ⟨hx, hb, hml, hown, hts⟩ (kX3_pass l dC dI cI cJ cZ xa H.size u ss hR hI v508) (cwV 1 hts gL_acts_X3_pass rfl rfl rfl (by decide +kernel) ⟨Nat.le_of_ble_eq_true rfl, Nat.le_of_ble_eq_true rfl⟩) ⟨x_Mb, va_recv hK hP (ci := 3) (q0 := 0) rfl rfl, (fun U hU hW => ⟨rfl, by rw [hU], by rw [hU]; exact hP, va_K.moved hW.alike hK, hD.weaken (fun _ _ _ _ => trivial)⟩)⟩ rfl rfl hl.1 rfl (lv_room (Nat.le_of_ble_eq_true rfl)) dL_acts_537 ⟨Nat.zero_le _, Nat.zero_le _⟩) hS (j_fr hD hS hA) (fun r537 u H locs h537 hP1 hkk hS => ?_)
      clear hkk
      have hD : va_D A (wX cI cJ cZ xa u) := l_addr (wX_a u _) hD
      have hP : va_P (dC, dI) vwCl (wX cI cJ cZ xa u) H := hP1
      have hR := h537.1
      have g537 := h537.2
      have q537 := q_pas hJ hk (x := v508.toInt) (by omega) (by omega)
      rw [← g537] at q537
      obtain ⟨s1, es1⟩ : ∃ z, z = (pasF ss v508.toInt).2 := ⟨_, rfl⟩
      rw [← es1] at hR q537
      obtain ⟨hJ1, q537⟩ := q537
      refine lv_lstore (lv' := [(6, .long r537), (12, .long r520), (17, .long r513), (16, .int v508), (5, .int r33), (4, .int v29), (3, .int v16), (2, .int v5), (0, .ref ((xa 0))), (1, .int x)]) hx hb dL_acts_540 hl (by decide) rfl (fun ls hl => ?_)
      refine lv_lload hx hb dL_acts_542 (lv_at hl 0 rfl) ?_
      refine x_lconst hx hb dL_acts_544 (0) (by decide) (fun v544 e544 => ?_)
      refine x_lcmp_lt (tgt := 604) hx hb dL_acts_545 dL_acts_546 (by decide) (fun c545 => ?_) (fun c545 => ?_)
      · exfalso; omega
      · refine lv_aload_n hx hb dL_acts_549 rfl (lv_at hl 8 rfl) ?_
        refine x_calliM (va_runV (As := []) (rest := []) ⟨hx, hb, hml, hown, hts⟩ (kX3_time l dC dI cI cJ cZ xa H.size u s1 hR hJ1.1) (cwV 0 hts gL_acts_X3_time rfl rfl rfl (by decide +kernel) ⟨Nat.le_of_ble_eq_true rfl, Nat.le_of_ble_eq_true rfl⟩) ⟨x_Mb, va_recv hK hP (ci := 3) (q0 := 0) rfl rfl, (fun U hU hW => ⟨rfl, by rw [hU], by rw [hU]; exact hP, va_K.moved hW.alike hK, hD.weaken (fun _ _ _ _ => trivial)⟩)⟩ rfl rfl hl.1 rfl (lv_room (Nat.le_of_ble_eq_true rfl)) dL_acts_550 ⟨Nat.zero_le _, Nat.zero_le _⟩) hS (j_fr hD hS hA) (fun r550 u H locs h550 hP1 hkk hS => ?_)
        clear hkk
        have hD : va_D A (wX cI cJ cZ xa u) := l_addr (wX_a u _) hD
        have hP : va_P (dC, dI) vwCl (wX cI cJ cZ xa u) H := hP1
        have hR := h550.1
        have g550 := h550.2
        refine lv_iload hx hb dL_acts_553 (lv_at hl 3 rfl) ?_
        refine x_icmp_ne (tgt := 604) hx hb dL_acts_555 (by decide) (fun c555 => ?_) (fun c555 => ?_)
        · exfalso; omega
        · refine lv_aload_n hx hb dL_acts_558 rfl (lv_at hl 8 rfl) ?_
          refine x_iconst hx hb dL_acts_559 (1) (by decide) (fun v559 e559 => ?_)
          refine x_calllM (va_runV (As := [.int v559]) (rest := []) ⟨hx, hb, hml, hown, hts⟩ (kX3_count l dC dI cI cJ cZ xa H.size u s1 hR hJ1.1 v559) (cwV 1 hts gL_acts_X3_count rfl rfl rfl (by decide +kernel) ⟨Nat.le_of_ble_eq_true rfl, Nat.le_of_ble_eq_true rfl⟩) ⟨(x_Nb rfl rfl), va_recv hK hP (ci := 3) (q0 := 0) rfl rfl, (fun U hU hW => ⟨rfl, by rw [hU], by rw [hU]; exact hP, va_K.moved hW.alike hK, hD.weaken (fun _ _ _ _ => trivial), va_Nw.warmF hW hN1, va_Nw.warmF hW hN2⟩)⟩ rfl rfl hl.1 rfl (lv_room (Nat.le_of_ble_eq_true rfl)) dL_acts_560 ⟨Nat.zero_le _, Nat.zero_le _⟩) hS (j_fr hD hS hA) (fun r560 u H locs h560 hP1 hkk hS => ?_)
          clear hkk
          have hD : va_D A (wX cI cJ cZ xa u) := l_addr (wX_a u _) hD
          have hP : va_P (dC, dI) vwCl (wX cI cJ cZ xa u) H := hP1
          have hR := h560.1
          have g560 := h560.2
          rw [e559] at g560
          unfold couF at g560
          rw [if_neg (by decide), if_pos rfl] at g560
          refine lv_lload hx hb dL_acts_563 (lv_at hl 1 rfl) ?_
          refine lv_lload hx hb dL_acts_565 (lv_at hl 0 rfl) ?_
          refine x_ladd hx hb dL_acts_567 (by omega) (by omega) (fun v567 e567 => ?_)
          refine x_lcmp_ne (tgt := 604) hx hb dL_acts_568 dL_acts_569 (by decide) (fun c568 => ?_) (fun c568 => ?_)
          · exfalso; omega
          · refine lv_aload_n hx hb dL_acts_572 rfl (lv_at hl 8 rfl) ?_
            refine x_iconst hx hb dL_acts_573 (0) (by decide) (fun v573 e573 => ?_)
            refine x_calllM (va_runV (As := [.int v573]) (rest := []) ⟨hx, hb, hml, hown, hts⟩ (kX3_count l dC dI cI cJ cZ xa H.size u s1 hR hJ1.1 v573) (cwV 1 hts gL_acts_X3_count rfl rfl rfl (by decide +kernel) ⟨Nat.le_of_ble_eq_true rfl, Nat.le_of_ble_eq_true rfl⟩) ⟨(x_Nb rfl rfl), va_recv hK hP (ci := 3) (q0 := 0) rfl rfl, (fun U hU hW => ⟨rfl, by rw [hU], by rw [hU]; exact hP, va_K.moved hW.alike hK, hD.weaken (fun _ _ _ _ => trivial), va_Nw.warmF hW hN1, va_Nw.warmF hW hN2⟩)⟩ rfl rfl hl.1 rfl (lv_room (Nat.le_of_ble_eq_true rfl)) dL_acts_574 ⟨Nat.zero_le _, Nat.zero_le _⟩) hS (j_fr hD hS hA) (fun r574 u H locs h574 hP1 hkk hS => ?_)
            clear hkk
            have hD : va_D A (wX cI cJ cZ xa u) := l_addr (wX_a u _) hD
            have hP : va_P (dC, dI) vwCl (wX cI cJ cZ xa u) H := hP1
            have hR := h574.1
            have g574 := h574.2
            rw [e573] at g574
            unfold couF at g574
            rw [if_pos rfl] at g574
            refine lv_lload hx hb dL_acts_577 (lv_at hl 2 rfl) ?_
            refine lv_lload hx hb dL_acts_579 (lv_at hl 0 rfl) ?_
            refine x_ladd hx hb dL_acts_581 (by omega) (by omega) (fun v581 e581 => ?_)
            refine x_lcmp_lt (tgt := 604) hx hb dL_acts_582 dL_acts_583 (by decide) (fun c582 => ?_) (fun c582 => ?_)
            · exfalso; omega
            · refine lv_aload_n hx hb dL_acts_586 rfl (lv_at hl 8 rfl) ?_
              refine x_iconst hx hb dL_acts_587 (2) (by decide) (fun v587 e587 => ?_)
              refine x_calllM (va_runV (As := [.int v587]) (rest := []) ⟨hx, hb, hml, hown, hts⟩ (kX3_count l dC dI cI cJ cZ xa H.size u s1 hR hJ1.1 v587) (cwV 1 hts gL_acts_X3_count rfl rfl rfl (by decide +kernel) ⟨Nat.le_of_ble_eq_true rfl, Nat.le_of_ble_eq_true rfl⟩) ⟨(x_Nb rfl rfl), va_recv hK hP (ci := 3) (q0 := 0) rfl rfl, (fun U hU hW => ⟨rfl, by rw [hU], by rw [hU]; exact hP, va_K.moved hW.alike hK, hD.weaken (fun _ _ _ _ => trivial), va_Nw.warmF hW hN1, va_Nw.warmF hW hN2⟩)⟩ rfl rfl hl.1 rfl (lv_room (Nat.le_of_ble_eq_true rfl)) dL_acts_588 ⟨Nat.zero_le _, Nat.zero_le _⟩) hS (j_fr hD hS hA) (fun r588 u H locs h588 hP1 hkk hS => ?_)
              clear hkk
              have hD : va_D A (wX cI cJ cZ xa u) := l_addr (wX_a u _) hD
              have hP : va_P (dC, dI) vwCl (wX cI cJ cZ xa u) H := hP1
              have hR := h588.1
              have g588 := h588.2
              rw [e587] at g588
              unfold couF at g588
              rw [if_neg (by decide), if_neg (by decide), if_pos rfl] at g588
              refine lv_aload_n hx hb dL_acts_591 rfl (lv_at hl 8 rfl) ?_
              refine x_iconst hx hb dL_acts_592 (0) (by decide) (fun v592 e592 => ?_)
              refine x_calllM (va_runV (As := [.int v592]) (rest := [.long r588]) ⟨hx, hb, hml, hown, hts⟩ (kX3_count l dC dI cI cJ cZ xa H.size u s1 hR hJ1.1 v592) (cwV 1 hts gL_acts_X3_count rfl rfl rfl (by decide +kernel) ⟨Nat.le_of_ble_eq_true rfl, Nat.le_of_ble_eq_true rfl⟩) ⟨(x_Nb rfl rfl), va_recv hK hP (ci := 3) (q0 := 0) rfl rfl, (fun U hU hW => ⟨rfl, by rw [hU], by rw [hU]; exact hP, va_K.moved hW.alike hK, hD.weaken (fun _ _ _ _ => trivial), va_Nw.warmF hW hN1, va_Nw.warmF hW hN2⟩)⟩ rfl rfl hl.1 rfl (lv_room (Nat.le_of_ble_eq_true rfl)) dL_acts_593 ⟨Nat.zero_le _, Nat.zero_le _⟩) hS (j_fr hD hS hA) (fun r593 u H locs h593 hP1 hkk hS => ?_)
              clear hkk
              have hD : va_D A (wX cI cJ cZ xa u) := l_addr (wX_a u _) hD
              have hP : va_P (dC, dI) vwCl (wX cI cJ cZ xa u) H := hP1
              have hR := h593.1
              have g593 := h593.2
              rw [e592] at g593
              unfold couF at g593
              rw [if_pos rfl] at g593
              refine x_lcmp_gt (tgt := 604) hx hb dL_acts_596 dL_acts_597 (by decide) (fun c596 => ?_) (fun c596 => ?_)
              · exfalso; omega
              · refine x_iconst hx hb dL_acts_600 (1) (by decide) (fun v600 e600 => ?_)
                refine lv_goto (tgt := 605) hx hb dL_acts_601 (by decide) ?_
                exact x_zret hx hb hr hlocks hS (u, s1) dL_acts_605 (fun t ht => by rw [ht]; exact hP) (by omega) ⟨hR, hJ1, by omega⟩
    · refine x_iconst hx hb dL_acts_532 (1) (by decide) (fun v532 e532 => ?_)
      exact x_zret hx hb hr hlocks hS (u, ss) dL_acts_533 (fun t ht => by rw [ht]; exact hP) (by omega) ⟨hR, jg_up hJ, by omega⟩
  · refine lv_tableIn (off := 46) (tgt := 88) hx hb dL_acts_42 (by omega) (by omega) (by rw [c42]; rfl) (by decide) ?_
    exact j88
  · refine lv_tableIn (off := 46) (tgt := 88) hx hb dL_acts_42 (by omega) (by omega) (by rw [c42]; rfl) (by decide) ?_
    exact j88
  · refine lv_tableIn (off := 46) (tgt := 88) hx hb dL_acts_42 (by omega) (by omega) (by rw [c42]; rfl) (by decide) ?_
    exact j88
  · refine lv_tableIn (off := 46) (tgt := 88) hx hb dL_acts_42 (by omega) (by omega) (by rw [c42]; rfl) (by decide) ?_
    exact j88
  · refine lv_tableIn (off := 142) (tgt := 184) hx hb dL_acts_42 (by omega) (by omega) (by rw [c42]; rfl) (by decide) ?_
    refine lv_aload_n hx hb dL_acts_184 rfl (lv_at hl 4 rfl) ?_
    refine lv_iload_n hx hb dL_acts_185 rfl (lv_at hl 3 rfl) ?_
    refine x_calllM (va_runV (As := [.int v5]) (rest := []) ⟨hx, hb, hml, hown, hts⟩ (kX3_remove l dC dI cI cJ cZ xa H.size u ss hR hI v5) (cwV 1 hts gL_acts_X3_remove rfl rfl rfl (by decide +kernel) ⟨Nat.le_of_ble_eq_true rfl, Nat.le_of_ble_eq_true rfl⟩) ⟨x_Mb, va_recv hK hP (ci := 3) (q0 := 0) rfl rfl, (fun U hU hW => ⟨rfl, by rw [hU], by rw [hU]; exact hP, va_K.moved hW.alike hK, hD.weaken (fun _ _ _ _ => trivial)⟩)⟩ rfl rfl hl.1 rfl (lv_room (Nat.le_of_ble_eq_true rfl)) dL_acts_186 ⟨Nat.zero_le _, Nat.zero_le _⟩) hS (j_fr hD hS hA) (fun r186 u H locs h186 hP1 hkk hS => ?_)
    clear hkk
    have hD : va_D A (wX cI cJ cZ xa u) := l_addr (wX_a u _) hD
    have hP : va_P (dC, dI) vwCl (wX cI cJ cZ xa u) H := hP1
    have hR := h186.1
    have g186 := h186.2
    have q186 := q_rem hJ hk (x := v5.toInt) ⟨by omega, by omega⟩
    rw [← g186] at q186
    obtain ⟨s1, es1⟩ : ∃ z, z = (remF ss v5.toInt).2 := ⟨_, rfl⟩
    rw [← es1] at hR q186
    obtain ⟨hJ1, q186⟩ := q186
    refine lv_lstore (lv' := [(6, .long r186), (5, .int r33), (4, .int v29), (3, .int v16), (2, .int v5), (0, .ref ((xa 0))), (1, .int x)]) hx hb dL_acts_189 hl (by decide) rfl (fun ls hl => ?_)
    refine lv_lload hx hb dL_acts_191 (lv_at hl 0 rfl) ?_
    refine x_ldc2 hx hb hown (hts (.constantLong RL 62 (-1000000000001)) (List.mem_of_getElem? (i := 4) rfl)) dL_acts_193 (-1000000000001) (by decide) (fun v193 e193 => ?_)
    refine x_lcmp_ne (tgt := 217) hx hb dL_acts_196 dL_acts_197 (by decide) (fun c196 => ?_) (fun c196 => ?_)
    · refine lv_aload_n hx hb dL_acts_217 rfl (lv_at hl 5 rfl) ?_
      refine x_calliM (va_runV (As := []) (rest := []) ⟨hx, hb, hml, hown, hts⟩ (kX3_size l dC dI cI cJ cZ xa H.size u s1 hR hJ1.1) (cwV 0 hts gL_acts_X3_size rfl rfl rfl (by decide +kernel) ⟨Nat.le_of_ble_eq_true rfl, Nat.le_of_ble_eq_true rfl⟩) ⟨x_Mb, va_recv hK hP (ci := 3) (q0 := 0) rfl rfl, (fun U hU hW => ⟨rfl, by rw [hU], by rw [hU]; exact hP, va_K.moved hW.alike hK, hD.weaken (fun _ _ _ _ => trivial)⟩)⟩ rfl rfl hl.1 rfl (lv_room (Nat.le_of_ble_eq_true rfl)) dL_acts_218 ⟨Nat.zero_le _, Nat.zero_le _⟩) hS (j_fr hD hS hA) (fun r218 u H locs h218 hP1 hkk hS => ?_)
      clear hkk
      have hD : va_D A (wX cI cJ cZ xa u) := l_addr (wX_a u _) hD
      have hP : va_P (dC, dI) vwCl (wX cI cJ cZ xa u) H := hP1
      have hR := h218.1
      have g218 := h218.2
      refine lv_iload hx hb dL_acts_221 (lv_at hl 1 rfl) ?_
      refine x_iconst hx hb dL_acts_223 (1) (by decide) (fun v223 e223 => ?_)
      refine x_isub hx hb dL_acts_224 (by omega) (by omega) (fun v224 e224 => ?_)
      refine x_icmp_ne (tgt := 248) hx hb dL_acts_225 (by decide) (fun c225 => ?_) (fun c225 => ?_)
      · exfalso; omega
      · refine lv_aload_n hx hb dL_acts_228 rfl (lv_at hl 5 rfl) ?_
        refine lv_iload_n hx hb dL_acts_229 rfl (lv_at hl 4 rfl) ?_
        refine lv_aload_n hx hb dL_acts_230 rfl (lv_at hl 5 rfl) ?_
        refine x_calliM (va_runV (As := []) (rest := [.int v5, .ref ((xa 0))]) ⟨hx, hb, hml, hown, hts⟩ (kX3_time l dC dI cI cJ cZ xa H.size u s1 hR hJ1.1) (cwV 0 hts gL_acts_X3_time rfl rfl rfl (by decide +kernel) ⟨Nat.le_of_ble_eq_true rfl, Nat.le_of_ble_eq_true rfl⟩) ⟨x_Mb, va_recv hK hP (ci := 3) (q0 := 0) rfl rfl, (fun U hU hW => ⟨rfl, by rw [hU], by rw [hU]; exact hP, va_K.moved hW.alike hK, hD.weaken (fun _ _ _ _ => trivial)⟩)⟩ rfl rfl hl.1 rfl (lv_room (Nat.le_of_ble_eq_true rfl)) dL_acts_231 ⟨Nat.zero_le _, Nat.zero_le _⟩) hS (j_fr hD hS hA) (fun r231 u H locs h231 hP1 hkk hS => ?_)
        clear hkk
        have hD : va_D A (wX cI cJ cZ xa u) := l_addr (wX_a u _) hD
        have hP : va_P (dC, dI) vwCl (wX cI cJ cZ xa u) H := hP1
        have hR := h231.1
        have g231 := h231.2
        refine x_calllM (va_runV (As := [.int v5, .int r231]) (rest := []) ⟨hx, hb, hml, hown, hts⟩ (kX3_valueAt l dC dI cI cJ cZ xa H.size u s1 hR hJ1.1 v5 r231) (cwV 2 hts gL_acts_X3_valueAt rfl rfl rfl (by decide +kernel) ⟨Nat.le_of_ble_eq_true rfl, Nat.le_of_ble_eq_true rfl⟩) ⟨x_Mb, va_recv hK hP (ci := 3) (q0 := 0) rfl rfl, (fun U hU hW => ⟨rfl, by rw [hU], by rw [hU]; exact hP, va_K.moved hW.alike hK, hD.weaken (fun _ _ _ _ => trivial)⟩)⟩ rfl rfl hl.1 rfl (lv_room (Nat.le_of_ble_eq_true rfl)) dL_acts_234 ⟨Nat.zero_le _, Nat.zero_le _⟩) hS (j_fr hD hS hA) (fun r234 u H locs h234 hP1 hkk hS => ?_)
        clear hkk
        have hD : va_D A (wX cI cJ cZ xa u) := l_addr (wX_a u _) hD
        have hP : va_P (dC, dI) vwCl (wX cI cJ cZ xa u) H := hP1
        have hR := h234.1
        have g234 := h234.2
        rw [g231] at g234
        have k234 : vaaF s1 v5.toInt (mt s1) = aNF := by rcases q186 with z | z; (exfalso; omega); exact z.2.2
        rw [k234] at g234
        refine x_ldc2 hx hb hown (hts (.constantLong RL 35 (-1000000000004)) (List.mem_of_getElem? (i := 5) rfl)) dL_acts_237 (-1000000000004) (by decide) (fun v237 e237 => ?_)
        refine x_lcmp_ne (tgt := 248) hx hb dL_acts_240 dL_acts_241 (by decide) (fun c240 => ?_) (fun c240 => ?_)
        · exfalso; omega
        · refine x_iconst hx hb dL_acts_244 (1) (by decide) (fun v244 e244 => ?_)
          refine lv_goto (tgt := 249) hx hb dL_acts_245 (by decide) ?_
          exact x_zret hx hb hr hlocks hS (u, s1) dL_acts_249 (fun t ht => by rw [ht]; exact hP) (by omega) ⟨hR, hJ1, by omega⟩
    · refine lv_aload_n hx hb dL_acts_200 rfl (lv_at hl 5 rfl) ?_
      refine x_calliM (va_runV (As := []) (rest := []) ⟨hx, hb, hml, hown, hts⟩ (kX3_size l dC dI cI cJ cZ xa H.size u s1 hR hJ1.1) (cwV 0 hts gL_acts_X3_size rfl rfl rfl (by decide +kernel) ⟨Nat.le_of_ble_eq_true rfl, Nat.le_of_ble_eq_true rfl⟩) ⟨x_Mb, va_recv hK hP (ci := 3) (q0 := 0) rfl rfl, (fun U hU hW => ⟨rfl, by rw [hU], by rw [hU]; exact hP, va_K.moved hW.alike hK, hD.weaken (fun _ _ _ _ => trivial)⟩)⟩ rfl rfl hl.1 rfl (lv_room (Nat.le_of_ble_eq_true rfl)) dL_acts_201 ⟨Nat.zero_le _, Nat.zero_le _⟩) hS (j_fr hD hS hA) (fun r201 u H locs h201 hP1 hkk hS => ?_)
      clear hkk
      have hD : va_D A (wX cI cJ cZ xa u) := l_addr (wX_a u _) hD
      have hP : va_P (dC, dI) vwCl (wX cI cJ cZ xa u) H := hP1
      have hR := h201.1
      have g201 := h201.2
      refine lv_iload hx hb dL_acts_204 (lv_at hl 1 rfl) ?_
      refine x_icmp_ne (tgt := 213) hx hb dL_acts_206 (by decide) (fun c206 => ?_) (fun c206 => ?_)
      · exfalso; omega
      · refine x_iconst hx hb dL_acts_209 (1) (by decide) (fun v209 e209 => ?_)
        refine lv_goto (tgt := 249) hx hb dL_acts_210 (by decide) ?_
        exact x_zret hx hb hr hlocks hS (u, s1) dL_acts_249 (fun t ht => by rw [ht]; exact hP) (by omega) ⟨hR, hJ1, by omega⟩
  · refine lv_tableIn (off := 208) (tgt := 250) hx hb dL_acts_42 (by omega) (by omega) (by rw [c42]; rfl) (by decide) ?_
    refine lv_aload_n hx hb dL_acts_250 rfl (lv_at hl 4 rfl) ?_
    refine lv_iload_n hx hb dL_acts_251 rfl (lv_at hl 3 rfl) ?_
    refine x_iconst hx hb dL_acts_252 (0) (by decide) (fun v252 e252 => ?_)
    refine x_calllM (va_runV (As := [.int v5, .int v252]) (rest := []) ⟨hx, hb, hml, hown, hts⟩ (kX3_point l dC dI cI cJ cZ xa H.size u ss hR hI v5 v252) (cwV 2 hts gL_acts_X3_point rfl rfl rfl (by decide +kernel) ⟨Nat.le_of_ble_eq_true rfl, Nat.le_of_ble_eq_true rfl⟩) ⟨x_Mb, va_recv hK hP (ci := 3) (q0 := 0) rfl rfl, (fun U hU hW => ⟨rfl, by rw [hU], by rw [hU]; exact hP, va_K.moved hW.alike hK, hD.weaken (fun _ _ _ _ => trivial)⟩)⟩ rfl rfl hl.1 rfl (lv_room (Nat.le_of_ble_eq_true rfl)) dL_acts_253 ⟨Nat.zero_le _, Nat.zero_le _⟩) hS (j_fr hD hS hA) (fun r253 u H locs h253 hP1 hkk hS => ?_)
    clear hkk
    have hD : va_D A (wX cI cJ cZ xa u) := l_addr (wX_a u _) hD
    have hP : va_P (dC, dI) vwCl (wX cI cJ cZ xa u) H := hP1
    have hR := h253.1
    have g253 := h253.2
    rw [e252] at g253
    refine lv_lstore (lv' := [(8, .long r253), (5, .int r33), (4, .int v29), (3, .int v16), (2, .int v5), (0, .ref ((xa 0))), (1, .int x)]) hx hb dL_acts_256 hl (by decide) rfl (fun ls hl => ?_)
    refine lv_aload_n hx hb dL_acts_258 rfl (lv_at hl 5 rfl) ?_
    refine lv_iload_n hx hb dL_acts_259 rfl (lv_at hl 4 rfl) ?_
    refine lv_iload hx hb dL_acts_260 (lv_at hl 2 rfl) ?_
    refine x_bipush hx hb dL_acts_262 (9) (by decide) (fun v262 e262 => ?_)
    refine x_idivT hx hb dL_acts_264 (9) (1000) (by omega) (by decide) (by decide) (by omega) (by omega) (fun v264 e264 f264 => ?_)
    refine x_calllM (va_runV (As := [.int v5, .int v264]) (rest := []) ⟨hx, hb, hml, hown, hts⟩ (kX3_setVelocity l dC dI cI cJ cZ xa H.size u ss hR hI v5 v264) (cwV 2 hts gL_acts_X3_setVelocity rfl rfl rfl (by decide +kernel) ⟨Nat.le_of_ble_eq_true rfl, Nat.le_of_ble_eq_true rfl⟩) ⟨x_Mb, va_recv hK hP (ci := 3) (q0 := 0) rfl rfl, (fun U hU hW => ⟨rfl, by rw [hU], by rw [hU]; exact hP, va_K.moved hW.alike hK, hD.weaken (fun _ _ _ _ => trivial)⟩)⟩ rfl rfl hl.1 rfl (lv_room (Nat.le_of_ble_eq_true rfl)) dL_acts_265 ⟨Nat.zero_le _, Nat.zero_le _⟩) hS (j_fr hD hS hA) (fun r265 u H locs h265 hP1 hkk hS => ?_)
    clear hkk
    have hD : va_D A (wX cI cJ cZ xa u) := l_addr (wX_a u _) hD
    have hP : va_P (dC, dI) vwCl (wX cI cJ cZ xa u) H := hP1
    have hR := h265.1
    have g265 := h265.2
    have q265 := q_vel hJ hk (x := v5.toInt) (w := v264.toInt) ⟨by omega, by omega⟩ ⟨by omega, by omega⟩
    rw [← g265] at q265
    obtain ⟨s1, es1⟩ : ∃ z, z = (velF ss v5.toInt v264.toInt).2 := ⟨_, rfl⟩
    rw [← es1] at hR q265
    obtain ⟨hJ1, q265⟩ := q265
    refine lv_lstore (lv' := [(6, .long r265), (8, .long r253), (5, .int r33), (4, .int v29), (3, .int v16), (2, .int v5), (0, .ref ((xa 0))), (1, .int x)]) hx hb dL_acts_268 hl (by decide) rfl (fun ls hl => ?_)
    refine lv_lload hx hb dL_acts_270 (lv_at hl 1 rfl) ?_
    refine x_ldc2 hx hb hown (hts (.constantLong RL 62 (-1000000000001)) (List.mem_of_getElem? (i := 4) rfl)) dL_acts_272 (-1000000000001) (by decide) (fun v272 e272 => ?_)
    refine x_lcmp_ne (tgt := 295) hx hb dL_acts_275 dL_acts_276 (by decide) (fun c275 => ?_) (fun c275 => ?_)
    · refine lv_aload_n hx hb dL_acts_295 rfl (lv_at hl 6 rfl) ?_
      refine lv_iload_n hx hb dL_acts_296 rfl (lv_at hl 5 rfl) ?_
      refine x_iconst hx hb dL_acts_297 (0) (by decide) (fun v297 e297 => ?_)
      refine x_calllM (va_runV (As := [.int v5, .int v297]) (rest := []) ⟨hx, hb, hml, hown, hts⟩ (kX3_point l dC dI cI cJ cZ xa H.size u s1 hR hJ1.1 v5 v297) (cwV 2 hts gL_acts_X3_point rfl rfl rfl (by decide +kernel) ⟨Nat.le_of_ble_eq_true rfl, Nat.le_of_ble_eq_true rfl⟩) ⟨x_Mb, va_recv hK hP (ci := 3) (q0 := 0) rfl rfl, (fun U hU hW => ⟨rfl, by rw [hU], by rw [hU]; exact hP, va_K.moved hW.alike hK, hD.weaken (fun _ _ _ _ => trivial)⟩)⟩ rfl rfl hl.1 rfl (lv_room (Nat.le_of_ble_eq_true rfl)) dL_acts_298 ⟨Nat.zero_le _, Nat.zero_le _⟩) hS (j_fr hD hS hA) (fun r298 u H locs h298 hP1 hkk hS => ?_)
      clear hkk
      have hD : va_D A (wX cI cJ cZ xa u) := l_addr (wX_a u _) hD
      have hP : va_P (dC, dI) vwCl (wX cI cJ cZ xa u) H := hP1
      have hR := h298.1
      have g298 := h298.2
      rw [e297] at g298
      refine lv_lload hx hb dL_acts_301 (lv_at hl 1 rfl) ?_
      refine x_lcmp_ne (tgt := 345) hx hb dL_acts_303 dL_acts_304 (by decide) (fun c303 => ?_) (fun c303 => ?_)
      · exfalso; omega
      · refine lv_aload_n hx hb dL_acts_307 rfl (lv_at hl 6 rfl) ?_
        refine lv_iload_n hx hb dL_acts_308 rfl (lv_at hl 5 rfl) ?_
        refine x_iconst hx hb dL_acts_309 (1) (by decide) (fun v309 e309 => ?_)
        refine x_calllM (va_runV (As := [.int v5, .int v309]) (rest := []) ⟨hx, hb, hml, hown, hts⟩ (kX3_point l dC dI cI cJ cZ xa H.size u s1 hR hJ1.1 v5 v309) (cwV 2 hts gL_acts_X3_point rfl rfl rfl (by decide +kernel) ⟨Nat.le_of_ble_eq_true rfl, Nat.le_of_ble_eq_true rfl⟩) ⟨x_Mb, va_recv hK hP (ci := 3) (q0 := 0) rfl rfl, (fun U hU hW => ⟨rfl, by rw [hU], by rw [hU]; exact hP, va_K.moved hW.alike hK, hD.weaken (fun _ _ _ _ => trivial)⟩)⟩ rfl rfl hl.1 rfl (lv_room (Nat.le_of_ble_eq_true rfl)) dL_acts_310 ⟨Nat.zero_le _, Nat.zero_le _⟩) hS (j_fr hD hS hA) (fun r310 u H locs h310 hP1 hkk hS => ?_)
        clear hkk
        have hD : va_D A (wX cI cJ cZ xa u) := l_addr (wX_a u _) hD
        have hP : va_P (dC, dI) vwCl (wX cI cJ cZ xa u) H := hP1
        have hR := h310.1
        have g310 := h310.2
        rw [e309] at g310
        refine lv_iload hx hb dL_acts_313 (lv_at hl 3 rfl) ?_
        refine x_bipush hx hb dL_acts_315 (9) (by decide) (fun v315 e315 => ?_)
        refine x_idivT hx hb dL_acts_317 (9) (1000) (by omega) (by decide) (by decide) (by omega) (by omega) (fun v317 e317 f317 => ?_)
        refine x_i2l hx hb dL_acts_318 (fun v318 e318 => ?_)
        refine x_lcmp_ne (tgt := 345) hx hb dL_acts_319 dL_acts_320 (by decide) (fun c319 => ?_) (fun c319 => ?_)
        · exfalso; omega
        · refine lv_lload hx hb dL_acts_323 (lv_at hl 0 rfl) ?_
          refine x_ldc2 hx hb hown (hts (.constantLong RL 67 (-1000)) (List.mem_of_getElem? (i := 6) rfl)) dL_acts_325 (-1000) (by decide) (fun v325 e325 => ?_)
          refine x_lcmp_lt (tgt := 345) hx hb dL_acts_328 dL_acts_329 (by decide) (fun c328 => ?_) (fun c328 => ?_)
          · exfalso; omega
          · refine lv_lload hx hb dL_acts_332 (lv_at hl 0 rfl) ?_
            refine x_ldc2 hx hb hown (hts (.constantLong RL 69 (1000)) (List.mem_of_getElem? (i := 7) rfl)) dL_acts_334 (1000) (by decide) (fun v334 e334 => ?_)
            refine x_lcmp_gt (tgt := 345) hx hb dL_acts_337 dL_acts_338 (by decide) (fun c337 => ?_) (fun c337 => ?_)
            · exfalso; omega
            · refine x_iconst hx hb dL_acts_341 (1) (by decide) (fun v341 e341 => ?_)
              refine lv_goto (tgt := 346) hx hb dL_acts_342 (by decide) ?_
              exact x_zret hx hb hr hlocks hS (u, s1) dL_acts_346 (fun t ht => by rw [ht]; exact hP) (by omega) ⟨hR, hJ1, by omega⟩
    · refine lv_lload hx hb dL_acts_279 (lv_at hl 0 rfl) ?_
      refine lv_lload hx hb dL_acts_281 (lv_at hl 1 rfl) ?_
      refine x_lcmp_ne (tgt := 291) hx hb dL_acts_283 dL_acts_284 (by decide) (fun c283 => ?_) (fun c283 => ?_)
      · exfalso; omega
      · refine x_iconst hx hb dL_acts_287 (1) (by decide) (fun v287 e287 => ?_)
        refine lv_goto (tgt := 346) hx hb dL_acts_288 (by decide) ?_
        exact x_zret hx hb hr hlocks hS (u, s1) dL_acts_346 (fun t ht => by rw [ht]; exact hP) (by omega) ⟨hR, hJ1, by omega⟩
  · refine lv_tableIn (off := 305) (tgt := 347) hx hb dL_acts_42 (by omega) (by omega) (by rw [c42]; rfl) (by decide) ?_
    refine lv_aload_n hx hb dL_acts_347 rfl (lv_at hl 4 rfl) ?_
    refine lv_iload_n hx hb dL_acts_348 rfl (lv_at hl 3 rfl) ?_
    refine x_iconst hx hb dL_acts_349 (0) (by decide) (fun v349 e349 => ?_)
    refine x_calllM (va_runV (As := [.int v5, .int v349]) (rest := []) ⟨hx, hb, hml, hown, hts⟩ (kX3_point l dC dI cI cJ cZ xa H.size u ss hR hI v5 v349) (cwV 2 hts gL_acts_X3_point rfl rfl rfl (by decide +kernel) ⟨Nat.le_of_ble_eq_true rfl, Nat.le_of_ble_eq_true rfl⟩) ⟨x_Mb, va_recv hK hP (ci := 3) (q0 := 0) rfl rfl, (fun U hU hW => ⟨rfl, by rw [hU], by rw [hU]; exact hP, va_K.moved hW.alike hK, hD.weaken (fun _ _ _ _ => trivial)⟩)⟩ rfl rfl hl.1 rfl (lv_room (Nat.le_of_ble_eq_true rfl)) dL_acts_350 ⟨Nat.zero_le _, Nat.zero_le _⟩) hS (j_fr hD hS hA) (fun r350 u H locs h350 hP1 hkk hS => ?_)
    clear hkk
    have hD : va_D A (wX cI cJ cZ xa u) := l_addr (wX_a u _) hD
    have hP : va_P (dC, dI) vwCl (wX cI cJ cZ xa u) H := hP1
    have hR := h350.1
    have g350 := h350.2
    rw [e349] at g350
    refine lv_lstore (lv' := [(8, .long r350), (5, .int r33), (4, .int v29), (3, .int v16), (2, .int v5), (0, .ref ((xa 0))), (1, .int x)]) hx hb dL_acts_353 hl (by decide) rfl (fun ls hl => ?_)
    refine lv_aload_n hx hb dL_acts_355 rfl (lv_at hl 5 rfl) ?_
    refine lv_iload_n hx hb dL_acts_356 rfl (lv_at hl 4 rfl) ?_
    refine lv_iload_n hx hb dL_acts_357 rfl (lv_at hl 3 rfl) ?_
    refine x_bipush hx hb dL_acts_358 (100) (by decide) (fun v358 e358 => ?_)
    refine x_idivT hx hb dL_acts_360 (100) (1000000) (by omega) (by decide) (by decide) (by omega) (by omega) (fun v360 e360 f360 => ?_)
    refine x_calllM (va_runV (As := [.int v5, .int v360]) (rest := []) ⟨hx, hb, hml, hown, hts⟩ (kX3_jump l dC dI cI cJ cZ xa H.size u ss hR hI v5 v360) (cwV 2 hts gL_acts_X3_jump rfl rfl rfl (by decide +kernel) ⟨Nat.le_of_ble_eq_true rfl, Nat.le_of_ble_eq_true rfl⟩) ⟨x_Mb, va_recv hK hP (ci := 3) (q0 := 0) rfl rfl, (fun U hU hW => ⟨rfl, by rw [hU], by rw [hU]; exact hP, va_K.moved hW.alike hK, hD.weaken (fun _ _ _ _ => trivial)⟩)⟩ rfl rfl hl.1 rfl (lv_room (Nat.le_of_ble_eq_true rfl)) dL_acts_361 ⟨Nat.zero_le _, Nat.zero_le _⟩) hS (j_fr hD hS hA) (fun r361 u H locs h361 hP1 hkk hS => ?_)
    clear hkk
    have hD : va_D A (wX cI cJ cZ xa u) := l_addr (wX_a u _) hD
    have hP : va_P (dC, dI) vwCl (wX cI cJ cZ xa u) H := hP1
    have hR := h361.1
    have g361 := h361.2
    have q361 := q_jmp hJ hk (x := v5.toInt) (y := v360.toInt) ⟨by omega, by omega⟩ ⟨by omega, by omega⟩
    rw [← g361] at q361
    obtain ⟨s1, es1⟩ : ∃ z, z = (jmpF ss v5.toInt v360.toInt).2 := ⟨_, rfl⟩
    rw [← es1] at hR q361
    obtain ⟨hJ1, q361⟩ := q361
    refine lv_lstore (lv' := [(6, .long r361), (8, .long r350), (5, .int r33), (4, .int v29), (3, .int v16), (2, .int v5), (0, .ref ((xa 0))), (1, .int x)]) hx hb dL_acts_364 hl (by decide) rfl (fun ls hl => ?_)
    refine lv_lload hx hb dL_acts_366 (lv_at hl 0 rfl) ?_
    refine lv_lload hx hb dL_acts_368 (lv_at hl 1 rfl) ?_
    refine x_lcmp_ne (tgt := 402) hx hb dL_acts_370 dL_acts_371 (by decide) (fun c370 => ?_) (fun c370 => ?_)
    · exfalso; omega
    · refine lv_lload hx hb dL_acts_374 (lv_at hl 1 rfl) ?_
      refine x_ldc2 hx hb hown (hts (.constantLong RL 62 (-1000000000001)) (List.mem_of_getElem? (i := 4) rfl)) dL_acts_376 (-1000000000001) (by decide) (fun v376 e376 => ?_)
      refine x_lcmp_eq (tgt := 398) hx hb dL_acts_379 dL_acts_380 (by decide) (fun c379 => ?_) (fun c379 => ?_)
      · refine x_iconst hx hb dL_acts_398 (1) (by decide) (fun v398 e398 => ?_)
        refine lv_goto (tgt := 403) hx hb dL_acts_399 (by decide) ?_
        exact x_zret hx hb hr hlocks hS (u, s1) dL_acts_403 (fun t ht => by rw [ht]; exact hP) (by omega) ⟨hR, hJ1, by omega⟩
      · refine lv_aload_n hx hb dL_acts_383 rfl (lv_at hl 6 rfl) ?_
        refine lv_iload_n hx hb dL_acts_384 rfl (lv_at hl 5 rfl) ?_
        refine x_iconst hx hb dL_acts_385 (0) (by decide) (fun v385 e385 => ?_)
        refine x_calllM (va_runV (As := [.int v5, .int v385]) (rest := []) ⟨hx, hb, hml, hown, hts⟩ (kX3_point l dC dI cI cJ cZ xa H.size u s1 hR hJ1.1 v5 v385) (cwV 2 hts gL_acts_X3_point rfl rfl rfl (by decide +kernel) ⟨Nat.le_of_ble_eq_true rfl, Nat.le_of_ble_eq_true rfl⟩) ⟨x_Mb, va_recv hK hP (ci := 3) (q0 := 0) rfl rfl, (fun U hU hW => ⟨rfl, by rw [hU], by rw [hU]; exact hP, va_K.moved hW.alike hK, hD.weaken (fun _ _ _ _ => trivial)⟩)⟩ rfl rfl hl.1 rfl (lv_room (Nat.le_of_ble_eq_true rfl)) dL_acts_386 ⟨Nat.zero_le _, Nat.zero_le _⟩) hS (j_fr hD hS hA) (fun r386 u H locs h386 hP1 hkk hS => ?_)
        clear hkk
        have hD : va_D A (wX cI cJ cZ xa u) := l_addr (wX_a u _) hD
        have hP : va_P (dC, dI) vwCl (wX cI cJ cZ xa u) H := hP1
        have hR := h386.1
        have g386 := h386.2
        rw [e385] at g386
        refine lv_iload_n hx hb dL_acts_389 rfl (lv_at hl 4 rfl) ?_
        refine x_bipush hx hb dL_acts_390 (100) (by decide) (fun v390 e390 => ?_)
        refine x_idivT hx hb dL_acts_392 (100) (1000000) (by omega) (by decide) (by decide) (by omega) (by omega) (fun v392 e392 f392 => ?_)
        refine x_i2l hx hb dL_acts_393 (fun v393 e393 => ?_)
        refine x_lcmp_ne (tgt := 402) hx hb dL_acts_394 dL_acts_395 (by decide) (fun c394 => ?_) (fun c394 => ?_)
        · exfalso; omega
        · refine x_iconst hx hb dL_acts_398 (1) (by decide) (fun v398 e398 => ?_)
          refine lv_goto (tgt := 403) hx hb dL_acts_399 (by decide) ?_
          exact x_zret hx hb hr hlocks hS (u, s1) dL_acts_403 (fun t ht => by rw [ht]; exact hP) (by omega) ⟨hR, hJ1, by omega⟩
  · refine lv_tableIn (off := 362) (tgt := 404) hx hb dL_acts_42 (by omega) (by omega) (by rw [c42]; rfl) (by decide) ?_
    refine lv_aload_n hx hb dL_acts_404 rfl (lv_at hl 4 rfl) ?_
    refine x_iconst hx hb dL_acts_405 (0) (by decide) (fun v405 e405 => ?_)
    refine x_iconst hx hb dL_acts_406 (0) (by decide) (fun v406 e406 => ?_)
    refine x_calllM (va_runV (As := [.int v405, .int v406]) (rest := []) ⟨hx, hb, hml, hown, hts⟩ (kX3_calendar l dC dI cI cJ cZ xa H.size u ss hR hI v405 v406) (cwV 2 hts gL_acts_X3_calendar rfl rfl rfl (by decide +kernel) ⟨Nat.le_of_ble_eq_true rfl, Nat.le_of_ble_eq_true rfl⟩) ⟨x_Mb, va_recv hK hP (ci := 3) (q0 := 0) rfl rfl, (fun U hU hW => ⟨rfl, by rw [hU], by rw [hU]; exact hP, va_K.moved hW.alike hK, hD.weaken (fun _ _ _ _ => trivial)⟩)⟩ rfl rfl hl.1 rfl (lv_room (Nat.le_of_ble_eq_true rfl)) dL_acts_407 ⟨Nat.zero_le _, Nat.zero_le _⟩) hS (j_fr hD hS hA) (fun r407 u H locs h407 hP1 hkk hS => ?_)
    clear hkk
    have hD : va_D A (wX cI cJ cZ xa u) := l_addr (wX_a u _) hD
    have hP : va_P (dC, dI) vwCl (wX cI cJ cZ xa u) H := hP1
    have hR := h407.1
    have g407 := h407.2
    rw [e405, e406] at g407
    refine lv_lstore (lv' := [(10, .long r407), (5, .int r33), (4, .int v29), (3, .int v16), (2, .int v5), (0, .ref ((xa 0))), (1, .int x)]) hx hb dL_acts_410 hl (by decide) rfl (fun ls hl => ?_)
    refine lv_aload_n hx hb dL_acts_412 rfl (lv_at hl 5 rfl) ?_
    refine x_iconst hx hb dL_acts_413 (1) (by decide) (fun v413 e413 => ?_)
    refine x_calllM (va_runV (As := [.int v413]) (rest := []) ⟨hx, hb, hml, hown, hts⟩ (kX3_count l dC dI cI cJ cZ xa H.size u ss hR hI v413) (cwV 1 hts gL_acts_X3_count rfl rfl rfl (by decide +kernel) ⟨Nat.le_of_ble_eq_true rfl, Nat.le_of_ble_eq_true rfl⟩) ⟨(x_Nb rfl rfl), va_recv hK hP (ci := 3) (q0 := 0) rfl rfl, (fun U hU hW => ⟨rfl, by rw [hU], by rw [hU]; exact hP, va_K.moved hW.alike hK, hD.weaken (fun _ _ _ _ => trivial), va_Nw.warmF hW hN1, va_Nw.warmF hW hN2⟩)⟩ rfl rfl hl.1 rfl (lv_room (Nat.le_of_ble_eq_true rfl)) dL_acts_414 ⟨Nat.zero_le _, Nat.zero_le _⟩) hS (j_fr hD hS hA) (fun r414 u H locs h414 hP1 hkk hS => ?_)
    clear hkk
    have hD : va_D A (wX cI cJ cZ xa u) := l_addr (wX_a u _) hD
    have hP : va_P (dC, dI) vwCl (wX cI cJ cZ xa u) H := hP1
    have hR := h414.1
    have g414 := h414.2
    rw [e413] at g414
    unfold couF at g414
    rw [if_neg (by decide), if_pos rfl] at g414
    refine lv_lstore (lv' := [(12, .long r414), (10, .long r407), (5, .int r33), (4, .int v29), (3, .int v16), (2, .int v5), (0, .ref ((xa 0))), (1, .int x)]) hx hb dL_acts_417 hl (by decide) rfl (fun ls hl => ?_)
    refine lv_aload_n hx hb dL_acts_419 rfl (lv_at hl 6 rfl) ?_
    refine x_calllM (va_runV (As := []) (rest := []) ⟨hx, hb, hml, hown, hts⟩ (kX3_step l dC dI cI cJ cZ xa H.size u ss hR hI) (cwV 0 hts gL_acts_X3_step rfl rfl rfl (by decide +kernel) ⟨Nat.le_of_ble_eq_true rfl, Nat.le_of_ble_eq_true rfl⟩) ⟨x_Mb, va_recv hK hP (ci := 3) (q0 := 0) rfl rfl, (fun U hU hW => ⟨rfl, by rw [hU], by rw [hU]; exact hP, va_K.moved hW.alike hK, hD.weaken (fun _ _ _ _ => trivial)⟩)⟩ rfl rfl hl.1 rfl (lv_room (Nat.le_of_ble_eq_true rfl)) dL_acts_420 ⟨Nat.zero_le _, Nat.zero_le _⟩) hS (j_fr hD hS hA) (fun r420 u H locs h420 hP1 hkk hS => ?_)
    clear hkk
    have hD : va_D A (wX cI cJ cZ xa u) := l_addr (wX_a u _) hD
    have hP : va_P (dC, dI) vwCl (wX cI cJ cZ xa u) H := hP1
    have hR := h420.1
    have g420 := h420.2
    have q420 := q_step hJ hk
    rw [← g420] at q420
    obtain ⟨s1, es1⟩ : ∃ z, z = (steF ss).2 := ⟨_, rfl⟩
    rw [← es1] at hR q420
    obtain ⟨hJ1, q420⟩ := q420
    refine lv_lstore (lv' := [(14, .long r420), (12, .long r414), (10, .long r407), (5, .int r33), (4, .int v29), (3, .int v16), (2, .int v5), (0, .ref ((xa 0))), (1, .int x)]) hx hb dL_acts_423 hl (by decide) rfl (fun ls hl => ?_)
    refine lv_lload hx hb dL_acts_425 (lv_at hl 2 rfl) ?_
    refine x_lconst hx hb dL_acts_427 (0) (by decide) (fun v427 e427 => ?_)
    refine x_lcmp_lt (tgt := 441) hx hb dL_acts_428 dL_acts_429 (by decide) (fun c428 => ?_) (fun c428 => ?_)
    · refine lv_lload hx hb dL_acts_441 (lv_at hl 0 rfl) ?_
      refine x_ldc2 hx hb hown (hts (.constantLong RL 35 (-1000000000004)) (List.mem_of_getElem? (i := 5) rfl)) dL_acts_443 (-1000000000004) (by decide) (fun v443 e443 => ?_)
      refine x_lcmp_ne (tgt := 454) hx hb dL_acts_446 dL_acts_447 (by decide) (fun c446 => ?_) (fun c446 => ?_)
      · exfalso; omega
      · refine x_iconst hx hb dL_acts_450 (1) (by decide) (fun v450 e450 => ?_)
        refine lv_goto (tgt := 495) hx hb dL_acts_451 (by decide) ?_
        exact x_zret hx hb hr hlocks hS (u, s1) dL_acts_495 (fun t ht => by rw [ht]; exact hP) (by omega) ⟨hR, hJ1, by omega⟩
    · refine lv_lload hx hb dL_acts_432 (lv_at hl 2 rfl) ?_
      refine x_ldc2 hx hb hown (hts (.constantLong RL 81 (100000)) (List.mem_of_getElem? (i := 8) rfl)) dL_acts_434 (100000) (by decide) (fun v434 e434 => ?_)
      refine x_lcmp_le (tgt := 458) hx hb dL_acts_437 dL_acts_438 (by decide) (fun c437 => ?_) (fun c437 => ?_)
      · refine lv_lload hx hb dL_acts_458 (lv_at hl 0 rfl) ?_
        refine lv_lload hx hb dL_acts_460 (lv_at hl 2 rfl) ?_
        refine x_lcmp_ne (tgt := 494) hx hb dL_acts_462 dL_acts_463 (by decide) (fun c462 => ?_) (fun c462 => ?_)
        · exfalso; omega
        · refine lv_aload_n hx hb dL_acts_466 rfl (lv_at hl 7 rfl) ?_
          refine x_calliM (va_runV (As := []) (rest := []) ⟨hx, hb, hml, hown, hts⟩ (kX3_time l dC dI cI cJ cZ xa H.size u s1 hR hJ1.1) (cwV 0 hts gL_acts_X3_time rfl rfl rfl (by decide +kernel) ⟨Nat.le_of_ble_eq_true rfl, Nat.le_of_ble_eq_true rfl⟩) ⟨x_Mb, va_recv hK hP (ci := 3) (q0 := 0) rfl rfl, (fun U hU hW => ⟨rfl, by rw [hU], by rw [hU]; exact hP, va_K.moved hW.alike hK, hD.weaken (fun _ _ _ _ => trivial)⟩)⟩ rfl rfl hl.1 rfl (lv_room (Nat.le_of_ble_eq_true rfl)) dL_acts_467 ⟨Nat.zero_le _, Nat.zero_le _⟩) hS (j_fr hD hS hA) (fun r467 u H locs h467 hP1 hkk hS => ?_)
          clear hkk
          have hD : va_D A (wX cI cJ cZ xa u) := l_addr (wX_a u _) hD
          have hP : va_P (dC, dI) vwCl (wX cI cJ cZ xa u) H := hP1
          have hR := h467.1
          have g467 := h467.2
          refine x_i2l hx hb dL_acts_470 (fun v470 e470 => ?_)
          refine lv_lload hx hb dL_acts_471 (lv_at hl 2 rfl) ?_
          refine x_lcmp_ne (tgt := 494) hx hb dL_acts_473 dL_acts_474 (by decide) (fun c473 => ?_) (fun c473 => ?_)
          · exfalso; omega
          · refine lv_aload_n hx hb dL_acts_477 rfl (lv_at hl 7 rfl) ?_
            refine x_iconst hx hb dL_acts_478 (1) (by decide) (fun v478 e478 => ?_)
            refine x_calllM (va_runV (As := [.int v478]) (rest := []) ⟨hx, hb, hml, hown, hts⟩ (kX3_count l dC dI cI cJ cZ xa H.size u s1 hR hJ1.1 v478) (cwV 1 hts gL_acts_X3_count rfl rfl rfl (by decide +kernel) ⟨Nat.le_of_ble_eq_true rfl, Nat.le_of_ble_eq_true rfl⟩) ⟨(x_Nb rfl rfl), va_recv hK hP (ci := 3) (q0 := 0) rfl rfl, (fun U hU hW => ⟨rfl, by rw [hU], by rw [hU]; exact hP, va_K.moved hW.alike hK, hD.weaken (fun _ _ _ _ => trivial), va_Nw.warmF hW hN1, va_Nw.warmF hW hN2⟩)⟩ rfl rfl hl.1 rfl (lv_room (Nat.le_of_ble_eq_true rfl)) dL_acts_479 ⟨Nat.zero_le _, Nat.zero_le _⟩) hS (j_fr hD hS hA) (fun r479 u H locs h479 hP1 hkk hS => ?_)
            clear hkk
            have hD : va_D A (wX cI cJ cZ xa u) := l_addr (wX_a u _) hD
            have hP : va_P (dC, dI) vwCl (wX cI cJ cZ xa u) H := hP1
            have hR := h479.1
            have g479 := h479.2
            rw [e478] at g479
            unfold couF at g479
            rw [if_neg (by decide), if_pos rfl] at g479
            refine lv_lload hx hb dL_acts_482 (lv_at hl 1 rfl) ?_
            refine x_lconst hx hb dL_acts_484 (1) (by decide) (fun v484 e484 => ?_)
            refine x_ladd hx hb dL_acts_485 (by omega) (by omega) (fun v485 e485 => ?_)
            refine x_lcmp_ne (tgt := 494) hx hb dL_acts_486 dL_acts_487 (by decide) (fun c486 => ?_) (fun c486 => ?_)
            · exfalso; omega
            · refine x_iconst hx hb dL_acts_490 (1) (by decide) (fun v490 e490 => ?_)
              refine lv_goto (tgt := 495) hx hb dL_acts_491 (by decide) ?_
              exact x_zret hx hb hr hlocks hS (u, s1) dL_acts_495 (fun t ht => by rw [ht]; exact hP) (by omega) ⟨hR, hJ1, by omega⟩
      · refine lv_lload hx hb dL_acts_441 (lv_at hl 0 rfl) ?_
        refine x_ldc2 hx hb hown (hts (.constantLong RL 35 (-1000000000004)) (List.mem_of_getElem? (i := 5) rfl)) dL_acts_443 (-1000000000004) (by decide) (fun v443 e443 => ?_)
        refine x_lcmp_ne (tgt := 454) hx hb dL_acts_446 dL_acts_447 (by decide) (fun c446 => ?_) (fun c446 => ?_)
        · exfalso; omega
        · refine x_iconst hx hb dL_acts_450 (1) (by decide) (fun v450 e450 => ?_)
          refine lv_goto (tgt := 495) hx hb dL_acts_451 (by decide) ?_
          exact x_zret hx hb hr hlocks hS (u, s1) dL_acts_495 (fun t ht => by rw [ht]; exact hP) (by omega) ⟨hR, hJ1, by omega⟩
--== L_acts
