/-! CONTRACTS of the reference (X4): leaves, settling -/
set_option maxHeartbeats 4000000 in
set_option maxRecDepth 100000 in
theorem c_X4_in (l : Launch) (dC : Nat → ClassId) (dI : Nat → Nat → Nat) (cI cJ cZ : ClassId) (sz : Nat) (x y z : Int64) : Met l yX4_in wsX4_in ({ frames := 0, cells := 0, slots := 0, locals := 0 }) (va_Pc [.long x, .long y, .long z] (x_B (dC, dI) vwCl (tysN cI cJ cZ) [] sz)) (va_Qi (fun (r : Int32) (_ : Unit) => (r.toInt = 1 ∧ y.toInt ≤ x.toInt ∧ x.toInt ≤ z.toInt) ∨ (r.toInt = 0 ∧ (x.toInt < y.toInt ∨ z.toInt < x.toInt))) (fun _ _ => True) (va_A [] sz)) 0 0 (va_A [] sz) := by
  refine x_ofR (cc := cX4_in) (maxL := 6) (ret := (some .boolean)) (own := RX4) (by decide) rfl rfl (Nat.le_of_ble_eq_true rfl) (lvs := [(0, .long x), (2, .long y), (4, .long z)]) rfl ?_
  intro pg e s mi args below meth co hx hb hr hml hown hts hlocks hsz hP hK ls hl
  subst hsz
  generalize hAe : (va_A [] s.heap.size) = A
  have hA : ∀ q : Nat, s.heap.size ≤ q → A q := fun q h => by rw [← hAe]; exact Or.inr h
  have hS : va_S A s.heap s.heap [] := va_S.rf
  refine lv_lload_n hx hb dX4_in_0 rfl (lv_at hl 0 rfl) ?_
  refine lv_lload_n hx hb dX4_in_1 rfl (lv_at hl 1 rfl) ?_
  refine x_lcmp_lt (tgt := 17) hx hb dX4_in_2 dX4_in_3 (by decide) (fun c2 => ?_) (fun c2 => ?_)
  · refine x_iconst hx hb dX4_in_17 (0) (by decide) (fun v17 e17 => ?_)
    exact x_zret hx hb hr hlocks hS () dX4_in_18 (fun t ht => trivial) (by omega) (by omega)
  · refine lv_lload_n hx hb dX4_in_6 rfl (lv_at hl 0 rfl) ?_
    refine lv_lload hx hb dX4_in_7 (lv_at hl 2 rfl) ?_
    refine x_lcmp_gt (tgt := 17) hx hb dX4_in_9 dX4_in_10 (by decide) (fun c9 => ?_) (fun c9 => ?_)
    · refine x_iconst hx hb dX4_in_17 (0) (by decide) (fun v17 e17 => ?_)
      exact x_zret hx hb hr hlocks hS () dX4_in_18 (fun t ht => trivial) (by omega) (by omega)
    · refine x_iconst hx hb dX4_in_13 (1) (by decide) (fun v13 e13 => ?_)
      refine lv_goto (tgt := 18) hx hb dX4_in_14 (by decide) ?_
      exact x_zret hx hb hr hlocks hS () dX4_in_18 (fun t ht => trivial) (by omega) (by omega)
--== X4_in
set_option maxHeartbeats 4000000 in
set_option maxRecDepth 100000 in
theorem c_X4_isPoint (l : Launch) (dC : Nat → ClassId) (dI : Nat → Nat → Nat) (cI cJ cZ : ClassId) (y0 y1 y2 y3 y4 y5 y6 y7 y8 y9 y10 y11 y12 y13 y14 : Nat) (sz : Nat) (hp tr : Nat → Int32) (va : Nat → Int64) (sn ve bi : Nat → Int32) (Nw Sz : Int32) (Ex St Tx : Int64) (Cn : Int32) (rt rq rh : Nat → Int32) (rv : Nat → Int64) (rw_ : Nat → Int32) (Dd Kn : Int32) (tn : Nat → Int32) (tv : Nat → Int64) (My : Int32) (od : Nat → Int32) (th : Nat → Bool) (h v : Nat → Int) (t : Int) (hM : MOK tr va sn ve th h v t) (x : Int32) : Met l yX4_isPoint wsX4_isPoint ({ frames := 1, cells := 0, slots := 0, locals := 25 }) (va_Pc [.ref y0, .int x] (x_B (dC, dI) vwCl (tysN cI cJ cZ) [(y0, .inr (4, [.int Nw, .int Sz, .ref y1, .ref y2, .ref y3, .ref y4, .ref y5, .ref y6, .long Ex, .long St, .long Tx, .int Cn, .ref y7, .ref y8, .ref y9, .ref y10, .ref y11, .int Dd, .int Kn, .ref y12, .ref y13, .int My, .ref y14])), (y1, .inl (cI, 24, .inl hp)), (y2, .inl (cZ, 24, .inl tr)), (y3, .inl (cJ, 24, .inr (.inl va))), (y4, .inl (cI, 24, .inl sn)), (y5, .inl (cI, 24, .inl ve)), (y6, .inl (cI, 24, .inl bi)), (y7, .inl (cI, 224, .inl rt)), (y8, .inl (cI, 224, .inl rq)), (y9, .inl (cZ, 224, .inl rh)), (y10, .inl (cJ, 224, .inr (.inl rv))), (y11, .inl (cI, 224, .inl rw_)), (y12, .inl (cI, 24, .inl tn)), (y13, .inl (cJ, 24, .inr (.inl tv))), (y14, .inl (cI, 24, .inl od))] sz)) (va_Qi (fun (r : Int32) (_ : Unit) => (r.toInt = 1 ∧ 0 ≤ x.toInt ∧ x.toInt < 24 ∧ th x.toInt.toNat = true) ∨ (r.toInt = 0 ∧ ¬ (0 ≤ x.toInt ∧ x.toInt < 24 ∧ th x.toInt.toNat = true))) (fun _ _ => True) (va_A [] sz)) 0 0 (va_A [] sz) := by
  refine x_ofR (cc := cX4_isPoint) (maxL := 2) (ret := (some .boolean)) (own := RX4) (by decide) rfl rfl (Nat.le_of_ble_eq_true rfl) (lvs := [(0, .ref y0), (1, .int x)]) rfl ?_
  intro pg e s mi args below meth co hx hb hr hml hown hts hlocks hsz hP hK ls hl
  subst hsz
  generalize hAe : (va_A [] s.heap.size) = A
  have hA : ∀ q : Nat, s.heap.size ≤ q → A q := fun q h => by rw [← hAe]; exact Or.inr h
  have hS : va_S A s.heap s.heap [] := va_S.rf
  refine lv_iload_n hx hb dX4_isPoint_0 rfl (lv_at hl 1 rfl) ?_
  refine x_i2l hx hb dX4_isPoint_1 (fun v1 e1 => ?_)
  refine x_lconst hx hb dX4_isPoint_2 (0) (by decide) (fun v2 e2 => ?_)
  refine x_ldc2 hx hb hown (hts (.constantLong RX4 54 (23)) (List.mem_of_getElem? (i := 1) rfl)) dX4_isPoint_3 (23) (by decide) (fun v3 e3 => ?_)
  have hPc := hP.sub (ws' := []) [] rfl
  refine x_calli (va_runS (As := [.long v1, .long v2, .long v3]) (rest := []) ⟨hx, hb, hml, hown, hts⟩ (c_X4_in l dC dI cI cJ cZ s.heap.size v1 v2 v3) (va_cwS 3 hts gX4_isPoint_X4_in rfl rfl rfl (by decide +kernel) ⟨Nat.le_of_ble_eq_true rfl, Nat.le_of_ble_eq_true rfl⟩) ⟨x_Bb, (fun U hU hW => ⟨rfl, by rw [hU], by rw [hU]; exact hPc, va_K.moved hW.alike hK⟩)⟩ rfl rfl hl.1 rfl (lv_room (Nat.le_of_ble_eq_true rfl)) dX4_isPoint_6 ⟨Nat.zero_le _, Nat.zero_le _⟩) hS hA hP (fun v6 _ H locs h6 hP hS => ?_)
  refine x_if_eq (tgt := 25) hx hb dX4_isPoint_9 (by decide) (fun c9 => ?_) (fun c9 => ?_)
  · have hno : ¬ (0 ≤ x.toInt ∧ x.toInt < 24 ∧ th x.toInt.toNat = true) := fun q => by omega
    refine x_iconst hx hb dX4_isPoint_25 (0) (by decide) (fun v25 e25 => ?_)
    exact x_zret hx hb hr hlocks hS () dX4_isPoint_26 (fun t ht => trivial) (by omega) (by first | exact Or.inr ⟨by omega, hno⟩ | exact Or.inl ⟨by omega, by omega, by omega, hth⟩)
  · obtain ⟨p, hp2⟩ : ∃ p : Nat, p = x.toInt.toNat := ⟨_, rfl⟩
    rw [← hp2]
    have hMp := hM p (by omega)
    refine lv_aload_n hx hb dX4_isPoint_12 rfl (lv_at hl 0 rfl) ?_
    refine va_get (D := (dC, dI)) (ci := 4) (v := .ref y2) (C := RX4) (T := TX4) (N := 23) hx hb hts (fun _ h => List.mem_cons_of_mem _ (List.mem_append_right _ h)) hown hK hP 0 rfl rfl 3 (by decide) (hts (.fieldLink RX4 13 "MovingHeapModel" "there" "[Z") (List.mem_of_getElem? (i := 2) rfl)) (fun _ h9 => h9) rfl dX4_isPoint_13 ?_
    refine lv_iload_n hx hb dX4_isPoint_16 rfl (lv_at hl 1 rfl) ?_
    refine x_zald hx hb hK hP 2 2 rfl rfl (p) (by omega) (by omega) dX4_isPoint_17 ?_
    refine x_if_eq (tgt := 25) hx hb dX4_isPoint_18 (by decide) (fun c18 => ?_) (fun c18 => ?_)
    · have hth : th p = false := by cases ht : th p with | false => rfl | true => have := (hMp.1 ht).1; omega
      have hno : ¬ (0 ≤ x.toInt ∧ x.toInt < 24 ∧ th p = true) := fun q => by rw [hth] at q; exact absurd q.2.2 (by decide)
      refine x_iconst hx hb dX4_isPoint_25 (0) (by decide) (fun v25 e25 => ?_)
      exact x_zret hx hb hr hlocks hS () dX4_isPoint_26 (fun t ht => trivial) (by omega) (by first | exact Or.inr ⟨by omega, hno⟩ | exact Or.inl ⟨by omega, by omega, by omega, hth⟩)
    · have hth : th p = true := by cases ht : th p with | true => rfl | false => have := hMp.2 ht; omega
      refine x_iconst hx hb dX4_isPoint_21 (1) (by decide) (fun v21 e21 => ?_)
      refine lv_goto (tgt := 26) hx hb dX4_isPoint_22 (by decide) ?_
      exact x_zret hx hb hr hlocks hS () dX4_isPoint_26 (fun t ht => trivial) (by omega) (by first | exact Or.inr ⟨by omega, hno⟩ | exact Or.inl ⟨by omega, by omega, by omega, hth⟩)
--== X4_isPoint
set_option maxHeartbeats 4000000 in
set_option maxRecDepth 100000 in
theorem c_X4_valueOf (l : Launch) (dC : Nat → ClassId) (dI : Nat → Nat → Nat) (cI cJ cZ : ClassId) (y0 y1 y2 y3 y4 y5 y6 y7 y8 y9 y10 y11 y12 y13 y14 : Nat) (sz : Nat) (hp tr : Nat → Int32) (va : Nat → Int64) (sn ve bi : Nat → Int32) (Nw Sz : Int32) (Ex St Tx : Int64) (Cn : Int32) (rt rq rh : Nat → Int32) (rv : Nat → Int64) (rw_ : Nat → Int32) (Dd Kn : Int32) (tn : Nat → Int32) (tv : Nat → Int64) (My : Int32) (od : Nat → Int32) (th : Nat → Bool) (h v : Nat → Int) (hM : MOK tr va sn ve th h v Nw.toInt) (hn0 : 0 ≤ Nw.toInt) (hn1 : Nw.toInt ≤ 100000) (x : Int32) (p : Nat) (hxp : x.toInt = (p : Int)) (hp4 : p < 24) (hth : th p = true) (tt : Int32) (htt : tt.toInt = Nw.toInt) : Met l yX4_valueOf wsX4_valueOf ({ frames := 0, cells := 0, slots := 0, locals := 0 }) (va_Pc [.ref y0, .int x, .int tt] (x_B (dC, dI) vwCl (tysN cI cJ cZ) [(y0, .inr (4, [.int Nw, .int Sz, .ref y1, .ref y2, .ref y3, .ref y4, .ref y5, .ref y6, .long Ex, .long St, .long Tx, .int Cn, .ref y7, .ref y8, .ref y9, .ref y10, .ref y11, .int Dd, .int Kn, .ref y12, .ref y13, .int My, .ref y14])), (y1, .inl (cI, 24, .inl hp)), (y2, .inl (cZ, 24, .inl tr)), (y3, .inl (cJ, 24, .inr (.inl va))), (y4, .inl (cI, 24, .inl sn)), (y5, .inl (cI, 24, .inl ve)), (y6, .inl (cI, 24, .inl bi)), (y7, .inl (cI, 224, .inl rt)), (y8, .inl (cI, 224, .inl rq)), (y9, .inl (cZ, 224, .inl rh)), (y10, .inl (cJ, 224, .inr (.inl rv))), (y11, .inl (cI, 224, .inl rw_)), (y12, .inl (cI, 24, .inl tn)), (y13, .inl (cJ, 24, .inr (.inl tv))), (y14, .inl (cI, 24, .inl od))] sz)) (va_Ql (fun (r : Int64) (_ : Unit) => r.toInt = h p + v p * Nw.toInt) (fun _ _ => True) (va_A [] sz)) 0 0 (va_A [] sz) := by
  refine x_ofR (cc := cX4_valueOf) (maxL := 3) (ret := (some .long)) (own := RX4) (by decide) rfl rfl (Nat.le_of_ble_eq_true rfl) (lvs := [(0, .ref y0), (1, .int x), (2, .int tt)]) rfl ?_
  intro pg e s mi args below meth co hx hb hr hml hown hts hlocks hsz hP hK ls hl
  subst hsz
  generalize hAe : (va_A [] s.heap.size) = A
  have hA : ∀ q : Nat, s.heap.size ≤ q → A q := fun q h => by rw [← hAe]; exact Or.inr h
  have hS : va_S A s.heap s.heap [] := va_S.rf
  obtain ⟨m1, m2, m3, m4, m5, m6, m7, m8, m9⟩ := (hM p hp4).1 hth
  have hm := m_bd m6 m7 (show 0 ≤ Nw.toInt - (sn p).toInt by omega)
  have hms : v p * (Nw.toInt - (sn p).toInt) = v p * Nw.toInt - v p * (sn p).toInt := Int.mul_sub _ _ _
  refine lv_aload_n hx hb dX4_valueOf_0 rfl (lv_at hl 0 rfl) ?_
  refine va_get (D := (dC, dI)) (ci := 4) (v := .ref y3) (C := RX4) (T := TX4) (N := 23) hx hb hts (fun _ h => List.mem_cons_of_mem _ (List.mem_append_right _ h)) hown hK hP 0 rfl rfl 4 (by decide) (hts (.fieldLink RX4 17 "MovingHeapModel" "value" "[J") (List.mem_of_getElem? (i := 1) rfl)) (fun _ h9 => h9) rfl dX4_valueOf_1 ?_
  refine lv_iload_n hx hb dX4_valueOf_4 rfl (lv_at hl 1 rfl) ?_
  refine x_lald hx hb hK hP 3 1 rfl rfl (p) hxp hp4 dX4_valueOf_5 ?_
  refine lv_aload_n hx hb dX4_valueOf_6 rfl (lv_at hl 0 rfl) ?_
  refine va_get (D := (dC, dI)) (ci := 4) (v := .ref y5) (C := RX4) (T := TX4) (N := 23) hx hb hts (fun _ h => List.mem_cons_of_mem _ (List.mem_append_right _ h)) hown hK hP 0 rfl rfl 6 (by decide) (hts (.fieldLink RX4 24 "MovingHeapModel" "velocity" "[I") (List.mem_of_getElem? (i := 2) rfl)) (fun _ h9 => h9) rfl dX4_valueOf_7 ?_
  refine lv_iload_n hx hb dX4_valueOf_10 rfl (lv_at hl 1 rfl) ?_
  refine x_iald hx hb hK hP 5 0 rfl rfl (p) hxp hp4 dX4_valueOf_11 ?_
  refine x_i2l hx hb dX4_valueOf_12 (fun v12 e12 => ?_)
  refine lv_iload_n hx hb dX4_valueOf_13 rfl (lv_at hl 2 rfl) ?_
  refine lv_aload_n hx hb dX4_valueOf_14 rfl (lv_at hl 0 rfl) ?_
  refine va_get (D := (dC, dI)) (ci := 4) (v := .ref y4) (C := RX4) (T := TX4) (N := 23) hx hb hts (fun _ h => List.mem_cons_of_mem _ (List.mem_append_right _ h)) hown hK hP 0 rfl rfl 5 (by decide) (hts (.fieldLink RX4 21 "MovingHeapModel" "since" "[I") (List.mem_of_getElem? (i := 3) rfl)) (fun _ h9 => h9) rfl dX4_valueOf_15 ?_
  refine lv_iload_n hx hb dX4_valueOf_18 rfl (lv_at hl 1 rfl) ?_
  refine x_iald hx hb hK hP 4 0 rfl rfl (p) hxp hp4 dX4_valueOf_19 ?_
  refine x_isub hx hb dX4_valueOf_20 (by omega) (by omega) (fun v20 e20 => ?_)
  refine x_i2l hx hb dX4_valueOf_21 (fun v21 e21 => ?_)
  have em : v12.toInt * v21.toInt = v p * (Nw.toInt - (sn p).toInt) := by rw [e12, m4, e21, e20, htt]
  refine x_lmul hx hb dX4_valueOf_22 (by rw [em]; omega) (by rw [em]; omega) (fun v22 e22 => ?_)
  refine x_ladd hx hb dX4_valueOf_23 (by omega) (by omega) (fun v23 e23 => ?_)
  exact x_lret hx hb hr hlocks hS () dX4_valueOf_24 (fun t ht => trivial) (by rw [e23, e22, em, m5]; omega)
--== X4_valueOf
set_option maxHeartbeats 4000000 in
set_option maxRecDepth 100000 in
theorem c_X4_isBefore (l : Launch) (dC : Nat → ClassId) (dI : Nat → Nat → Nat) (cI cJ cZ : ClassId) (y0 y1 y2 y3 y4 y5 y6 y7 y8 y9 y10 y11 y12 y13 y14 : Nat) (sz : Nat) (hp tr : Nat → Int32) (va : Nat → Int64) (sn ve bi : Nat → Int32) (Nw Sz : Int32) (Ex St Tx : Int64) (Cn : Int32) (rt rq rh : Nat → Int32) (rv : Nat → Int64) (rw_ : Nat → Int32) (Dd Kn : Int32) (tn : Nat → Int32) (tv : Nat → Int64) (My : Int32) (od : Nat → Int32) (th : Nat → Bool) (h v : Nat → Int) (hM : MOK tr va sn ve th h v Nw.toInt) (hn0 : 0 ≤ Nw.toInt) (hn1 : Nw.toInt ≤ 100000) (x y : Int32) (a b : Nat) (hxa : x.toInt = (a : Int)) (hyb : y.toInt = (b : Int)) (ha : a < 24) (hb4 : b < 24) (hta : th a = true) (htb : th b = true) : Met l yX4_isBefore wsX4_isBefore ({ frames := 1, cells := 0, slots := 0, locals := 22 }) (va_Pc [.ref y0, .int x, .int y] (x_B (dC, dI) vwCl (tysN cI cJ cZ) [(y0, .inr (4, [.int Nw, .int Sz, .ref y1, .ref y2, .ref y3, .ref y4, .ref y5, .ref y6, .long Ex, .long St, .long Tx, .int Cn, .ref y7, .ref y8, .ref y9, .ref y10, .ref y11, .int Dd, .int Kn, .ref y12, .ref y13, .int My, .ref y14])), (y1, .inl (cI, 24, .inl hp)), (y2, .inl (cZ, 24, .inl tr)), (y3, .inl (cJ, 24, .inr (.inl va))), (y4, .inl (cI, 24, .inl sn)), (y5, .inl (cI, 24, .inl ve)), (y6, .inl (cI, 24, .inl bi)), (y7, .inl (cI, 224, .inl rt)), (y8, .inl (cI, 224, .inl rq)), (y9, .inl (cZ, 224, .inl rh)), (y10, .inl (cJ, 224, .inr (.inl rv))), (y11, .inl (cI, 224, .inl rw_)), (y12, .inl (cI, 24, .inl tn)), (y13, .inl (cJ, 24, .inr (.inl tv))), (y14, .inl (cI, 24, .inl od))] sz)) (va_Qi (fun (r : Int32) (_ : Unit) => (r.toInt = 1 ∧ bef h v Nw.toInt a b) ∨ (r.toInt = 0 ∧ ¬ bef h v Nw.toInt a b)) (fun _ _ => True) (va_A [] sz)) 0 0 (va_A [] sz) := by
  refine x_ofR (cc := cX4_isBefore) (maxL := 5) (ret := (some .boolean)) (own := RX4) (by decide) rfl rfl (Nat.le_of_ble_eq_true rfl) (lvs := [(0, .ref y0), (1, .int x), (2, .int y)]) rfl ?_
  intro pg e s mi args below meth co hx hb hr hml hown hts hlocks hsz hP hK ls hl
  subst hsz
  generalize hAe : (va_A [] s.heap.size) = A
  have hA : ∀ q : Nat, s.heap.size ≤ q → A q := fun q h => by rw [← hAe]; exact Or.inr h
  have hS : va_S A s.heap s.heap [] := va_S.rf
  obtain ⟨ma1, ma2, ma3, ma4, ma5, ma6, ma7, ma8, ma9⟩ := (hM a ha).1 hta
  obtain ⟨mb1, mb2, mb3, mb4, mb5, mb6, mb7, mb8, mb9⟩ := (hM b hb4).1 htb
  have bma := m_bd ma6 ma7 hn0
  have bmb := m_bd mb6 mb7 hn0
  have bsa := m_bd ma6 ma7 ma2
  have bsb := m_bd mb6 mb7 mb2
  refine lv_aload_n hx hb dX4_isBefore_0 rfl (lv_at hl 0 rfl) ?_
  refine lv_iload_n hx hb dX4_isBefore_1 rfl (lv_at hl 1 rfl) ?_
  refine lv_aload_n hx hb dX4_isBefore_2 rfl (lv_at hl 0 rfl) ?_
  refine va_get (D := (dC, dI)) (ci := 4) (v := .int Nw) (C := RX4) (T := TX4) (N := 23) hx hb hts (fun _ h => List.mem_cons_of_mem _ (List.mem_append_right _ h)) hown hK hP 0 rfl rfl 0 (by decide) (hts (.fieldLink RX4 60 "MovingHeapModel" "now" "I") (List.mem_of_getElem? (i := 1) rfl)) (fun _ h9 => h9) rfl dX4_isBefore_3 ?_
  have hPc := hP.sub (ws' := [(y0, .inr (4, [.int Nw, .int Sz, .ref y1, .ref y2, .ref y3, .ref y4, .ref y5, .ref y6, .long Ex, .long St, .long Tx, .int Cn, .ref y7, .ref y8, .ref y9, .ref y10, .ref y11, .int Dd, .int Kn, .ref y12, .ref y13, .int My, .ref y14])), (y1, .inl (cI, 24, .inl hp)), (y2, .inl (cZ, 24, .inl tr)), (y3, .inl (cJ, 24, .inr (.inl va))), (y4, .inl (cI, 24, .inl sn)), (y5, .inl (cI, 24, .inl ve)), (y6, .inl (cI, 24, .inl bi)), (y7, .inl (cI, 224, .inl rt)), (y8, .inl (cI, 224, .inl rq)), (y9, .inl (cZ, 224, .inl rh)), (y10, .inl (cJ, 224, .inr (.inl rv))), (y11, .inl (cI, 224, .inl rw_)), (y12, .inl (cI, 24, .inl tn)), (y13, .inl (cJ, 24, .inr (.inl tv))), (y14, .inl (cI, 24, .inl od))]) [0, 1, 2, 3, 4, 5, 6, 7, 8, 9, 10, 11, 12, 13, 14] rfl
  refine x_calll (va_runV (As := [.int x, .int Nw]) (rest := []) ⟨hx, hb, hml, hown, hts⟩ (c_X4_valueOf l dC dI cI cJ cZ y0 y1 y2 y3 y4 y5 y6 y7 y8 y9 y10 y11 y12 y13 y14 s.heap.size hp tr va sn ve bi Nw Sz Ex St Tx Cn rt rq rh rv rw_ Dd Kn tn tv My od th h v hM hn0 hn1 x a hxa ha hta Nw rfl) (cwV 2 hts gX4_isBefore_X4_valueOf rfl rfl rfl (by decide +kernel) ⟨Nat.le_of_ble_eq_true rfl, Nat.le_of_ble_eq_true rfl⟩) ⟨x_Bb, va_recv hK hP (ci := 4) (q0 := 0) rfl rfl, (fun U hU hW => ⟨rfl, by rw [hU], by rw [hU]; exact hPc, va_K.moved hW.alike hK⟩)⟩ rfl rfl hl.1 rfl (lv_room (Nat.le_of_ble_eq_true rfl)) dX4_isBefore_6 ⟨Nat.zero_le _, Nat.zero_le _⟩) hS hA hP (fun v6 _ H locs h6 hP hS => ?_)
  refine lv_aload_n hx hb dX4_isBefore_9 rfl (lv_at hl 0 rfl) ?_
  refine lv_iload_n hx hb dX4_isBefore_10 rfl (lv_at hl 2 rfl) ?_
  refine lv_aload_n hx hb dX4_isBefore_11 rfl (lv_at hl 0 rfl) ?_
  refine va_get (D := (dC, dI)) (ci := 4) (v := .int Nw) (C := RX4) (T := TX4) (N := 23) hx hb hts (fun _ h => List.mem_cons_of_mem _ (List.mem_append_right _ h)) hown hK hP 0 rfl rfl 0 (by decide) (hts (.fieldLink RX4 60 "MovingHeapModel" "now" "I") (List.mem_of_getElem? (i := 1) rfl)) (fun _ h9 => h9) rfl dX4_isBefore_12 ?_
  have hPc := hP.sub (ws' := [(y0, .inr (4, [.int Nw, .int Sz, .ref y1, .ref y2, .ref y3, .ref y4, .ref y5, .ref y6, .long Ex, .long St, .long Tx, .int Cn, .ref y7, .ref y8, .ref y9, .ref y10, .ref y11, .int Dd, .int Kn, .ref y12, .ref y13, .int My, .ref y14])), (y1, .inl (cI, 24, .inl hp)), (y2, .inl (cZ, 24, .inl tr)), (y3, .inl (cJ, 24, .inr (.inl va))), (y4, .inl (cI, 24, .inl sn)), (y5, .inl (cI, 24, .inl ve)), (y6, .inl (cI, 24, .inl bi)), (y7, .inl (cI, 224, .inl rt)), (y8, .inl (cI, 224, .inl rq)), (y9, .inl (cZ, 224, .inl rh)), (y10, .inl (cJ, 224, .inr (.inl rv))), (y11, .inl (cI, 224, .inl rw_)), (y12, .inl (cI, 24, .inl tn)), (y13, .inl (cJ, 24, .inr (.inl tv))), (y14, .inl (cI, 24, .inl od))]) [0, 1, 2, 3, 4, 5, 6, 7, 8, 9, 10, 11, 12, 13, 14] rfl
  refine x_calll (va_runV (As := [.int y, .int Nw]) (rest := [.long v6]) ⟨hx, hb, hml, hown, hts⟩ (c_X4_valueOf l dC dI cI cJ cZ y0 y1 y2 y3 y4 y5 y6 y7 y8 y9 y10 y11 y12 y13 y14 H.size hp tr va sn ve bi Nw Sz Ex St Tx Cn rt rq rh rv rw_ Dd Kn tn tv My od th h v hM hn0 hn1 y b hyb hb4 htb Nw rfl) (cwV 2 hts gX4_isBefore_X4_valueOf rfl rfl rfl (by decide +kernel) ⟨Nat.le_of_ble_eq_true rfl, Nat.le_of_ble_eq_true rfl⟩) ⟨x_Bb, va_recv hK hP (ci := 4) (q0 := 0) rfl rfl, (fun U hU hW => ⟨rfl, by rw [hU], by rw [hU]; exact hPc, va_K.moved hW.alike hK⟩)⟩ rfl rfl hl.1 rfl (lv_room (Nat.le_of_ble_eq_true rfl)) dX4_isBefore_15 ⟨Nat.zero_le _, Nat.zero_le _⟩) hS hA hP (fun v15 _ H locs h15 hP hS => ?_)
  refine x_lsub hx hb dX4_isBefore_18 (by omega) (by omega) (fun v18 e18 => ?_)
  refine lv_lstore_n (lv' := [(3, .long v18), (0, .ref y0), (1, .int x), (2, .int y)]) hx hb dX4_isBefore_19 rfl hl (by decide) rfl (fun ls hl => ?_)
  refine lv_lload_n hx hb dX4_isBefore_20 rfl (lv_at hl 0 rfl) ?_
  refine x_lconst hx hb dX4_isBefore_21 (0) (by decide) (fun v21 e21 => ?_)
  refine x_lcmp_lt (tgt := 37) hx hb dX4_isBefore_22 dX4_isBefore_23 (by decide) (fun c22 => ?_) (fun c22 => ?_)
  · refine x_iconst hx hb dX4_isBefore_37 (1) (by decide) (fun v37 e37 => ?_)
    refine lv_goto (tgt := 42) hx hb dX4_isBefore_38 (by decide) ?_
    exact x_zret hx hb hr hlocks hS () dX4_isBefore_42 (fun t ht => trivial) (by omega) (by first | exact Or.inl ⟨by omega, by omega⟩ | exact Or.inr ⟨by omega, by omega⟩)
  · refine lv_lload_n hx hb dX4_isBefore_26 rfl (lv_at hl 0 rfl) ?_
    refine x_lconst hx hb dX4_isBefore_27 (0) (by decide) (fun v27 e27 => ?_)
    refine x_lcmp_ne (tgt := 41) hx hb dX4_isBefore_28 dX4_isBefore_29 (by decide) (fun c28 => ?_) (fun c28 => ?_)
    · refine x_iconst hx hb dX4_isBefore_41 (0) (by decide) (fun v41 e41 => ?_)
      exact x_zret hx hb hr hlocks hS () dX4_isBefore_42 (fun t ht => trivial) (by omega) (by first | exact Or.inl ⟨by omega, by omega⟩ | exact Or.inr ⟨by omega, by omega⟩)
    · refine lv_iload_n hx hb dX4_isBefore_32 rfl (lv_at hl 2 rfl) ?_
      refine lv_iload_n hx hb dX4_isBefore_33 rfl (lv_at hl 3 rfl) ?_
      refine x_icmp_ge (tgt := 41) hx hb dX4_isBefore_34 (by decide) (fun c34 => ?_) (fun c34 => ?_)
      · refine x_iconst hx hb dX4_isBefore_41 (0) (by decide) (fun v41 e41 => ?_)
        exact x_zret hx hb hr hlocks hS () dX4_isBefore_42 (fun t ht => trivial) (by omega) (by first | exact Or.inl ⟨by omega, by omega⟩ | exact Or.inr ⟨by omega, by omega⟩)
      · refine x_iconst hx hb dX4_isBefore_37 (1) (by decide) (fun v37 e37 => ?_)
        refine lv_goto (tgt := 42) hx hb dX4_isBefore_38 (by decide) ?_
        exact x_zret hx hb hr hlocks hS () dX4_isBefore_42 (fun t ht => trivial) (by omega) (by first | exact Or.inl ⟨by omega, by omega⟩ | exact Or.inr ⟨by omega, by omega⟩)
--== X4_isBefore
set_option maxHeartbeats 4000000 in
set_option maxRecDepth 100000 in
theorem c_X4_crossing (l : Launch) (dC : Nat → ClassId) (dI : Nat → Nat → Nat) (cI cJ cZ : ClassId) (y0 y1 y2 y3 y4 y5 y6 y7 y8 y9 y10 y11 y12 y13 y14 : Nat) (sz : Nat) (hp tr : Nat → Int32) (va : Nat → Int64) (sn ve bi : Nat → Int32) (Nw Sz : Int32) (Ex St Tx : Int64) (Cn : Int32) (rt rq rh : Nat → Int32) (rv : Nat → Int64) (rw_ : Nat → Int32) (Dd Kn : Int32) (tn : Nat → Int32) (tv : Nat → Int64) (My : Int32) (od : Nat → Int32) (th : Nat → Bool) (h v : Nat → Int) (hM : MOK tr va sn ve th h v Nw.toInt) (hn0 : 0 ≤ Nw.toInt) (hn1 : Nw.toInt ≤ 100000) (x y : Int32) (a b : Nat) (hxa : x.toInt = (a : Int)) (hyb : y.toInt = (b : Int)) (ha : a < 24) (hb4 : b < 24) (hta : th a = true) (htb : th b = true) (hbf : bef h v Nw.toInt a b) : Met l yX4_crossing wsX4_crossing ({ frames := 1, cells := 0, slots := 0, locals := 22 }) (va_Pc [.ref y0, .int x, .int y] (x_B (dC, dI) vwCl (tysN cI cJ cZ) [(y0, .inr (4, [.int Nw, .int Sz, .ref y1, .ref y2, .ref y3, .ref y4, .ref y5, .ref y6, .long Ex, .long St, .long Tx, .int Cn, .ref y7, .ref y8, .ref y9, .ref y10, .ref y11, .int Dd, .int Kn, .ref y12, .ref y13, .int My, .ref y14])), (y1, .inl (cI, 24, .inl hp)), (y2, .inl (cZ, 24, .inl tr)), (y3, .inl (cJ, 24, .inr (.inl va))), (y4, .inl (cI, 24, .inl sn)), (y5, .inl (cI, 24, .inl ve)), (y6, .inl (cI, 24, .inl bi)), (y7, .inl (cI, 224, .inl rt)), (y8, .inl (cI, 224, .inl rq)), (y9, .inl (cZ, 224, .inl rh)), (y10, .inl (cJ, 224, .inr (.inl rv))), (y11, .inl (cI, 224, .inl rw_)), (y12, .inl (cI, 24, .inl tn)), (y13, .inl (cJ, 24, .inr (.inl tv))), (y14, .inl (cI, 24, .inl od))] sz)) (va_Qi (fun (r : Int32) (_ : Unit) => r.toInt = nof (eoo h v Nw.toInt a b)) (fun _ _ => True) (va_A [] sz)) 0 0 (va_A [] sz) := by
  refine x_ofR (cc := cX4_crossing) (maxL := 9) (ret := (some .int)) (own := RX4) (by decide) rfl rfl (Nat.le_of_ble_eq_true rfl) (lvs := [(0, .ref y0), (1, .int x), (2, .int y)]) rfl ?_
  intro pg e s mi args below meth co hx hb hr hml hown hts hlocks hsz hP hK ls hl
  subst hsz
  generalize hAe : (va_A [] s.heap.size) = A
  have hA : ∀ q : Nat, s.heap.size ≤ q → A q := fun q h => by rw [← hAe]; exact Or.inr h
  have hS : va_S A s.heap s.heap [] := va_S.rf
  obtain ⟨ma1, ma2, ma3, ma4, ma5, ma6, ma7, ma8, ma9⟩ := (hM a ha).1 hta
  obtain ⟨mb1, mb2, mb3, mb4, mb5, mb6, mb7, mb8, mb9⟩ := (hM b hb4).1 htb
  have bma := m_bd ma6 ma7 hn0
  have bmb := m_bd mb6 mb7 hn0
  have bsa := m_bd ma6 ma7 ma2
  have bsb := m_bd mb6 mb7 mb2
  have hab : a ≠ b := fun q => by subst q; exact bf_ir hbf
  refine lv_aload_n hx hb dX4_crossing_0 rfl (lv_at hl 0 rfl) ?_
  refine va_get (D := (dC, dI)) (ci := 4) (v := .ref y5) (C := RX4) (T := TX4) (N := 23) hx hb hts (fun _ h => List.mem_cons_of_mem _ (List.mem_append_right _ h)) hown hK hP 0 rfl rfl 6 (by decide) (hts (.fieldLink RX4 24 "MovingHeapModel" "velocity" "[I") (List.mem_of_getElem? (i := 1) rfl)) (fun _ h9 => h9) rfl dX4_crossing_1 ?_
  refine lv_iload_n hx hb dX4_crossing_4 rfl (lv_at hl 1 rfl) ?_
  refine x_iald hx hb hK hP 5 0 rfl rfl (a) hxa ha dX4_crossing_5 ?_
  refine lv_aload_n hx hb dX4_crossing_6 rfl (lv_at hl 0 rfl) ?_
  refine va_get (D := (dC, dI)) (ci := 4) (v := .ref y5) (C := RX4) (T := TX4) (N := 23) hx hb hts (fun _ h => List.mem_cons_of_mem _ (List.mem_append_right _ h)) hown hK hP 0 rfl rfl 6 (by decide) (hts (.fieldLink RX4 24 "MovingHeapModel" "velocity" "[I") (List.mem_of_getElem? (i := 1) rfl)) (fun _ h9 => h9) rfl dX4_crossing_7 ?_
  refine lv_iload_n hx hb dX4_crossing_10 rfl (lv_at hl 2 rfl) ?_
  refine x_iald hx hb hK hP 5 0 rfl rfl (b) hyb hb4 dX4_crossing_11 ?_
  refine x_isub hx hb dX4_crossing_12 (by omega) (by omega) (fun v12 e12 => ?_)
  refine x_i2l hx hb dX4_crossing_13 (fun v13 e13 => ?_)
  refine lv_lstore_n (lv' := [(3, .long v13), (0, .ref y0), (1, .int x), (2, .int y)]) hx hb dX4_crossing_14 rfl hl (by decide) rfl (fun ls hl => ?_)
  refine lv_lload_n hx hb dX4_crossing_15 rfl (lv_at hl 0 rfl) ?_
  refine x_lconst hx hb dX4_crossing_16 (0) (by decide) (fun v16 e16 => ?_)
  refine x_lcmp_gt (tgt := 23) hx hb dX4_crossing_17 dX4_crossing_18 (by decide) (fun c17 => ?_) (fun c17 => ?_)
  · have hgt : ¬ v a ≤ v b := by omega
    refine lv_aload_n hx hb dX4_crossing_23 rfl (lv_at hl 1 rfl) ?_
    refine lv_iload_n hx hb dX4_crossing_24 rfl (lv_at hl 3 rfl) ?_
    refine lv_aload_n hx hb dX4_crossing_25 rfl (lv_at hl 1 rfl) ?_
    refine va_get (D := (dC, dI)) (ci := 4) (v := .int Nw) (C := RX4) (T := TX4) (N := 23) hx hb hts (fun _ h => List.mem_cons_of_mem _ (List.mem_append_right _ h)) hown hK hP 0 rfl rfl 0 (by decide) (hts (.fieldLink RX4 60 "MovingHeapModel" "now" "I") (List.mem_of_getElem? (i := 2) rfl)) (fun _ h9 => h9) rfl dX4_crossing_26 ?_
    have hPc := hP.sub (ws' := [(y0, .inr (4, [.int Nw, .int Sz, .ref y1, .ref y2, .ref y3, .ref y4, .ref y5, .ref y6, .long Ex, .long St, .long Tx, .int Cn, .ref y7, .ref y8, .ref y9, .ref y10, .ref y11, .int Dd, .int Kn, .ref y12, .ref y13, .int My, .ref y14])), (y1, .inl (cI, 24, .inl hp)), (y2, .inl (cZ, 24, .inl tr)), (y3, .inl (cJ, 24, .inr (.inl va))), (y4, .inl (cI, 24, .inl sn)), (y5, .inl (cI, 24, .inl ve)), (y6, .inl (cI, 24, .inl bi)), (y7, .inl (cI, 224, .inl rt)), (y8, .inl (cI, 224, .inl rq)), (y9, .inl (cZ, 224, .inl rh)), (y10, .inl (cJ, 224, .inr (.inl rv))), (y11, .inl (cI, 224, .inl rw_)), (y12, .inl (cI, 24, .inl tn)), (y13, .inl (cJ, 24, .inr (.inl tv))), (y14, .inl (cI, 24, .inl od))]) [0, 1, 2, 3, 4, 5, 6, 7, 8, 9, 10, 11, 12, 13, 14] rfl
    refine x_calll (va_runV (As := [.int y, .int Nw]) (rest := []) ⟨hx, hb, hml, hown, hts⟩ (c_X4_valueOf l dC dI cI cJ cZ y0 y1 y2 y3 y4 y5 y6 y7 y8 y9 y10 y11 y12 y13 y14 s.heap.size hp tr va sn ve bi Nw Sz Ex St Tx Cn rt rq rh rv rw_ Dd Kn tn tv My od th h v hM hn0 hn1 y b hyb hb4 htb Nw rfl) (cwV 2 hts gX4_crossing_X4_valueOf rfl rfl rfl (by decide +kernel) ⟨Nat.le_of_ble_eq_true rfl, Nat.le_of_ble_eq_true rfl⟩) ⟨x_Bb, va_recv hK hP (ci := 4) (q0 := 0) rfl rfl, (fun U hU hW => ⟨rfl, by rw [hU], by rw [hU]; exact hPc, va_K.moved hW.alike hK⟩)⟩ rfl rfl hl.1 rfl (lv_room (Nat.le_of_ble_eq_true rfl)) dX4_crossing_29 ⟨Nat.zero_le _, Nat.zero_le _⟩) hS hA hP (fun v29 _ H locs h29 hP hS => ?_)
    refine lv_aload_n hx hb dX4_crossing_32 rfl (lv_at hl 1 rfl) ?_
    refine lv_iload_n hx hb dX4_crossing_33 rfl (lv_at hl 2 rfl) ?_
    refine lv_aload_n hx hb dX4_crossing_34 rfl (lv_at hl 1 rfl) ?_
    refine va_get (D := (dC, dI)) (ci := 4) (v := .int Nw) (C := RX4) (T := TX4) (N := 23) hx hb hts (fun _ h => List.mem_cons_of_mem _ (List.mem_append_right _ h)) hown hK hP 0 rfl rfl 0 (by decide) (hts (.fieldLink RX4 60 "MovingHeapModel" "now" "I") (List.mem_of_getElem? (i := 2) rfl)) (fun _ h9 => h9) rfl dX4_crossing_35 ?_
    have hPc := hP.sub (ws' := [(y0, .inr (4, [.int Nw, .int Sz, .ref y1, .ref y2, .ref y3, .ref y4, .ref y5, .ref y6, .long Ex, .long St, .long Tx, .int Cn, .ref y7, .ref y8, .ref y9, .ref y10, .ref y11, .int Dd, .int Kn, .ref y12, .ref y13, .int My, .ref y14])), (y1, .inl (cI, 24, .inl hp)), (y2, .inl (cZ, 24, .inl tr)), (y3, .inl (cJ, 24, .inr (.inl va))), (y4, .inl (cI, 24, .inl sn)), (y5, .inl (cI, 24, .inl ve)), (y6, .inl (cI, 24, .inl bi)), (y7, .inl (cI, 224, .inl rt)), (y8, .inl (cI, 224, .inl rq)), (y9, .inl (cZ, 224, .inl rh)), (y10, .inl (cJ, 224, .inr (.inl rv))), (y11, .inl (cI, 224, .inl rw_)), (y12, .inl (cI, 24, .inl tn)), (y13, .inl (cJ, 24, .inr (.inl tv))), (y14, .inl (cI, 24, .inl od))]) [0, 1, 2, 3, 4, 5, 6, 7, 8, 9, 10, 11, 12, 13, 14] rfl
    refine x_calll (va_runV (As := [.int x, .int Nw]) (rest := [.long v29]) ⟨hx, hb, hml, hown, hts⟩ (c_X4_valueOf l dC dI cI cJ cZ y0 y1 y2 y3 y4 y5 y6 y7 y8 y9 y10 y11 y12 y13 y14 H.size hp tr va sn ve bi Nw Sz Ex St Tx Cn rt rq rh rv rw_ Dd Kn tn tv My od th h v hM hn0 hn1 x a hxa ha hta Nw rfl) (cwV 2 hts gX4_crossing_X4_valueOf rfl rfl rfl (by decide +kernel) ⟨Nat.le_of_ble_eq_true rfl, Nat.le_of_ble_eq_true rfl⟩) ⟨x_Bb, va_recv hK hP (ci := 4) (q0 := 0) rfl rfl, (fun U hU hW => ⟨rfl, by rw [hU], by rw [hU]; exact hPc, va_K.moved hW.alike hK⟩)⟩ rfl rfl hl.1 rfl (lv_room (Nat.le_of_ble_eq_true rfl)) dX4_crossing_38 ⟨Nat.zero_le _, Nat.zero_le _⟩) hS hA hP (fun v38 _ H locs h38 hP hS => ?_)
    refine x_lsub hx hb dX4_crossing_41 (by omega) (by omega) (fun v41 e41 => ?_)
    refine lv_iload_n hx hb dX4_crossing_42 rfl (lv_at hl 2 rfl) ?_
    refine lv_iload_n hx hb dX4_crossing_43 rfl (lv_at hl 3 rfl) ?_
    refine x_icmp_le (tgt := 51) hx hb dX4_crossing_44 (by decide) (fun c44 => ?_) (fun c44 => ?_)
    · refine x_lconst hx hb dX4_crossing_51 (1) (by decide) (fun v51 e51 => ?_)
      have hif : v51.toInt = (if a < b then 1 else 0) := by rcases hbf with q | q <;> split <;> omega
      refine x_ladd hx hb dX4_crossing_52 (by omega) (by omega) (fun v52 e52 => ?_)
      refine lv_lstore (lv' := [(5, .long v52), (3, .long v13), (0, .ref y0), (1, .int x), (2, .int y)]) hx hb dX4_crossing_53 hl (by decide) rfl (fun ls hl => ?_)
      refine lv_aload_n hx hb dX4_crossing_55 rfl (lv_at hl 2 rfl) ?_
      refine va_get (D := (dC, dI)) (ci := 4) (v := .int Nw) (C := RX4) (T := TX4) (N := 23) hx hb hts (fun _ h => List.mem_cons_of_mem _ (List.mem_append_right _ h)) hown hK hP 0 rfl rfl 0 (by decide) (hts (.fieldLink RX4 60 "MovingHeapModel" "now" "I") (List.mem_of_getElem? (i := 2) rfl)) (fun _ h9 => h9) rfl dX4_crossing_56 ?_
      refine x_i2l hx hb dX4_crossing_59 (fun v59 e59 => ?_)
      refine lv_lload hx hb dX4_crossing_60 (lv_at hl 0 rfl) ?_
      refine lv_lload_n hx hb dX4_crossing_62 rfl (lv_at hl 1 rfl) ?_
      refine x_ladd hx hb dX4_crossing_63 (by omega) (by omega) (fun v63 e63 => ?_)
      refine x_lconst hx hb dX4_crossing_64 (1) (by decide) (fun v64 e64 => ?_)
      refine x_lsub hx hb dX4_crossing_65 (by omega) (by omega) (fun v65 e65 => ?_)
      refine lv_lload_n hx hb dX4_crossing_66 rfl (lv_at hl 1 rfl) ?_
      have hdv := d_bd (x := v65.toInt) (y := v13.toInt) (by rcases hbf with q | q <;> split at hif <;> omega) (by omega)
      refine x_ldiv hx hb dX4_crossing_67 (by rcases hbf with q | q <;> split at hif <;> omega) (by omega) (fun v67 e67 => ?_)
      have hq0 : 0 ≤ v67.toInt := by rw [e67]; exact hdv.1
      refine x_ladd hx hb dX4_crossing_68 (by omega) (by omega) (fun v68 e68 => ?_)
      refine lv_lstore (lv' := [(7, .long v68), (5, .long v52), (3, .long v13), (0, .ref y0), (1, .int x), (2, .int y)]) hx hb dX4_crossing_69 hl (by decide) rfl (fun ls hl => ?_)
      have hg : v65.toInt = (h b + v b * Nw.toInt - (h a + v a * Nw.toInt) + (if a < b then 1 else 0)) + (v a - v b) - 1 := by rw [← hif]; omega
      have hc : v13.toInt = v a - v b := by omega
      rw [hg, hc] at e67
      refine lv_lload hx hb dX4_crossing_71 (lv_at hl 0 rfl) ?_
      refine x_ldc2 hx hb hown (hts (.constantLong RX4 68 (1000000)) (List.mem_of_getElem? (i := 3) rfl)) dX4_crossing_73 (1000000) (by decide) (fun v73 e73 => ?_)
      refine x_lcmp_le (tgt := 84) hx hb dX4_crossing_76 dX4_crossing_77 (by decide) (fun c76 => ?_) (fun c76 => ?_)
      · refine lv_lload hx hb dX4_crossing_84 (lv_at hl 0 rfl) ?_
        refine x_l2i hx hb dX4_crossing_86 (by omega) (by omega) (fun v86 e86 => ?_)
        exact x_iret hx hb hr hlocks hS () dX4_crossing_87 (fun t ht => trivial) (by unfold nof eoo cro; rw [if_pos hbf, if_neg hgt]; first | (rw [if_pos (show Nw.toInt + (h b + v b * Nw.toInt - (h a + v a * Nw.toInt) + (if a < b then 1 else 0) + (v a - v b) - 1) / (v a - v b) > 1000000 by omega), if_pos rfl]; omega) | (rw [if_neg (show ¬ Nw.toInt + (h b + v b * Nw.toInt - (h a + v a * Nw.toInt) + (if a < b then 1 else 0) + (v a - v b) - 1) / (v a - v b) > 1000000 by omega), if_neg (by omega)]; omega))
      · refine x_iconst hx hb dX4_crossing_80 (-1) (by decide) (fun v80 e80 => ?_)
        refine lv_goto (tgt := 87) hx hb dX4_crossing_81 (by decide) ?_
        exact x_iret hx hb hr hlocks hS () dX4_crossing_87 (fun t ht => trivial) (by unfold nof eoo cro; rw [if_pos hbf, if_neg hgt]; first | (rw [if_pos (show Nw.toInt + (h b + v b * Nw.toInt - (h a + v a * Nw.toInt) + (if a < b then 1 else 0) + (v a - v b) - 1) / (v a - v b) > 1000000 by omega), if_pos rfl]; omega) | (rw [if_neg (show ¬ Nw.toInt + (h b + v b * Nw.toInt - (h a + v a * Nw.toInt) + (if a < b then 1 else 0) + (v a - v b) - 1) / (v a - v b) > 1000000 by omega), if_neg (by omega)]; omega))
    · refine x_lconst hx hb dX4_crossing_47 (0) (by decide) (fun v47 e47 => ?_)
      refine lv_goto (tgt := 52) hx hb dX4_crossing_48 (by decide) ?_
      have hif : v47.toInt = (if a < b then 1 else 0) := by rcases hbf with q | q <;> split <;> omega
      refine x_ladd hx hb dX4_crossing_52 (by omega) (by omega) (fun v52 e52 => ?_)
      refine lv_lstore (lv' := [(5, .long v52), (3, .long v13), (0, .ref y0), (1, .int x), (2, .int y)]) hx hb dX4_crossing_53 hl (by decide) rfl (fun ls hl => ?_)
      refine lv_aload_n hx hb dX4_crossing_55 rfl (lv_at hl 2 rfl) ?_
      refine va_get (D := (dC, dI)) (ci := 4) (v := .int Nw) (C := RX4) (T := TX4) (N := 23) hx hb hts (fun _ h => List.mem_cons_of_mem _ (List.mem_append_right _ h)) hown hK hP 0 rfl rfl 0 (by decide) (hts (.fieldLink RX4 60 "MovingHeapModel" "now" "I") (List.mem_of_getElem? (i := 2) rfl)) (fun _ h9 => h9) rfl dX4_crossing_56 ?_
      refine x_i2l hx hb dX4_crossing_59 (fun v59 e59 => ?_)
      refine lv_lload hx hb dX4_crossing_60 (lv_at hl 0 rfl) ?_
      refine lv_lload_n hx hb dX4_crossing_62 rfl (lv_at hl 1 rfl) ?_
      refine x_ladd hx hb dX4_crossing_63 (by omega) (by omega) (fun v63 e63 => ?_)
      refine x_lconst hx hb dX4_crossing_64 (1) (by decide) (fun v64 e64 => ?_)
      refine x_lsub hx hb dX4_crossing_65 (by omega) (by omega) (fun v65 e65 => ?_)
      refine lv_lload_n hx hb dX4_crossing_66 rfl (lv_at hl 1 rfl) ?_
      have hdv := d_bd (x := v65.toInt) (y := v13.toInt) (by rcases hbf with q | q <;> split at hif <;> omega) (by omega)
      refine x_ldiv hx hb dX4_crossing_67 (by rcases hbf with q | q <;> split at hif <;> omega) (by omega) (fun v67 e67 => ?_)
      have hq0 : 0 ≤ v67.toInt := by rw [e67]; exact hdv.1
      refine x_ladd hx hb dX4_crossing_68 (by omega) (by omega) (fun v68 e68 => ?_)
      refine lv_lstore (lv' := [(7, .long v68), (5, .long v52), (3, .long v13), (0, .ref y0), (1, .int x), (2, .int y)]) hx hb dX4_crossing_69 hl (by decide) rfl (fun ls hl => ?_)
      have hg : v65.toInt = (h b + v b * Nw.toInt - (h a + v a * Nw.toInt) + (if a < b then 1 else 0)) + (v a - v b) - 1 := by rw [← hif]; omega
      have hc : v13.toInt = v a - v b := by omega
      rw [hg, hc] at e67
      refine lv_lload hx hb dX4_crossing_71 (lv_at hl 0 rfl) ?_
      refine x_ldc2 hx hb hown (hts (.constantLong RX4 68 (1000000)) (List.mem_of_getElem? (i := 3) rfl)) dX4_crossing_73 (1000000) (by decide) (fun v73 e73 => ?_)
      refine x_lcmp_le (tgt := 84) hx hb dX4_crossing_76 dX4_crossing_77 (by decide) (fun c76 => ?_) (fun c76 => ?_)
      · refine lv_lload hx hb dX4_crossing_84 (lv_at hl 0 rfl) ?_
        refine x_l2i hx hb dX4_crossing_86 (by omega) (by omega) (fun v86 e86 => ?_)
        exact x_iret hx hb hr hlocks hS () dX4_crossing_87 (fun t ht => trivial) (by unfold nof eoo cro; rw [if_pos hbf, if_neg hgt]; first | (rw [if_pos (show Nw.toInt + (h b + v b * Nw.toInt - (h a + v a * Nw.toInt) + (if a < b then 1 else 0) + (v a - v b) - 1) / (v a - v b) > 1000000 by omega), if_pos rfl]; omega) | (rw [if_neg (show ¬ Nw.toInt + (h b + v b * Nw.toInt - (h a + v a * Nw.toInt) + (if a < b then 1 else 0) + (v a - v b) - 1) / (v a - v b) > 1000000 by omega), if_neg (by omega)]; omega))
      · refine x_iconst hx hb dX4_crossing_80 (-1) (by decide) (fun v80 e80 => ?_)
        refine lv_goto (tgt := 87) hx hb dX4_crossing_81 (by decide) ?_
        exact x_iret hx hb hr hlocks hS () dX4_crossing_87 (fun t ht => trivial) (by unfold nof eoo cro; rw [if_pos hbf, if_neg hgt]; first | (rw [if_pos (show Nw.toInt + (h b + v b * Nw.toInt - (h a + v a * Nw.toInt) + (if a < b then 1 else 0) + (v a - v b) - 1) / (v a - v b) > 1000000 by omega), if_pos rfl]; omega) | (rw [if_neg (show ¬ Nw.toInt + (h b + v b * Nw.toInt - (h a + v a * Nw.toInt) + (if a < b then 1 else 0) + (v a - v b) - 1) / (v a - v b) > 1000000 by omega), if_neg (by omega)]; omega))
  · have hle : v a ≤ v b := by omega
    refine x_iconst hx hb dX4_crossing_21 (-1) (by decide) (fun v21 e21 => ?_)
    exact x_iret hx hb hr hlocks hS () dX4_crossing_22 (fun t ht => trivial) (by unfold nof eoo; rw [if_pos hbf, if_pos hle, if_pos rfl]; exact e21)
--== X4_crossing
set_option maxHeartbeats 4000000 in
set_option maxRecDepth 100000 in
theorem c_X4_failureOf (l : Launch) (dC : Nat → ClassId) (dI : Nat → Nat → Nat) (cI cJ cZ : ClassId) (y0 y1 y2 y3 y4 y5 y6 y7 y8 y9 y10 y11 y12 y13 y14 : Nat) (sz : Nat) (hp tr : Nat → Int32) (va : Nat → Int64) (sn ve bi : Nat → Int32) (Nw Sz : Int32) (Ex St Tx : Int64) (Cn : Int32) (rt rq rh : Nat → Int32) (rv : Nat → Int64) (rw_ : Nat → Int32) (Dd Kn : Int32) (tn : Nat → Int32) (tv : Nat → Int64) (My : Int32) (od : Nat → Int32) (th : Nat → Bool) (h v : Nat → Int) (hM : MOK tr va sn ve th h v Nw.toInt) (hn0 : 0 ≤ Nw.toInt) (hn1 : Nw.toInt ≤ 100000) (a : Nat → Nat) (n : Nat) (hH : HM hp Sz a n) (hT : ∀ k : Nat, k < n → th (a k) = true) (hinj : ∀ i j : Nat, i < n → j < n → a i = a j → i = j) (x : Int32) (k : Nat) (hxk : x.toInt = (k : Int)) (hk1 : 1 ≤ k) (hkn : k < n) : Met l yX4_failureOf wsX4_failureOf ({ frames := 2, cells := 0, slots := 0, locals := 50 }) (va_Pc [.ref y0, .int x] (x_B (dC, dI) vwCl (tysN cI cJ cZ) [(y0, .inr (4, [.int Nw, .int Sz, .ref y1, .ref y2, .ref y3, .ref y4, .ref y5, .ref y6, .long Ex, .long St, .long Tx, .int Cn, .ref y7, .ref y8, .ref y9, .ref y10, .ref y11, .int Dd, .int Kn, .ref y12, .ref y13, .int My, .ref y14])), (y1, .inl (cI, 24, .inl hp)), (y2, .inl (cZ, 24, .inl tr)), (y3, .inl (cJ, 24, .inr (.inl va))), (y4, .inl (cI, 24, .inl sn)), (y5, .inl (cI, 24, .inl ve)), (y6, .inl (cI, 24, .inl bi)), (y7, .inl (cI, 224, .inl rt)), (y8, .inl (cI, 224, .inl rq)), (y9, .inl (cZ, 224, .inl rh)), (y10, .inl (cJ, 224, .inr (.inl rv))), (y11, .inl (cI, 224, .inl rw_)), (y12, .inl (cI, 24, .inl tn)), (y13, .inl (cJ, 24, .inr (.inl tv))), (y14, .inl (cI, 24, .inl od))] sz)) (va_Qi (fun (r : Int32) (_ : Unit) => r.toInt = nof (er h v Nw.toInt a k)) (fun _ _ => True) (va_A [] sz)) 0 0 (va_A [] sz) := by
  refine x_ofR (cc := cX4_failureOf) (maxL := 4) (ret := (some .int)) (own := RX4) (by decide) rfl rfl (Nat.le_of_ble_eq_true rfl) (lvs := [(0, .ref y0), (1, .int x)]) rfl ?_
  intro pg e s mi args below meth co hx hb hr hml hown hts hlocks hsz hP hK ls hl
  subst hsz
  generalize hAe : (va_A [] s.heap.size) = A
  have hA : ∀ q : Nat, s.heap.size ≤ q → A q := fun q h => by rw [← hAe]; exact Or.inr h
  have hS : va_S A s.heap s.heap [] := va_S.rf
  obtain ⟨hHs, hHn, hHa⟩ := id hH
  have hHp := hHa ((k - 1) / 2) (by omega)
  have hHk := hHa k hkn
  have hbx := b_hi x
  refine lv_aload_n hx hb dX4_failureOf_0 rfl (lv_at hl 0 rfl) ?_
  refine va_get (D := (dC, dI)) (ci := 4) (v := .ref y1) (C := RX4) (T := TX4) (N := 23) hx hb hts (fun _ h => List.mem_cons_of_mem _ (List.mem_append_right _ h)) hown hK hP 0 rfl rfl 2 (by decide) (hts (.fieldLink RX4 7 "MovingHeapModel" "heap" "[I") (List.mem_of_getElem? (i := 1) rfl)) (fun _ h9 => h9) rfl dX4_failureOf_1 ?_
  refine lv_iload_n hx hb dX4_failureOf_4 rfl (lv_at hl 1 rfl) ?_
  refine x_iconst hx hb dX4_failureOf_5 (1) (by decide) (fun v5 e5 => ?_)
  refine x_isub hx hb dX4_failureOf_6 (by omega) (by omega) (fun v6 e6 => ?_)
  refine x_iconst hx hb dX4_failureOf_7 (2) (by decide) (fun v7 e7 => ?_)
  refine x_idiv hx hb dX4_failureOf_8 (by omega) (by omega) (fun v8 e8 => ?_)
  rw [e7, e6] at e8
  refine x_iald hx hb hK hP 1 0 rfl rfl (((k - 1) / 2)) (by omega) (by omega) dX4_failureOf_9 ?_
  refine lv_istore_n (lv' := [(2, .int (hp (((k - 1) / 2)))), (0, .ref y0), (1, .int x)]) hx hb dX4_failureOf_10 rfl hl (by decide) rfl (fun ls hl => ?_)
  refine lv_aload_n hx hb dX4_failureOf_11 rfl (lv_at hl 1 rfl) ?_
  refine va_get (D := (dC, dI)) (ci := 4) (v := .ref y1) (C := RX4) (T := TX4) (N := 23) hx hb hts (fun _ h => List.mem_cons_of_mem _ (List.mem_append_right _ h)) hown hK hP 0 rfl rfl 2 (by decide) (hts (.fieldLink RX4 7 "MovingHeapModel" "heap" "[I") (List.mem_of_getElem? (i := 1) rfl)) (fun _ h9 => h9) rfl dX4_failureOf_12 ?_
  refine lv_iload_n hx hb dX4_failureOf_15 rfl (lv_at hl 2 rfl) ?_
  refine x_iald hx hb hK hP 1 0 rfl rfl (k) hxk (by omega) dX4_failureOf_16 ?_
  refine lv_istore_n (lv' := [(3, .int (hp k)), (2, .int (hp (((k - 1) / 2)))), (0, .ref y0), (1, .int x)]) hx hb dX4_failureOf_17 rfl hl (by decide) rfl (fun ls hl => ?_)
  refine lv_aload_n hx hb dX4_failureOf_18 rfl (lv_at hl 2 rfl) ?_
  refine lv_iload_n hx hb dX4_failureOf_19 rfl (lv_at hl 1 rfl) ?_
  refine lv_iload_n hx hb dX4_failureOf_20 rfl (lv_at hl 0 rfl) ?_
  have hPc := hP.sub (ws' := [(y0, .inr (4, [.int Nw, .int Sz, .ref y1, .ref y2, .ref y3, .ref y4, .ref y5, .ref y6, .long Ex, .long St, .long Tx, .int Cn, .ref y7, .ref y8, .ref y9, .ref y10, .ref y11, .int Dd, .int Kn, .ref y12, .ref y13, .int My, .ref y14])), (y1, .inl (cI, 24, .inl hp)), (y2, .inl (cZ, 24, .inl tr)), (y3, .inl (cJ, 24, .inr (.inl va))), (y4, .inl (cI, 24, .inl sn)), (y5, .inl (cI, 24, .inl ve)), (y6, .inl (cI, 24, .inl bi)), (y7, .inl (cI, 224, .inl rt)), (y8, .inl (cI, 224, .inl rq)), (y9, .inl (cZ, 224, .inl rh)), (y10, .inl (cJ, 224, .inr (.inl rv))), (y11, .inl (cI, 224, .inl rw_)), (y12, .inl (cI, 24, .inl tn)), (y13, .inl (cJ, 24, .inr (.inl tv))), (y14, .inl (cI, 24, .inl od))]) [0, 1, 2, 3, 4, 5, 6, 7, 8, 9, 10, 11, 12, 13, 14] rfl
  refine x_calli (va_runV (As := [.int (hp (((k - 1) / 2))), .int (hp k)]) (rest := []) ⟨hx, hb, hml, hown, hts⟩ (c_X4_isBefore l dC dI cI cJ cZ y0 y1 y2 y3 y4 y5 y6 y7 y8 y9 y10 y11 y12 y13 y14 s.heap.size hp tr va sn ve bi Nw Sz Ex St Tx Cn rt rq rh rv rw_ Dd Kn tn tv My od th h v hM hn0 hn1 (hp ((k - 1) / 2)) (hp k) (a ((k - 1) / 2)) (a k) hHp.1 hHk.1 hHp.2 hHk.2 (hT _ (by omega)) (hT _ hkn)) (cwV 2 hts gX4_failureOf_X4_isBefore rfl rfl rfl (by decide +kernel) ⟨Nat.le_of_ble_eq_true rfl, Nat.le_of_ble_eq_true rfl⟩) ⟨x_Bb, va_recv hK hP (ci := 4) (q0 := 0) rfl rfl, (fun U hU hW => ⟨rfl, by rw [hU], by rw [hU]; exact hPc, va_K.moved hW.alike hK⟩)⟩ rfl rfl hl.1 rfl (lv_room (Nat.le_of_ble_eq_true rfl)) dX4_failureOf_21 ⟨Nat.zero_le _, Nat.zero_le _⟩) hS hA hP (fun v21 _ H locs h21 hP hS => ?_)
  refine x_if_eq (tgt := 36) hx hb dX4_failureOf_24 (by decide) (fun c24 => ?_) (fun c24 => ?_)
  · have hb9 : ¬ bef h v Nw.toInt (a ((k - 1) / 2)) (a k) := by rcases h21 with q | q; omega; exact q.2
    refine lv_aload_n hx hb dX4_failureOf_36 rfl (lv_at hl 2 rfl) ?_
    refine va_get (D := (dC, dI)) (ci := 4) (v := .int Nw) (C := RX4) (T := TX4) (N := 23) hx hb hts (fun _ h => List.mem_cons_of_mem _ (List.mem_append_right _ h)) hown hK hP 0 rfl rfl 0 (by decide) (hts (.fieldLink RX4 60 "MovingHeapModel" "now" "I") (List.mem_of_getElem? (i := 2) rfl)) (fun _ h9 => h9) rfl dX4_failureOf_37 ?_
    exact x_iret hx hb hr hlocks hS () dX4_failureOf_40 (fun t ht => trivial) (by first | exact h30 | (unfold nof er eoo; rw [if_neg hb9, if_neg (by omega)]))
  · have hb9 : bef h v Nw.toInt (a ((k - 1) / 2)) (a k) := by rcases h21 with q | q; exact q.2; omega
    refine lv_aload_n hx hb dX4_failureOf_27 rfl (lv_at hl 2 rfl) ?_
    refine lv_iload_n hx hb dX4_failureOf_28 rfl (lv_at hl 1 rfl) ?_
    refine lv_iload_n hx hb dX4_failureOf_29 rfl (lv_at hl 0 rfl) ?_
    have hPc := hP.sub (ws' := [(y0, .inr (4, [.int Nw, .int Sz, .ref y1, .ref y2, .ref y3, .ref y4, .ref y5, .ref y6, .long Ex, .long St, .long Tx, .int Cn, .ref y7, .ref y8, .ref y9, .ref y10, .ref y11, .int Dd, .int Kn, .ref y12, .ref y13, .int My, .ref y14])), (y1, .inl (cI, 24, .inl hp)), (y2, .inl (cZ, 24, .inl tr)), (y3, .inl (cJ, 24, .inr (.inl va))), (y4, .inl (cI, 24, .inl sn)), (y5, .inl (cI, 24, .inl ve)), (y6, .inl (cI, 24, .inl bi)), (y7, .inl (cI, 224, .inl rt)), (y8, .inl (cI, 224, .inl rq)), (y9, .inl (cZ, 224, .inl rh)), (y10, .inl (cJ, 224, .inr (.inl rv))), (y11, .inl (cI, 224, .inl rw_)), (y12, .inl (cI, 24, .inl tn)), (y13, .inl (cJ, 24, .inr (.inl tv))), (y14, .inl (cI, 24, .inl od))]) [0, 1, 2, 3, 4, 5, 6, 7, 8, 9, 10, 11, 12, 13, 14] rfl
    refine x_calli (va_runV (As := [.int (hp (((k - 1) / 2))), .int (hp k)]) (rest := []) ⟨hx, hb, hml, hown, hts⟩ (c_X4_crossing l dC dI cI cJ cZ y0 y1 y2 y3 y4 y5 y6 y7 y8 y9 y10 y11 y12 y13 y14 H.size hp tr va sn ve bi Nw Sz Ex St Tx Cn rt rq rh rv rw_ Dd Kn tn tv My od th h v hM hn0 hn1 (hp ((k - 1) / 2)) (hp k) (a ((k - 1) / 2)) (a k) hHp.1 hHk.1 hHp.2 hHk.2 (hT _ (by omega)) (hT _ hkn) hb9) (cwV 2 hts gX4_failureOf_X4_crossing rfl rfl rfl (by decide +kernel) ⟨Nat.le_of_ble_eq_true rfl, Nat.le_of_ble_eq_true rfl⟩) ⟨x_Bb, va_recv hK hP (ci := 4) (q0 := 0) rfl rfl, (fun U hU hW => ⟨rfl, by rw [hU], by rw [hU]; exact hPc, va_K.moved hW.alike hK⟩)⟩ rfl rfl hl.1 rfl (lv_room (Nat.le_of_ble_eq_true rfl)) dX4_failureOf_30 ⟨Nat.zero_le _, Nat.zero_le _⟩) hS hA hP (fun v30 _ H locs h30 hP hS => ?_)
    refine lv_goto (tgt := 40) hx hb dX4_failureOf_33 (by decide) ?_
    exact x_iret hx hb hr hlocks hS () dX4_failureOf_40 (fun t ht => trivial) (by first | exact h30 | (unfold nof er eoo; rw [if_neg hb9, if_neg (by omega)]))
--== X4_failureOf
set_option maxHeartbeats 4000000 in
set_option maxRecDepth 100000 in
theorem c_X4_settles (l : Launch) (dC : Nat → ClassId) (dI : Nat → Nat → Nat) (cI cJ cZ : ClassId) (y0 y1 y2 y3 y4 y5 y6 y7 y8 y9 y10 y11 y12 y13 y14 : Nat) (sz : Nat) (hp tr : Nat → Int32) (va : Nat → Int64) (sn ve bi : Nat → Int32) (Nw Sz : Int32) (Ex St Tx : Int64) (Cn : Int32) (rt rq rh : Nat → Int32) (rv : Nat → Int64) (rw_ : Nat → Int32) (Dd Kn : Int32) (tn : Nat → Int32) (tv : Nat → Int64) (My : Int32) (od : Nat → Int32) (th : Nat → Bool) (h v : Nat → Int) (hM : MOK tr va sn ve th h v Nw.toInt) (hn0 : 0 ≤ Nw.toInt) (hn1 : Nw.toInt ≤ 100000) (a : Nat → Nat) (n : Nat) (hH : HM hp Sz a n) (hT : ∀ k : Nat, k < n → th (a k) = true) (hinj : ∀ i j : Nat, i < n → j < n → a i = a j → i = j) : Met l yX4_settles wsX4_settles ({ frames := 2, cells := 0, slots := 0, locals := 46 }) (va_Pc [.ref y0] (x_M (dC, dI) vwCl (tysN cI cJ cZ) [(y0, .inr (4, [.int Nw, .int Sz, .ref y1, .ref y2, .ref y3, .ref y4, .ref y5, .ref y6, .long Ex, .long St, .long Tx, .int Cn, .ref y7, .ref y8, .ref y9, .ref y10, .ref y11, .int Dd, .int Kn, .ref y12, .ref y13, .int My, .ref y14])), (y1, .inl (cI, 24, .inl hp)), (y2, .inl (cZ, 24, .inl tr)), (y3, .inl (cJ, 24, .inr (.inl va))), (y4, .inl (cI, 24, .inl sn)), (y5, .inl (cI, 24, .inl ve)), (y6, .inl (cI, 24, .inl bi)), (y7, .inl (cI, 224, .inl rt)), (y8, .inl (cI, 224, .inl rq)), (y9, .inl (cZ, 224, .inl rh)), (y10, .inl (cJ, 224, .inr (.inl rv))), (y11, .inl (cI, 224, .inl rw_)), (y12, .inl (cI, 24, .inl tn)), (y13, .inl (cJ, 24, .inr (.inl tv))), (y14, .inl (cI, 24, .inl od))] sz)) (va_Qv (fun (u : (Nat → Int32) × (Int64) × (Int64)) => HM u.1 Sz (stl h v Nw.toInt n 276 (a, Ex, Tx)).1 n ∧ u.2.1 = (stl h v Nw.toInt n 276 (a, Ex, Tx)).2.1 ∧ u.2.2 = (stl h v Nw.toInt n 276 (a, Ex, Tx)).2.2) (fun (u : (Nat → Int32) × (Int64) × (Int64)) t => va_P (dC, dI) vwCl [(y0, .inr (4, [.int Nw, .int Sz, .ref y1, .ref y2, .ref y3, .ref y4, .ref y5, .ref y6, .long u.2.1, .long St, .long u.2.2, .int Cn, .ref y7, .ref y8, .ref y9, .ref y10, .ref y11, .int Dd, .int Kn, .ref y12, .ref y13, .int My, .ref y14])), (y1, .inl (cI, 24, .inl u.1)), (y2, .inl (cZ, 24, .inl tr)), (y3, .inl (cJ, 24, .inr (.inl va))), (y4, .inl (cI, 24, .inl sn)), (y5, .inl (cI, 24, .inl ve)), (y6, .inl (cI, 24, .inl bi)), (y7, .inl (cI, 224, .inl rt)), (y8, .inl (cI, 224, .inl rq)), (y9, .inl (cZ, 224, .inl rh)), (y10, .inl (cJ, 224, .inr (.inl rv))), (y11, .inl (cI, 224, .inl rw_)), (y12, .inl (cI, 24, .inl tn)), (y13, .inl (cJ, 24, .inr (.inl tv))), (y14, .inl (cI, 24, .inl od))] t.heap) (va_A [(y0, .inr (4, [.int Nw, .int Sz, .ref y1, .ref y2, .ref y3, .ref y4, .ref y5, .ref y6, .long Ex, .long St, .long Tx, .int Cn, .ref y7, .ref y8, .ref y9, .ref y10, .ref y11, .int Dd, .int Kn, .ref y12, .ref y13, .int My, .ref y14])), (y1, .inl (cI, 24, .inl hp)), (y2, .inl (cZ, 24, .inl tr)), (y3, .inl (cJ, 24, .inr (.inl va))), (y4, .inl (cI, 24, .inl sn)), (y5, .inl (cI, 24, .inl ve)), (y6, .inl (cI, 24, .inl bi)), (y7, .inl (cI, 224, .inl rt)), (y8, .inl (cI, 224, .inl rq)), (y9, .inl (cZ, 224, .inl rh)), (y10, .inl (cJ, 224, .inr (.inl rv))), (y11, .inl (cI, 224, .inl rw_)), (y12, .inl (cI, 24, .inl tn)), (y13, .inl (cJ, 24, .inr (.inl tv))), (y14, .inl (cI, 24, .inl od))] sz)) 0 0 (va_A [(y0, .inr (4, [.int Nw, .int Sz, .ref y1, .ref y2, .ref y3, .ref y4, .ref y5, .ref y6, .long Ex, .long St, .long Tx, .int Cn, .ref y7, .ref y8, .ref y9, .ref y10, .ref y11, .int Dd, .int Kn, .ref y12, .ref y13, .int My, .ref y14])), (y1, .inl (cI, 24, .inl hp)), (y2, .inl (cZ, 24, .inl tr)), (y3, .inl (cJ, 24, .inr (.inl va))), (y4, .inl (cI, 24, .inl sn)), (y5, .inl (cI, 24, .inl ve)), (y6, .inl (cI, 24, .inl bi)), (y7, .inl (cI, 224, .inl rt)), (y8, .inl (cI, 224, .inl rq)), (y9, .inl (cZ, 224, .inl rh)), (y10, .inl (cJ, 224, .inr (.inl rv))), (y11, .inl (cI, 224, .inl rw_)), (y12, .inl (cI, 24, .inl tn)), (y13, .inl (cJ, 24, .inr (.inl tv))), (y14, .inl (cI, 24, .inl od))] sz) := by
  refine x_ofM (cc := cX4_settles) (maxL := 5) (ret := none) (own := RX4) (by decide) rfl rfl (Nat.le_of_ble_eq_true rfl) (lvs := [(0, .ref y0)]) rfl ?_
  intro pg e s mi args below meth co hx hb hr hml hown hts hlocks hin hsz hP hK hD ls hl
  subst hsz
  generalize hAe : (va_A [(y0, .inr (4, [.int Nw, .int Sz, .ref y1, .ref y2, .ref y3, .ref y4, .ref y5, .ref y6, .long Ex, .long St, .long Tx, .int Cn, .ref y7, .ref y8, .ref y9, .ref y10, .ref y11, .int Dd, .int Kn, .ref y12, .ref y13, .int My, .ref y14])), (y1, .inl (cI, 24, .inl hp)), (y2, .inl (cZ, 24, .inl tr)), (y3, .inl (cJ, 24, .inr (.inl va))), (y4, .inl (cI, 24, .inl sn)), (y5, .inl (cI, 24, .inl ve)), (y6, .inl (cI, 24, .inl bi)), (y7, .inl (cI, 224, .inl rt)), (y8, .inl (cI, 224, .inl rq)), (y9, .inl (cZ, 224, .inl rh)), (y10, .inl (cJ, 224, .inr (.inl rv))), (y11, .inl (cI, 224, .inl rw_)), (y12, .inl (cI, 24, .inl tn)), (y13, .inl (cJ, 24, .inr (.inl tv))), (y14, .inl (cI, 24, .inl od))] s.heap.size) = A at hD ⊢
  have hA : ∀ q : Nat, s.heap.size ≤ q → A q := fun q h => by rw [← hAe]; exact Or.inr h
  have hS : va_S A s.heap s.heap [] := va_S.rf
  obtain ⟨hHs, hHn, hHa⟩ := id hH
  refine x_iconst hx hb dX4_settles_0 (1) (by decide) (fun v0 e0 => ?_)
  refine lv_istore_n (lv' := [(1, .int v0), (0, .ref y0)]) hx hb dX4_settles_1 rfl hl (by decide) rfl (fun ls hl => ?_)
  have loop2 : ∀ (fu : Nat) (f : Nat) (mo : Int32) (hpi : Nat → Int32) (Exi : Int64) (Txi : Int64) (b : Nat → Nat), (mo.toInt = 1 ∨ (mo.toInt = 0 ∧ bkF h v Nw.toInt b n = 0)) → (HM hpi Sz b n) → (∀ k : Nat, k < n → th (b k) = true) → (∀ i j : Nat, i < n → j < n → b i = b j → i = j) → ((stl h v Nw.toInt n f (b, Exi, Txi)) = (stl h v Nw.toInt n 276 (a, Ex, Tx))) → (ivS h v Nw.toInt b n ≤ f) → (2 * f + mo.toInt.toNat < fu) → ∀ (H : Heap) (locs : List Loc), va_P (dC, dI) vwCl [(y0, .inr (4, [.int Nw, .int Sz, .ref y1, .ref y2, .ref y3, .ref y4, .ref y5, .ref y6, .long Exi, .long St, .long Txi, .int Cn, .ref y7, .ref y8, .ref y9, .ref y10, .ref y11, .int Dd, .int Kn, .ref y12, .ref y13, .int My, .ref y14])), (y1, .inl (cI, 24, .inl hpi)), (y2, .inl (cZ, 24, .inl tr)), (y3, .inl (cJ, 24, .inr (.inl va))), (y4, .inl (cI, 24, .inl sn)), (y5, .inl (cI, 24, .inl ve)), (y6, .inl (cI, 24, .inl bi)), (y7, .inl (cI, 224, .inl rt)), (y8, .inl (cI, 224, .inl rq)), (y9, .inl (cZ, 224, .inl rh)), (y10, .inl (cJ, 224, .inr (.inl rv))), (y11, .inl (cI, 224, .inl rw_)), (y12, .inl (cI, 24, .inl tn)), (y13, .inl (cJ, 24, .inr (.inl tv))), (y14, .inl (cI, 24, .inl od))] H → va_D A [(y0, .inr (4, [.int Nw, .int Sz, .ref y1, .ref y2, .ref y3, .ref y4, .ref y5, .ref y6, .long Exi, .long St, .long Txi, .int Cn, .ref y7, .ref y8, .ref y9, .ref y10, .ref y11, .int Dd, .int Kn, .ref y12, .ref y13, .int My, .ref y14])), (y1, .inl (cI, 24, .inl hpi)), (y2, .inl (cZ, 24, .inl tr)), (y3, .inl (cJ, 24, .inr (.inl va))), (y4, .inl (cI, 24, .inl sn)), (y5, .inl (cI, 24, .inl ve)), (y6, .inl (cI, 24, .inl bi)), (y7, .inl (cI, 224, .inl rt)), (y8, .inl (cI, 224, .inl rq)), (y9, .inl (cZ, 224, .inl rh)), (y10, .inl (cJ, 224, .inr (.inl rv))), (y11, .inl (cI, 224, .inl rw_)), (y12, .inl (cI, 24, .inl tn)), (y13, .inl (cJ, 24, .inr (.inl tv))), (y14, .inl (cI, 24, .inl od))] → va_S A s.heap H locs → ∀ (ls : Array Slot), lv_has ls 5 [(0, .ref y0), (1, .int mo)] → W pg l e (headSpec wsX4_settles ({ frames := 2, cells := 0, slots := 0, locals := 46 })).room s mi args below meth co H locs 0 0 (MQ below (va_Qv (fun (u : (Nat → Int32) × (Int64) × (Int64)) => HM u.1 Sz (stl h v Nw.toInt n 276 (a, Ex, Tx)).1 n ∧ u.2.1 = (stl h v Nw.toInt n 276 (a, Ex, Tx)).2.1 ∧ u.2.2 = (stl h v Nw.toInt n 276 (a, Ex, Tx)).2.2) (fun (u : (Nat → Int32) × (Int64) × (Int64)) t => va_P (dC, dI) vwCl [(y0, .inr (4, [.int Nw, .int Sz, .ref y1, .ref y2, .ref y3, .ref y4, .ref y5, .ref y6, .long u.2.1, .long St, .long u.2.2, .int Cn, .ref y7, .ref y8, .ref y9, .ref y10, .ref y11, .int Dd, .int Kn, .ref y12, .ref y13, .int My, .ref y14])), (y1, .inl (cI, 24, .inl u.1)), (y2, .inl (cZ, 24, .inl tr)), (y3, .inl (cJ, 24, .inr (.inl va))), (y4, .inl (cI, 24, .inl sn)), (y5, .inl (cI, 24, .inl ve)), (y6, .inl (cI, 24, .inl bi)), (y7, .inl (cI, 224, .inl rt)), (y8, .inl (cI, 224, .inl rq)), (y9, .inl (cZ, 224, .inl rh)), (y10, .inl (cJ, 224, .inr (.inl rv))), (y11, .inl (cI, 224, .inl rw_)), (y12, .inl (cI, 24, .inl tn)), (y13, .inl (cJ, 24, .inr (.inl tv))), (y14, .inl (cI, 24, .inl od))] t.heap) A) args s 0 0 A) (F0 mi 2 ls []) := by
    intro fu
    induction fu with
    | zero => intro f mo hpi Exi Txi b hmo hHb hTb hib hst hiv hn; exact absurd hn (Nat.not_lt_zero _)
    | succ fu ih2 =>
      intro f mo hpi Exi Txi b hmo hHb hTb hib hst hiv hn H locs hP hD hS ls hl
      obtain ⟨hbs, hbn, hba⟩ := id hHb
      refine lv_iload_n hx hb dX4_settles_2 rfl (lv_at hl 1 rfl) ?_
      refine x_if_eq (tgt := 128) hx hb dX4_settles_3 (by decide) (fun c3 => ?_) (fun c3 => ?_)
      · have hb0 : bkF h v Nw.toInt b n = 0 := by rcases hmo with q | q; omega; exact q.2
        exact x_vret hx hb hr hlocks hS (hpi, Exi, Txi) dX4_settles_128 (fun t ht => by rw [ht]; exact hP) (by have e9 : (stl h v Nw.toInt n 276 (a, Ex, Tx)) = (b, Exi, Txi) := (by rw [← hst]; exact stl_stop hb0); rw [e9]; exact ⟨hHb, rfl, rfl⟩)
      · refine x_iconst hx hb dX4_settles_6 (1) (by decide) (fun v6 e6 => ?_)
        refine lv_istore_n (lv' := [(2, .int v6), (0, .ref y0), (1, .int mo)]) hx hb dX4_settles_7 rfl hl (by decide) rfl (fun ls hl => ?_)
        have loop8 : ∀ (fu : Nat) (i : Nat) (x : Int32), (1 ≤ i) → (i ≤ n ∨ i = 1) → (x.toInt = (i : Int)) → (bkF h v Nw.toInt b i = 0) → (25 - i < fu) → ∀ (H : Heap) (locs : List Loc), va_P (dC, dI) vwCl [(y0, .inr (4, [.int Nw, .int Sz, .ref y1, .ref y2, .ref y3, .ref y4, .ref y5, .ref y6, .long Exi, .long St, .long Txi, .int Cn, .ref y7, .ref y8, .ref y9, .ref y10, .ref y11, .int Dd, .int Kn, .ref y12, .ref y13, .int My, .ref y14])), (y1, .inl (cI, 24, .inl hpi)), (y2, .inl (cZ, 24, .inl tr)), (y3, .inl (cJ, 24, .inr (.inl va))), (y4, .inl (cI, 24, .inl sn)), (y5, .inl (cI, 24, .inl ve)), (y6, .inl (cI, 24, .inl bi)), (y7, .inl (cI, 224, .inl rt)), (y8, .inl (cI, 224, .inl rq)), (y9, .inl (cZ, 224, .inl rh)), (y10, .inl (cJ, 224, .inr (.inl rv))), (y11, .inl (cI, 224, .inl rw_)), (y12, .inl (cI, 24, .inl tn)), (y13, .inl (cJ, 24, .inr (.inl tv))), (y14, .inl (cI, 24, .inl od))] H → va_D A [(y0, .inr (4, [.int Nw, .int Sz, .ref y1, .ref y2, .ref y3, .ref y4, .ref y5, .ref y6, .long Exi, .long St, .long Txi, .int Cn, .ref y7, .ref y8, .ref y9, .ref y10, .ref y11, .int Dd, .int Kn, .ref y12, .ref y13, .int My, .ref y14])), (y1, .inl (cI, 24, .inl hpi)), (y2, .inl (cZ, 24, .inl tr)), (y3, .inl (cJ, 24, .inr (.inl va))), (y4, .inl (cI, 24, .inl sn)), (y5, .inl (cI, 24, .inl ve)), (y6, .inl (cI, 24, .inl bi)), (y7, .inl (cI, 224, .inl rt)), (y8, .inl (cI, 224, .inl rq)), (y9, .inl (cZ, 224, .inl rh)), (y10, .inl (cJ, 224, .inr (.inl rv))), (y11, .inl (cI, 224, .inl rw_)), (y12, .inl (cI, 24, .inl tn)), (y13, .inl (cJ, 24, .inr (.inl tv))), (y14, .inl (cI, 24, .inl od))] → va_S A s.heap H locs → ∀ (ls : Array Slot), lv_has ls 5 [(0, .ref y0), (1, .int mo), (2, .int x)] → W pg l e (headSpec wsX4_settles ({ frames := 2, cells := 0, slots := 0, locals := 46 })).room s mi args below meth co H locs 0 0 (MQ below (va_Qv (fun (u : (Nat → Int32) × (Int64) × (Int64)) => HM u.1 Sz (stl h v Nw.toInt n 276 (a, Ex, Tx)).1 n ∧ u.2.1 = (stl h v Nw.toInt n 276 (a, Ex, Tx)).2.1 ∧ u.2.2 = (stl h v Nw.toInt n 276 (a, Ex, Tx)).2.2) (fun (u : (Nat → Int32) × (Int64) × (Int64)) t => va_P (dC, dI) vwCl [(y0, .inr (4, [.int Nw, .int Sz, .ref y1, .ref y2, .ref y3, .ref y4, .ref y5, .ref y6, .long u.2.1, .long St, .long u.2.2, .int Cn, .ref y7, .ref y8, .ref y9, .ref y10, .ref y11, .int Dd, .int Kn, .ref y12, .ref y13, .int My, .ref y14])), (y1, .inl (cI, 24, .inl u.1)), (y2, .inl (cZ, 24, .inl tr)), (y3, .inl (cJ, 24, .inr (.inl va))), (y4, .inl (cI, 24, .inl sn)), (y5, .inl (cI, 24, .inl ve)), (y6, .inl (cI, 24, .inl bi)), (y7, .inl (cI, 224, .inl rt)), (y8, .inl (cI, 224, .inl rq)), (y9, .inl (cZ, 224, .inl rh)), (y10, .inl (cJ, 224, .inr (.inl rv))), (y11, .inl (cI, 224, .inl rw_)), (y12, .inl (cI, 24, .inl tn)), (y13, .inl (cJ, 24, .inr (.inl tv))), (y14, .inl (cI, 24, .inl od))] t.heap) A) args s 0 0 A) (F0 mi 8 ls []) := by
          intro fu
          induction fu with
          | zero => intro i x hi1 hi hxi hno hn; exact absurd hn (Nat.not_lt_zero _)
          | succ fu ih8 =>
            intro i x hi1 hi hxi hno hn H locs hP hD hS ls hl
            refine lv_iload_n hx hb dX4_settles_8 rfl (lv_at hl 2 rfl) ?_
            refine lv_aload_n hx hb dX4_settles_9 rfl (lv_at hl 0 rfl) ?_
            refine va_get (D := (dC, dI)) (ci := 4) (v := .int Sz) (C := RX4) (T := TX4) (N := 23) hx hb hts (fun _ h => List.mem_cons_of_mem _ (List.mem_append_right _ h)) hown hK hP 0 rfl rfl 1 (by decide) (hts (.fieldLink RX4 78 "MovingHeapModel" "size" "I") (List.mem_of_getElem? (i := 1) rfl)) (fun _ h9 => h9) rfl dX4_settles_10 ?_
            refine x_icmp_ge (tgt := 45) hx hb dX4_settles_13 (by decide) (fun c13 => ?_) (fun c13 => ?_)
            · have hi2 : i = n ∨ (n = 0 ∧ i = 1) := by omega
              have hb0 : bkF h v Nw.toInt b n = 0 := by rcases hi2 with q | ⟨q1, q2⟩; (rw [← q]; exact hno); (rw [q1]; rfl)
              refine lv_iload_n hx hb dX4_settles_45 rfl (lv_at hl 2 rfl) ?_
              refine lv_aload_n hx hb dX4_settles_46 rfl (lv_at hl 0 rfl) ?_
              refine va_get (D := (dC, dI)) (ci := 4) (v := .int Sz) (C := RX4) (T := TX4) (N := 23) hx hb hts (fun _ h => List.mem_cons_of_mem _ (List.mem_append_right _ h)) hown hK hP 0 rfl rfl 1 (by decide) (hts (.fieldLink RX4 78 "MovingHeapModel" "size" "I") (List.mem_of_getElem? (i := 1) rfl)) (fun _ h9 => h9) rfl dX4_settles_47 ?_
              refine x_icmp_ge (tgt := 57) hx hb dX4_settles_50 (by decide) (fun c50 => ?_) (fun c50 => ?_)
              · refine x_iconst hx hb dX4_settles_57 (0) (by decide) (fun v57 e57 => ?_)
                refine lv_istore_n (lv' := [(1, .int v57), (0, .ref y0), (2, .int x)]) hx hb dX4_settles_58 rfl hl (by decide) rfl (fun ls hl => ?_)
                refine lv_iload_n hx hb dX4_settles_59 rfl (lv_at hl 0 rfl) ?_
                refine x_if_eq (tgt := 125) hx hb dX4_settles_60 (by decide) (fun c60 => ?_) (fun c60 => ?_)
                · refine lv_goto (tgt := 2) hx hb dX4_settles_125 (by decide) ?_
                  exact ih2 f v57 _ _ _ b (Or.inr ⟨by omega, hb0⟩) hHb hTb hib hst hiv (by omega) _ _ hP hD hS ls (lv_sub hl [1, 0] rfl)
                · exact absurd c60 (by omega)
              · exact absurd c50 (by omega)
            · have hbx := b_hi x
              have hHp := hba ((i - 1) / 2) (by omega)
              have hHk := hba i (by omega)
              have hin : i < n := by omega
              refine lv_aload_n hx hb dX4_settles_16 rfl (lv_at hl 0 rfl) ?_
              refine lv_aload_n hx hb dX4_settles_17 rfl (lv_at hl 0 rfl) ?_
              refine va_get (D := (dC, dI)) (ci := 4) (v := .ref y1) (C := RX4) (T := TX4) (N := 23) hx hb hts (fun _ h => List.mem_cons_of_mem _ (List.mem_append_right _ h)) hown hK hP 0 rfl rfl 2 (by decide) (hts (.fieldLink RX4 7 "MovingHeapModel" "heap" "[I") (List.mem_of_getElem? (i := 2) rfl)) (fun _ h9 => h9) rfl dX4_settles_18 ?_
              refine lv_iload_n hx hb dX4_settles_21 rfl (lv_at hl 2 rfl) ?_
              refine x_iconst hx hb dX4_settles_22 (1) (by decide) (fun v22 e22 => ?_)
              refine x_isub hx hb dX4_settles_23 (by omega) (by omega) (fun v23 e23 => ?_)
              refine x_iconst hx hb dX4_settles_24 (2) (by decide) (fun v24 e24 => ?_)
              refine x_idiv hx hb dX4_settles_25 (by omega) (by omega) (fun v25 e25 => ?_)
              rw [e24, e23] at e25
              refine x_iald hx hb hK hP 1 0 rfl rfl (((i - 1) / 2)) (by omega) (by omega) dX4_settles_26 ?_
              refine lv_aload_n hx hb dX4_settles_27 rfl (lv_at hl 0 rfl) ?_
              refine va_get (D := (dC, dI)) (ci := 4) (v := .ref y1) (C := RX4) (T := TX4) (N := 23) hx hb hts (fun _ h => List.mem_cons_of_mem _ (List.mem_append_right _ h)) hown hK hP 0 rfl rfl 2 (by decide) (hts (.fieldLink RX4 7 "MovingHeapModel" "heap" "[I") (List.mem_of_getElem? (i := 2) rfl)) (fun _ h9 => h9) rfl dX4_settles_28 ?_
              refine lv_iload_n hx hb dX4_settles_31 rfl (lv_at hl 2 rfl) ?_
              refine x_iald hx hb hK hP 1 0 rfl rfl (i) hxi (by omega) dX4_settles_32 ?_
              have hPc := hP.sub (ws' := [(y0, .inr (4, [.int Nw, .int Sz, .ref y1, .ref y2, .ref y3, .ref y4, .ref y5, .ref y6, .long Exi, .long St, .long Txi, .int Cn, .ref y7, .ref y8, .ref y9, .ref y10, .ref y11, .int Dd, .int Kn, .ref y12, .ref y13, .int My, .ref y14])), (y1, .inl (cI, 24, .inl hpi)), (y2, .inl (cZ, 24, .inl tr)), (y3, .inl (cJ, 24, .inr (.inl va))), (y4, .inl (cI, 24, .inl sn)), (y5, .inl (cI, 24, .inl ve)), (y6, .inl (cI, 24, .inl bi)), (y7, .inl (cI, 224, .inl rt)), (y8, .inl (cI, 224, .inl rq)), (y9, .inl (cZ, 224, .inl rh)), (y10, .inl (cJ, 224, .inr (.inl rv))), (y11, .inl (cI, 224, .inl rw_)), (y12, .inl (cI, 24, .inl tn)), (y13, .inl (cJ, 24, .inr (.inl tv))), (y14, .inl (cI, 24, .inl od))]) [0, 1, 2, 3, 4, 5, 6, 7, 8, 9, 10, 11, 12, 13, 14] rfl
              refine x_calli (va_runV (As := [.int (hpi (((i - 1) / 2))), .int (hpi i)]) (rest := []) ⟨hx, hb, hml, hown, hts⟩ (c_X4_isBefore l dC dI cI cJ cZ y0 y1 y2 y3 y4 y5 y6 y7 y8 y9 y10 y11 y12 y13 y14 H.size hpi tr va sn ve bi Nw Sz Exi St Txi Cn rt rq rh rv rw_ Dd Kn tn tv My od th h v hM hn0 hn1 (hpi ((i - 1) / 2)) (hpi i) (b ((i - 1) / 2)) (b i) hHp.1 hHk.1 hHp.2 hHk.2 (hTb _ (by omega)) (hTb _ hin)) (cwV 2 hts gX4_settles_X4_isBefore rfl rfl rfl (by decide +kernel) ⟨Nat.le_of_ble_eq_true rfl, Nat.le_of_ble_eq_true rfl⟩) ⟨x_Bb, va_recv hK hP (ci := 4) (q0 := 0) rfl rfl, (fun U hU hW => ⟨rfl, by rw [hU], by rw [hU]; exact hPc, va_K.moved hW.alike hK⟩)⟩ rfl rfl hl.1 rfl (lv_room (Nat.le_of_ble_eq_true rfl)) dX4_settles_33 ⟨Nat.zero_le _, Nat.zero_le _⟩) hS hA hP (fun v33 _ H locs h33 hP hS => ?_)
              refine x_if_eq (tgt := 45) hx hb dX4_settles_36 (by decide) (fun c36 => ?_) (fun c36 => ?_)
              · have hnb : ¬ bef h v Nw.toInt (b ((i - 1) / 2)) (b i) := by rcases h33 with q | q; omega; exact q.2
                have hbi : bkF h v Nw.toInt b n = i := bk_at hno hi1 hin hnb
                have hne9 : b ((i - 1) / 2) ≠ b i := fun q => by have := hib _ _ (by omega) hin q; omega
                have hlt := iv_lt (h := h) (v := v) (t := Nw.toInt) (a := b) (n := n) (i0 := (i - 1) / 2) (j0 := i) (by omega) hin (bf_to hne9 hnb)
                refine lv_iload_n hx hb dX4_settles_45 rfl (lv_at hl 2 rfl) ?_
                refine lv_aload_n hx hb dX4_settles_46 rfl (lv_at hl 0 rfl) ?_
                refine va_get (D := (dC, dI)) (ci := 4) (v := .int Sz) (C := RX4) (T := TX4) (N := 23) hx hb hts (fun _ h => List.mem_cons_of_mem _ (List.mem_append_right _ h)) hown hK hP 0 rfl rfl 1 (by decide) (hts (.fieldLink RX4 78 "MovingHeapModel" "size" "I") (List.mem_of_getElem? (i := 1) rfl)) (fun _ h9 => h9) rfl dX4_settles_47 ?_
                refine x_icmp_ge (tgt := 57) hx hb dX4_settles_50 (by decide) (fun c50 => ?_) (fun c50 => ?_)
                · exact absurd c50 (by omega)
                · refine x_iconst hx hb dX4_settles_53 (1) (by decide) (fun v53 e53 => ?_)
                  refine lv_goto (tgt := 58) hx hb dX4_settles_54 (by decide) ?_
                  refine lv_istore_n (lv' := [(1, .int v53), (0, .ref y0), (2, .int x)]) hx hb dX4_settles_58 rfl hl (by decide) rfl (fun ls hl => ?_)
                  refine lv_iload_n hx hb dX4_settles_59 rfl (lv_at hl 0 rfl) ?_
                  refine x_if_eq (tgt := 125) hx hb dX4_settles_60 (by decide) (fun c60 => ?_) (fun c60 => ?_)
                  · exact absurd c60 (by omega)
                  · refine lv_iload_n hx hb dX4_settles_63 rfl (lv_at hl 2 rfl) ?_
                    refine x_iconst hx hb dX4_settles_64 (1) (by decide) (fun v64 e64 => ?_)
                    refine x_isub hx hb dX4_settles_65 (by omega) (by omega) (fun v65 e65 => ?_)
                    refine x_iconst hx hb dX4_settles_66 (2) (by decide) (fun v66 e66 => ?_)
                    refine x_idiv hx hb dX4_settles_67 (by omega) (by omega) (fun v67 e67 => ?_)
                    rw [e66, e65] at e67
                    refine lv_istore_n (lv' := [(3, .int v67), (1, .int v53), (0, .ref y0), (2, .int x)]) hx hb dX4_settles_68 rfl hl (by decide) rfl (fun ls hl => ?_)
                    refine lv_aload_n hx hb dX4_settles_69 rfl (lv_at hl 2 rfl) ?_
                    refine va_get (D := (dC, dI)) (ci := 4) (v := .ref y1) (C := RX4) (T := TX4) (N := 23) hx hb hts (fun _ h => List.mem_cons_of_mem _ (List.mem_append_right _ h)) hown hK hP 0 rfl rfl 2 (by decide) (hts (.fieldLink RX4 7 "MovingHeapModel" "heap" "[I") (List.mem_of_getElem? (i := 2) rfl)) (fun _ h9 => h9) rfl dX4_settles_70 ?_
                    refine lv_iload_n hx hb dX4_settles_73 rfl (lv_at hl 0 rfl) ?_
                    refine x_iald hx hb hK hP 1 0 rfl rfl (((i - 1) / 2)) (by omega) (by omega) dX4_settles_74 ?_
                    refine lv_istore (lv' := [(4, .int (hpi (((i - 1) / 2)))), (3, .int v67), (1, .int v53), (0, .ref y0), (2, .int x)]) hx hb dX4_settles_75 hl (by decide) rfl (fun ls hl => ?_)
                    refine lv_aload_n hx hb dX4_settles_77 rfl (lv_at hl 3 rfl) ?_
                    refine va_get (D := (dC, dI)) (ci := 4) (v := .ref y1) (C := RX4) (T := TX4) (N := 23) hx hb hts (fun _ h => List.mem_cons_of_mem _ (List.mem_append_right _ h)) hown hK hP 0 rfl rfl 2 (by decide) (hts (.fieldLink RX4 7 "MovingHeapModel" "heap" "[I") (List.mem_of_getElem? (i := 2) rfl)) (fun _ h9 => h9) rfl dX4_settles_78 ?_
                    refine lv_iload_n hx hb dX4_settles_81 rfl (lv_at hl 1 rfl) ?_
                    refine lv_aload_n hx hb dX4_settles_82 rfl (lv_at hl 3 rfl) ?_
                    refine va_get (D := (dC, dI)) (ci := 4) (v := .ref y1) (C := RX4) (T := TX4) (N := 23) hx hb hts (fun _ h => List.mem_cons_of_mem _ (List.mem_append_right _ h)) hown hK hP 0 rfl rfl 2 (by decide) (hts (.fieldLink RX4 7 "MovingHeapModel" "heap" "[I") (List.mem_of_getElem? (i := 2) rfl)) (fun _ h9 => h9) rfl dX4_settles_83 ?_
                    refine lv_iload_n hx hb dX4_settles_86 rfl (lv_at hl 4 rfl) ?_
                    refine x_iald hx hb hK hP 1 0 rfl rfl (i) hxi (by omega) dX4_settles_87 ?_
                    refine x_iast hx hb hK hP hD hS 1 0 rfl rfl (((i - 1) / 2)) (by omega) (by omega) dX4_settles_88 (fun H locs hP hD hS => ?_)
                    have hP : va_P (dC, dI) vwCl [(y0, .inr (4, [.int Nw, .int Sz, .ref y1, .ref y2, .ref y3, .ref y4, .ref y5, .ref y6, .long Exi, .long St, .long Txi, .int Cn, .ref y7, .ref y8, .ref y9, .ref y10, .ref y11, .int Dd, .int Kn, .ref y12, .ref y13, .int My, .ref y14])), (y1, .inl (cI, 24, .inl (upd hpi (((i - 1) / 2)) (hpi i)))), (y2, .inl (cZ, 24, .inl tr)), (y3, .inl (cJ, 24, .inr (.inl va))), (y4, .inl (cI, 24, .inl sn)), (y5, .inl (cI, 24, .inl ve)), (y6, .inl (cI, 24, .inl bi)), (y7, .inl (cI, 224, .inl rt)), (y8, .inl (cI, 224, .inl rq)), (y9, .inl (cZ, 224, .inl rh)), (y10, .inl (cJ, 224, .inr (.inl rv))), (y11, .inl (cI, 224, .inl rw_)), (y12, .inl (cI, 24, .inl tn)), (y13, .inl (cJ, 24, .inr (.inl tv))), (y14, .inl (cI, 24, .inl od))] H := hP
                    have hD : va_D A [(y0, .inr (4, [.int Nw, .int Sz, .ref y1, .ref y2, .ref y3, .ref y4, .ref y5, .ref y6, .long Exi, .long St, .long Txi, .int Cn, .ref y7, .ref y8, .ref y9, .ref y10, .ref y11, .int Dd, .int Kn, .ref y12, .ref y13, .int My, .ref y14])), (y1, .inl (cI, 24, .inl (upd hpi (((i - 1) / 2)) (hpi i)))), (y2, .inl (cZ, 24, .inl tr)), (y3, .inl (cJ, 24, .inr (.inl va))), (y4, .inl (cI, 24, .inl sn)), (y5, .inl (cI, 24, .inl ve)), (y6, .inl (cI, 24, .inl bi)), (y7, .inl (cI, 224, .inl rt)), (y8, .inl (cI, 224, .inl rq)), (y9, .inl (cZ, 224, .inl rh)), (y10, .inl (cJ, 224, .inr (.inl rv))), (y11, .inl (cI, 224, .inl rw_)), (y12, .inl (cI, 24, .inl tn)), (y13, .inl (cJ, 24, .inr (.inl tv))), (y14, .inl (cI, 24, .inl od))] := hD
                    refine lv_aload_n hx hb dX4_settles_89 rfl (lv_at hl 3 rfl) ?_
                    refine va_get (D := (dC, dI)) (ci := 4) (v := .ref y1) (C := RX4) (T := TX4) (N := 23) hx hb hts (fun _ h => List.mem_cons_of_mem _ (List.mem_append_right _ h)) hown hK hP 0 rfl rfl 2 (by decide) (hts (.fieldLink RX4 7 "MovingHeapModel" "heap" "[I") (List.mem_of_getElem? (i := 2) rfl)) (fun _ h9 => h9) rfl dX4_settles_90 ?_
                    refine lv_iload_n hx hb dX4_settles_93 rfl (lv_at hl 4 rfl) ?_
                    refine lv_iload hx hb dX4_settles_94 (lv_at hl 0 rfl) ?_
                    refine x_iast hx hb hK hP hD hS 1 0 rfl rfl (i) hxi (by omega) dX4_settles_96 (fun H locs hP hD hS => ?_)
                    have hP : va_P (dC, dI) vwCl [(y0, .inr (4, [.int Nw, .int Sz, .ref y1, .ref y2, .ref y3, .ref y4, .ref y5, .ref y6, .long Exi, .long St, .long Txi, .int Cn, .ref y7, .ref y8, .ref y9, .ref y10, .ref y11, .int Dd, .int Kn, .ref y12, .ref y13, .int My, .ref y14])), (y1, .inl (cI, 24, .inl (upd (upd hpi (((i - 1) / 2)) (hpi i)) i (hpi (((i - 1) / 2)))))), (y2, .inl (cZ, 24, .inl tr)), (y3, .inl (cJ, 24, .inr (.inl va))), (y4, .inl (cI, 24, .inl sn)), (y5, .inl (cI, 24, .inl ve)), (y6, .inl (cI, 24, .inl bi)), (y7, .inl (cI, 224, .inl rt)), (y8, .inl (cI, 224, .inl rq)), (y9, .inl (cZ, 224, .inl rh)), (y10, .inl (cJ, 224, .inr (.inl rv))), (y11, .inl (cI, 224, .inl rw_)), (y12, .inl (cI, 24, .inl tn)), (y13, .inl (cJ, 24, .inr (.inl tv))), (y14, .inl (cI, 24, .inl od))] H := hP
                    have hD : va_D A [(y0, .inr (4, [.int Nw, .int Sz, .ref y1, .ref y2, .ref y3, .ref y4, .ref y5, .ref y6, .long Exi, .long St, .long Txi, .int Cn, .ref y7, .ref y8, .ref y9, .ref y10, .ref y11, .int Dd, .int Kn, .ref y12, .ref y13, .int My, .ref y14])), (y1, .inl (cI, 24, .inl (upd (upd hpi (((i - 1) / 2)) (hpi i)) i (hpi (((i - 1) / 2)))))), (y2, .inl (cZ, 24, .inl tr)), (y3, .inl (cJ, 24, .inr (.inl va))), (y4, .inl (cI, 24, .inl sn)), (y5, .inl (cI, 24, .inl ve)), (y6, .inl (cI, 24, .inl bi)), (y7, .inl (cI, 224, .inl rt)), (y8, .inl (cI, 224, .inl rq)), (y9, .inl (cZ, 224, .inl rh)), (y10, .inl (cJ, 224, .inr (.inl rv))), (y11, .inl (cI, 224, .inl rw_)), (y12, .inl (cI, 24, .inl tn)), (y13, .inl (cJ, 24, .inr (.inl tv))), (y14, .inl (cI, 24, .inl od))] := hD
                    refine lv_aload_n hx hb dX4_settles_97 rfl (lv_at hl 3 rfl) ?_
                    refine lv_dup hx hb dX4_settles_98 rfl ?_
                    refine va_get (D := (dC, dI)) (ci := 4) (v := .long Exi) (C := RX4) (T := TX4) (N := 23) hx hb hts (fun _ h => List.mem_cons_of_mem _ (List.mem_append_right _ h)) hown hK hP 0 rfl rfl 8 (by decide) (hts (.fieldLink RX4 81 "MovingHeapModel" "exchanges" "J") (List.mem_of_getElem? (i := 3) rfl)) (fun _ h9 => h9) rfl dX4_settles_99 ?_
                    refine x_lconst hx hb dX4_settles_102 (1) (by decide) (fun v102 e102 => ?_)
                    refine lv_ladd hx hb dX4_settles_103 ?_
                    refine lv_topl (fun v103 e103 => ?_)
                    refine va_put (D := (dC, dI)) (ci := 4) (v := .long v103) (ty := .long) (C := RX4) (T := TX4) (N := 23) hx hb hts (fun _ h => List.mem_cons_of_mem _ (List.mem_append_right _ h)) tyX4 tyX4_ok nmX4 hown hK hP hD hS 0 rfl rfl 8 (by decide) (hts (.fieldLink RX4 81 "MovingHeapModel" "exchanges" "J") (List.mem_of_getElem? (i := 3) rfl)) (fun _ h9 => h9) rfl (by decide +kernel) rfl rfl (Nat.le_of_ble_eq_true rfl) dX4_settles_104 (fun H locs hP hD hS => ?_)
                    have hP : va_P (dC, dI) vwCl [(y0, .inr (4, [.int Nw, .int Sz, .ref y1, .ref y2, .ref y3, .ref y4, .ref y5, .ref y6, .long v103, .long St, .long Txi, .int Cn, .ref y7, .ref y8, .ref y9, .ref y10, .ref y11, .int Dd, .int Kn, .ref y12, .ref y13, .int My, .ref y14])), (y1, .inl (cI, 24, .inl (upd (upd hpi (((i - 1) / 2)) (hpi i)) i (hpi (((i - 1) / 2)))))), (y2, .inl (cZ, 24, .inl tr)), (y3, .inl (cJ, 24, .inr (.inl va))), (y4, .inl (cI, 24, .inl sn)), (y5, .inl (cI, 24, .inl ve)), (y6, .inl (cI, 24, .inl bi)), (y7, .inl (cI, 224, .inl rt)), (y8, .inl (cI, 224, .inl rq)), (y9, .inl (cZ, 224, .inl rh)), (y10, .inl (cJ, 224, .inr (.inl rv))), (y11, .inl (cI, 224, .inl rw_)), (y12, .inl (cI, 24, .inl tn)), (y13, .inl (cJ, 24, .inr (.inl tv))), (y14, .inl (cI, 24, .inl od))] H := hP
                    have hD : va_D A [(y0, .inr (4, [.int Nw, .int Sz, .ref y1, .ref y2, .ref y3, .ref y4, .ref y5, .ref y6, .long v103, .long St, .long Txi, .int Cn, .ref y7, .ref y8, .ref y9, .ref y10, .ref y11, .int Dd, .int Kn, .ref y12, .ref y13, .int My, .ref y14])), (y1, .inl (cI, 24, .inl (upd (upd hpi (((i - 1) / 2)) (hpi i)) i (hpi (((i - 1) / 2)))))), (y2, .inl (cZ, 24, .inl tr)), (y3, .inl (cJ, 24, .inr (.inl va))), (y4, .inl (cI, 24, .inl sn)), (y5, .inl (cI, 24, .inl ve)), (y6, .inl (cI, 24, .inl bi)), (y7, .inl (cI, 224, .inl rt)), (y8, .inl (cI, 224, .inl rq)), (y9, .inl (cZ, 224, .inl rh)), (y10, .inl (cJ, 224, .inr (.inl rv))), (y11, .inl (cI, 224, .inl rw_)), (y12, .inl (cI, 24, .inl tn)), (y13, .inl (cJ, 24, .inr (.inl tv))), (y14, .inl (cI, 24, .inl od))] := hD
                    refine lv_aload_n hx hb dX4_settles_107 rfl (lv_at hl 3 rfl) ?_
                    refine lv_dup hx hb dX4_settles_108 rfl ?_
                    refine va_get (D := (dC, dI)) (ci := 4) (v := .long Txi) (C := RX4) (T := TX4) (N := 23) hx hb hts (fun _ h => List.mem_cons_of_mem _ (List.mem_append_right _ h)) hown hK hP 0 rfl rfl 10 (by decide) (hts (.fieldLink RX4 85 "MovingHeapModel" "topExchanges" "J") (List.mem_of_getElem? (i := 4) rfl)) (fun _ h9 => h9) rfl dX4_settles_109 ?_
                    refine lv_iload_n hx hb dX4_settles_112 rfl (lv_at hl 1 rfl) ?_
                    refine x_if_ne (tgt := 120) hx hb dX4_settles_113 (by decide) (fun c113 => ?_) (fun c113 => ?_)
                    · refine x_lconst hx hb dX4_settles_120 (0) (by decide) (fun v120 e120 => ?_)
                      refine lv_ladd hx hb dX4_settles_121 ?_
                      refine lv_topl (fun v121 e121 => ?_)
                      refine va_put (D := (dC, dI)) (ci := 4) (v := .long v121) (ty := .long) (C := RX4) (T := TX4) (N := 23) hx hb hts (fun _ h => List.mem_cons_of_mem _ (List.mem_append_right _ h)) tyX4 tyX4_ok nmX4 hown hK hP hD hS 0 rfl rfl 10 (by decide) (hts (.fieldLink RX4 85 "MovingHeapModel" "topExchanges" "J") (List.mem_of_getElem? (i := 4) rfl)) (fun _ h9 => h9) rfl (by decide +kernel) rfl rfl (Nat.le_of_ble_eq_true rfl) dX4_settles_122 (fun H locs hP hD hS => ?_)
                      have hP : va_P (dC, dI) vwCl [(y0, .inr (4, [.int Nw, .int Sz, .ref y1, .ref y2, .ref y3, .ref y4, .ref y5, .ref y6, .long v103, .long St, .long v121, .int Cn, .ref y7, .ref y8, .ref y9, .ref y10, .ref y11, .int Dd, .int Kn, .ref y12, .ref y13, .int My, .ref y14])), (y1, .inl (cI, 24, .inl (upd (upd hpi (((i - 1) / 2)) (hpi i)) i (hpi (((i - 1) / 2)))))), (y2, .inl (cZ, 24, .inl tr)), (y3, .inl (cJ, 24, .inr (.inl va))), (y4, .inl (cI, 24, .inl sn)), (y5, .inl (cI, 24, .inl ve)), (y6, .inl (cI, 24, .inl bi)), (y7, .inl (cI, 224, .inl rt)), (y8, .inl (cI, 224, .inl rq)), (y9, .inl (cZ, 224, .inl rh)), (y10, .inl (cJ, 224, .inr (.inl rv))), (y11, .inl (cI, 224, .inl rw_)), (y12, .inl (cI, 24, .inl tn)), (y13, .inl (cJ, 24, .inr (.inl tv))), (y14, .inl (cI, 24, .inl od))] H := hP
                      have hD : va_D A [(y0, .inr (4, [.int Nw, .int Sz, .ref y1, .ref y2, .ref y3, .ref y4, .ref y5, .ref y6, .long v103, .long St, .long v121, .int Cn, .ref y7, .ref y8, .ref y9, .ref y10, .ref y11, .int Dd, .int Kn, .ref y12, .ref y13, .int My, .ref y14])), (y1, .inl (cI, 24, .inl (upd (upd hpi (((i - 1) / 2)) (hpi i)) i (hpi (((i - 1) / 2)))))), (y2, .inl (cZ, 24, .inl tr)), (y3, .inl (cJ, 24, .inr (.inl va))), (y4, .inl (cI, 24, .inl sn)), (y5, .inl (cI, 24, .inl ve)), (y6, .inl (cI, 24, .inl bi)), (y7, .inl (cI, 224, .inl rt)), (y8, .inl (cI, 224, .inl rq)), (y9, .inl (cZ, 224, .inl rh)), (y10, .inl (cJ, 224, .inr (.inl rv))), (y11, .inl (cI, 224, .inl rw_)), (y12, .inl (cI, 24, .inl tn)), (y13, .inl (cJ, 24, .inr (.inl tv))), (y14, .inl (cI, 24, .inl od))] := hD
                      refine lv_goto (tgt := 2) hx hb dX4_settles_125 (by decide) ?_
                      exact ih2 (f - 1) v53 _ _ _ (sw b ((i - 1) / 2) i) (Or.inl (by omega)) (hm_sw hHb hi1 hin) (ht_sw hTb hin hi1) (sw_inj (by omega) hib (by omega) hin) (by rw [← hst, show f = (f - 1) + 1 by omega]; show _ = (if bkF h v Nw.toInt b n = 0 then _ else _); rw [if_neg (by omega), hbi]; unfold xch; dsimp only; rw [e103, b_leq (x := v102) (y := 1) e102, if_neg (by omega), e121, l_add0 _ e120]; rfl) (by omega) (by omega) _ _ hP hD hS ls (lv_sub hl [3, 2] rfl)
                    · refine x_lconst hx hb dX4_settles_116 (1) (by decide) (fun v116 e116 => ?_)
                      refine lv_goto (tgt := 121) hx hb dX4_settles_117 (by decide) ?_
                      refine lv_ladd hx hb dX4_settles_121 ?_
                      refine lv_topl (fun v121 e121 => ?_)
                      refine va_put (D := (dC, dI)) (ci := 4) (v := .long v121) (ty := .long) (C := RX4) (T := TX4) (N := 23) hx hb hts (fun _ h => List.mem_cons_of_mem _ (List.mem_append_right _ h)) tyX4 tyX4_ok nmX4 hown hK hP hD hS 0 rfl rfl 10 (by decide) (hts (.fieldLink RX4 85 "MovingHeapModel" "topExchanges" "J") (List.mem_of_getElem? (i := 4) rfl)) (fun _ h9 => h9) rfl (by decide +kernel) rfl rfl (Nat.le_of_ble_eq_true rfl) dX4_settles_122 (fun H locs hP hD hS => ?_)
                      have hP : va_P (dC, dI) vwCl [(y0, .inr (4, [.int Nw, .int Sz, .ref y1, .ref y2, .ref y3, .ref y4, .ref y5, .ref y6, .long v103, .long St, .long v121, .int Cn, .ref y7, .ref y8, .ref y9, .ref y10, .ref y11, .int Dd, .int Kn, .ref y12, .ref y13, .int My, .ref y14])), (y1, .inl (cI, 24, .inl (upd (upd hpi (((i - 1) / 2)) (hpi i)) i (hpi (((i - 1) / 2)))))), (y2, .inl (cZ, 24, .inl tr)), (y3, .inl (cJ, 24, .inr (.inl va))), (y4, .inl (cI, 24, .inl sn)), (y5, .inl (cI, 24, .inl ve)), (y6, .inl (cI, 24, .inl bi)), (y7, .inl (cI, 224, .inl rt)), (y8, .inl (cI, 224, .inl rq)), (y9, .inl (cZ, 224, .inl rh)), (y10, .inl (cJ, 224, .inr (.inl rv))), (y11, .inl (cI, 224, .inl rw_)), (y12, .inl (cI, 24, .inl tn)), (y13, .inl (cJ, 24, .inr (.inl tv))), (y14, .inl (cI, 24, .inl od))] H := hP
                      have hD : va_D A [(y0, .inr (4, [.int Nw, .int Sz, .ref y1, .ref y2, .ref y3, .ref y4, .ref y5, .ref y6, .long v103, .long St, .long v121, .int Cn, .ref y7, .ref y8, .ref y9, .ref y10, .ref y11, .int Dd, .int Kn, .ref y12, .ref y13, .int My, .ref y14])), (y1, .inl (cI, 24, .inl (upd (upd hpi (((i - 1) / 2)) (hpi i)) i (hpi (((i - 1) / 2)))))), (y2, .inl (cZ, 24, .inl tr)), (y3, .inl (cJ, 24, .inr (.inl va))), (y4, .inl (cI, 24, .inl sn)), (y5, .inl (cI, 24, .inl ve)), (y6, .inl (cI, 24, .inl bi)), (y7, .inl (cI, 224, .inl rt)), (y8, .inl (cI, 224, .inl rq)), (y9, .inl (cZ, 224, .inl rh)), (y10, .inl (cJ, 224, .inr (.inl rv))), (y11, .inl (cI, 224, .inl rw_)), (y12, .inl (cI, 24, .inl tn)), (y13, .inl (cJ, 24, .inr (.inl tv))), (y14, .inl (cI, 24, .inl od))] := hD
                      refine lv_goto (tgt := 2) hx hb dX4_settles_125 (by decide) ?_
                      exact ih2 (f - 1) v53 _ _ _ (sw b ((i - 1) / 2) i) (Or.inl (by omega)) (hm_sw hHb hi1 hin) (ht_sw hTb hin hi1) (sw_inj (by omega) hib (by omega) hin) (by rw [← hst, show f = (f - 1) + 1 by omega]; show _ = (if bkF h v Nw.toInt b n = 0 then _ else _); rw [if_neg (by omega), hbi]; unfold xch; dsimp only; rw [e103, b_leq (x := v102) (y := 1) e102, if_pos (by omega), e121, b_leq (x := v116) (y := 1) e116]; rfl) (by omega) (by omega) _ _ hP hD hS ls (lv_sub hl [3, 2] rfl)
              · refine x_iinc (k := 2) hx hb (1) (by decide) dX4_settles_39 hl rfl (by decide) (by omega) (by omega) (fun v39 ls e39 hl => ?_)
                have hl : lv_has ls 5 [(2, .int v39), (0, .ref y0), (1, .int mo)] := hl
                refine lv_goto (tgt := 8) hx hb dX4_settles_42 (by decide) ?_
                exact ih8 (i + 1) v39 (by omega) (by omega) (by omega) (by unfold bkF; rw [if_neg (by omega), if_neg (by rcases h33 with q | q; (exact fun z => z.2 q.2); omega)]) (by omega) _ _ hP hD hS ls (lv_sub hl [1, 2, 0] rfl)
        exact loop8 (_ + 1) 1 v6 (Nat.le_refl _) (Or.inr rfl) (by omega) rfl (Nat.lt_succ_self _) _ _ hP hD hS ls (lv_sub hl [1, 2, 0] rfl)
  exact loop2 (_ + 1) 276 v0 hp Ex Tx a (Or.inl e0) hH hT hinj rfl (iv_276 h v Nw.toInt a hH.2.1) (Nat.lt_succ_self _) _ _ hP hD hS ls (lv_sub hl [1, 0] rfl)
--== X4_settles
