/-! CONTRACTS of Lines (X2)  -/
set_option maxHeartbeats 4000000 in
set_option maxRecDepth 100000 in
theorem c_X2_number (l : Launch) (dC : Nat → ClassId) (dI : Nat → Nat → Nat) (cI cJ cZ : ClassId) (q0 q1 q2 q3 : Nat) (sz : Nat) (T : Nat → Int32) (G : Nat → Int64) (V : Nat → Int32) (N : Int32) : Met l yX2_number wsX2_number ({ frames := 0, cells := 0, slots := 0, locals := 0 }) (va_Pc [.ref q0] (x_B (dC, dI) vwCl (tysN cI cJ cZ) [(q0, .inr (2, [.ref q1, .ref q2, .ref q3, .int N])), (q1, .inl (cZ, 24, .inl T)), (q2, .inl (cJ, 24, .inr (.inl G))), (q3, .inl (cI, 24, .inl V))] sz)) (va_Qi (fun (r : Int32) (_ : Unit) => r = N) (fun _ _ => True) (va_A [] sz)) 0 0 (va_A [] sz) := by
  refine x_ofR (cc := cX2_number) (maxL := 1) (ret := (some .int)) (own := RX2) (by decide) rfl rfl (Nat.le_of_ble_eq_true rfl) (lvs := [(0, .ref q0)]) rfl ?_
  intro pg e s mi args below meth co hx hb hr hml hown hts hlocks hsz hP hK ls hl
  subst hsz
  generalize hAe : (va_A [] s.heap.size) = A
  have hA : ∀ q : Nat, s.heap.size ≤ q → A q := fun q h => by rw [← hAe]; exact Or.inr h
  have hS : va_S A s.heap s.heap [] := va_S.rf
  refine lv_aload_n hx hb dX2_number_0 rfl (lv_at hl 0 rfl) ?_
  refine va_get (D := (dC, dI)) (ci := 2) (v := .int N) (C := RX2) (T := TX2) (N := 4) hx hb hts (fun _ h => List.mem_cons_of_mem _ (List.mem_append_right _ h)) hown hK hP 0 rfl rfl 3 (by decide) (hts (.fieldLink RX2 23 "MovingHeap$Lines" "number" "I") (List.mem_of_getElem? (i := 1) rfl)) (fun _ h9 => h9) rfl dX2_number_1 ?_
  exact x_iret hx hb hr hlocks hS () dX2_number_4 (fun t ht => trivial) rfl
--== X2_number
set_option maxHeartbeats 4000000 in
set_option maxRecDepth 100000 in
theorem c_X2_has (l : Launch) (dC : Nat → ClassId) (dI : Nat → Nat → Nat) (cI cJ cZ : ClassId) (q0 q1 q2 q3 : Nat) (sz : Nat) (T : Nat → Int32) (G : Nat → Int64) (V : Nat → Int32) (N : Int32) (th : Nat → Bool) (h v : Nat → Int) (hL : LOK T G V th h v) (x : Int32) : Met l yX2_has wsX2_has ({ frames := 0, cells := 0, slots := 0, locals := 0 }) (va_Pc [.ref q0, .int x] (x_B (dC, dI) vwCl (tysN cI cJ cZ) [(q0, .inr (2, [.ref q1, .ref q2, .ref q3, .int N])), (q1, .inl (cZ, 24, .inl T)), (q2, .inl (cJ, 24, .inr (.inl G))), (q3, .inl (cI, 24, .inl V))] sz)) (va_Qi (fun (r : Int32) (_ : Unit) => (r.toInt = 1 ∧ ∃ p : Nat, p < 24 ∧ x.toInt = (p : Int) ∧ th p = true) ∨ (r.toInt = 0 ∧ ∀ p : Nat, p < 24 → x.toInt = (p : Int) → th p = false)) (fun _ _ => True) (va_A [] sz)) 0 0 (va_A [] sz) := by
  refine x_ofR (cc := cX2_has) (maxL := 2) (ret := (some .boolean)) (own := RX2) (by decide) rfl rfl (Nat.le_of_ble_eq_true rfl) (lvs := [(0, .ref q0), (1, .int x)]) rfl ?_
  intro pg e s mi args below meth co hx hb hr hml hown hts hlocks hsz hP hK ls hl
  subst hsz
  generalize hAe : (va_A [] s.heap.size) = A
  have hA : ∀ q : Nat, s.heap.size ≤ q → A q := fun q h => by rw [← hAe]; exact Or.inr h
  have hS : va_S A s.heap s.heap [] := va_S.rf
  refine lv_iload_n hx hb dX2_has_0 rfl (lv_at hl 1 rfl) ?_
  refine x_if_lt (tgt := 23) hx hb dX2_has_1 (by decide) (fun c1 => ?_) (fun c1 => ?_)
  · refine x_iconst hx hb dX2_has_23 (0) (by decide) (fun v23 e23 => ?_)
    exact x_zret hx hb hr hlocks hS () dX2_has_24 (fun t ht => trivial) (by omega) (by first | exact Or.inl ⟨by omega, p, by omega, hp, hth⟩ | exact Or.inr ⟨by omega, fun k hk hx => by first | (have e9 : k = p := (by omega); subst e9; exact hth) | exact absurd hx (by omega)⟩)
  · refine lv_iload_n hx hb dX2_has_4 rfl (lv_at hl 1 rfl) ?_
    refine x_bipush hx hb dX2_has_5 (24) (by decide) (fun v5 e5 => ?_)
    refine x_icmp_ge (tgt := 23) hx hb dX2_has_7 (by decide) (fun c7 => ?_) (fun c7 => ?_)
    · refine x_iconst hx hb dX2_has_23 (0) (by decide) (fun v23 e23 => ?_)
      exact x_zret hx hb hr hlocks hS () dX2_has_24 (fun t ht => trivial) (by omega) (by first | exact Or.inl ⟨by omega, p, by omega, hp, hth⟩ | exact Or.inr ⟨by omega, fun k hk hx => by first | (have e9 : k = p := (by omega); subst e9; exact hth) | exact absurd hx (by omega)⟩)
    · refine lv_aload_n hx hb dX2_has_10 rfl (lv_at hl 0 rfl) ?_
      refine va_get (D := (dC, dI)) (ci := 2) (v := .ref q1) (C := RX2) (T := TX2) (N := 4) hx hb hts (fun _ h => List.mem_cons_of_mem _ (List.mem_append_right _ h)) hown hK hP 0 rfl rfl 0 (by decide) (hts (.fieldLink RX2 9 "MovingHeap$Lines" "there" "[Z") (List.mem_of_getElem? (i := 1) rfl)) (fun _ h9 => h9) rfl dX2_has_11 ?_
      obtain ⟨p, hp⟩ : ∃ p : Nat, x.toInt = (p : Int) := ⟨x.toInt.toNat, by omega⟩
      have hLp := hL p (by omega)
      refine lv_iload_n hx hb dX2_has_14 rfl (lv_at hl 1 rfl) ?_
      refine x_zald hx hb hK hP 1 2 rfl rfl (p) hp (by omega) dX2_has_15 ?_
      refine x_if_eq (tgt := 23) hx hb dX2_has_16 (by decide) (fun c16 => ?_) (fun c16 => ?_)
      · have hth : th p = false := by cases ht : th p with | false => rfl | true => have := (hLp.1 ht).1; omega
        refine x_iconst hx hb dX2_has_23 (0) (by decide) (fun v23 e23 => ?_)
        exact x_zret hx hb hr hlocks hS () dX2_has_24 (fun t ht => trivial) (by omega) (by first | exact Or.inl ⟨by omega, p, by omega, hp, hth⟩ | exact Or.inr ⟨by omega, fun k hk hx => by first | (have e9 : k = p := (by omega); subst e9; exact hth) | exact absurd hx (by omega)⟩)
      · have hth : th p = true := by cases ht : th p with | true => rfl | false => have := hLp.2 ht; omega
        refine x_iconst hx hb dX2_has_19 (1) (by decide) (fun v19 e19 => ?_)
        refine lv_goto (tgt := 24) hx hb dX2_has_20 (by decide) ?_
        exact x_zret hx hb hr hlocks hS () dX2_has_24 (fun t ht => trivial) (by omega) (by first | exact Or.inl ⟨by omega, p, by omega, hp, hth⟩ | exact Or.inr ⟨by omega, fun k hk hx => by first | (have e9 : k = p := (by omega); subst e9; exact hth) | exact absurd hx (by omega)⟩)
--== X2_has
set_option maxHeartbeats 4000000 in
set_option maxRecDepth 100000 in
theorem c_X2_heightOf (l : Launch) (dC : Nat → ClassId) (dI : Nat → Nat → Nat) (cI cJ cZ : ClassId) (q0 q1 q2 q3 : Nat) (sz : Nat) (T : Nat → Int32) (G : Nat → Int64) (V : Nat → Int32) (N : Int32) (th : Nat → Bool) (h v : Nat → Int) (hL : LOK T G V th h v) (x : Int32) (p : Nat) (hxp : x.toInt = (p : Int)) (hp : p < 24) : Met l yX2_heightOf wsX2_heightOf ({ frames := 1, cells := 0, slots := 0, locals := 21 }) (va_Pc [.ref q0, .int x] (x_B (dC, dI) vwCl (tysN cI cJ cZ) [(q0, .inr (2, [.ref q1, .ref q2, .ref q3, .int N])), (q1, .inl (cZ, 24, .inl T)), (q2, .inl (cJ, 24, .inr (.inl G))), (q3, .inl (cI, 24, .inl V))] sz)) (va_Ql (fun (r : Int64) (_ : Unit) => r.toInt = (if th p = true then h p else 0)) (fun _ _ => True) (va_A [] sz)) 0 0 (va_A [] sz) := by
  refine x_ofR (cc := cX2_heightOf) (maxL := 2) (ret := (some .long)) (own := RX2) (by decide) rfl rfl (Nat.le_of_ble_eq_true rfl) (lvs := [(0, .ref q0), (1, .int x)]) rfl ?_
  intro pg e s mi args below meth co hx hb hr hml hown hts hlocks hsz hP hK ls hl
  subst hsz
  generalize hAe : (va_A [] s.heap.size) = A
  have hA : ∀ q : Nat, s.heap.size ≤ q → A q := fun q h => by rw [← hAe]; exact Or.inr h
  have hS : va_S A s.heap s.heap [] := va_S.rf
  refine lv_aload_n hx hb dX2_heightOf_0 rfl (lv_at hl 0 rfl) ?_
  refine lv_iload_n hx hb dX2_heightOf_1 rfl (lv_at hl 1 rfl) ?_
  have hPc := hP.sub (ws' := [(q0, .inr (2, [.ref q1, .ref q2, .ref q3, .int N])), (q1, .inl (cZ, 24, .inl T)), (q2, .inl (cJ, 24, .inr (.inl G))), (q3, .inl (cI, 24, .inl V))]) [0, 1, 2, 3] rfl
  refine x_calli (va_runV (As := [.int x]) (rest := []) ⟨hx, hb, hml, hown, hts⟩ (c_X2_has l dC dI cI cJ cZ q0 q1 q2 q3 s.heap.size T G V N th h v hL x) (cwV 1 hts gX2_heightOf_X2_has rfl rfl rfl (by decide +kernel) ⟨Nat.le_of_ble_eq_true rfl, Nat.le_of_ble_eq_true rfl⟩) ⟨x_Bb, va_recv hK hP (ci := 2) (q0 := 0) rfl rfl, (fun U hU hW => ⟨rfl, by rw [hU], by rw [hU]; exact hPc, va_K.moved hW.alike hK⟩)⟩ rfl rfl hl.1 rfl (lv_room (Nat.le_of_ble_eq_true rfl)) dX2_heightOf_2 ⟨Nat.zero_le _, Nat.zero_le _⟩) hS hA hP (fun v2 _ H locs h2 hP hS => ?_)
  refine x_if_eq (tgt := 17) hx hb dX2_heightOf_5 (by decide) (fun c5 => ?_) (fun c5 => ?_)
  · have hth : th p = false := by rcases h2 with q | q; omega; exact q.2 p hp hxp
    refine x_lconst hx hb dX2_heightOf_17 (0) (by decide) (fun v17 e17 => ?_)
    exact x_lret hx hb hr hlocks hS () dX2_heightOf_18 (fun t ht => trivial) (by rw [hth]; simp <;> omega)
  · have hth : th p = true := by rcases h2 with q | q; obtain ⟨-, k, hk, hxk, hk2⟩ := q; have e9 : k = p := (by omega); subst e9; exact hk2; omega
    have hLp := (hL p hp).1 hth
    refine lv_aload_n hx hb dX2_heightOf_8 rfl (lv_at hl 0 rfl) ?_
    refine va_get (D := (dC, dI)) (ci := 2) (v := .ref q2) (C := RX2) (T := TX2) (N := 4) hx hb hts (fun _ h => List.mem_cons_of_mem _ (List.mem_append_right _ h)) hown hK hP 0 rfl rfl 1 (by decide) (hts (.fieldLink RX2 15 "MovingHeap$Lines" "height" "[J") (List.mem_of_getElem? (i := 1) rfl)) (fun _ h9 => h9) rfl dX2_heightOf_9 ?_
    refine lv_iload_n hx hb dX2_heightOf_12 rfl (lv_at hl 1 rfl) ?_
    refine x_lald hx hb hK hP 2 1 rfl rfl (p) hxp hp dX2_heightOf_13 ?_
    refine lv_goto (tgt := 18) hx hb dX2_heightOf_14 (by decide) ?_
    exact x_lret hx hb hr hlocks hS () dX2_heightOf_18 (fun t ht => trivial) (by rw [hth]; simp <;> omega)
--== X2_heightOf
set_option maxHeartbeats 4000000 in
set_option maxRecDepth 100000 in
theorem c_X2_velocityOf (l : Launch) (dC : Nat → ClassId) (dI : Nat → Nat → Nat) (cI cJ cZ : ClassId) (q0 q1 q2 q3 : Nat) (sz : Nat) (T : Nat → Int32) (G : Nat → Int64) (V : Nat → Int32) (N : Int32) (th : Nat → Bool) (h v : Nat → Int) (hL : LOK T G V th h v) (x : Int32) (p : Nat) (hxp : x.toInt = (p : Int)) (hp : p < 24) : Met l yX2_velocityOf wsX2_velocityOf ({ frames := 1, cells := 0, slots := 0, locals := 21 }) (va_Pc [.ref q0, .int x] (x_B (dC, dI) vwCl (tysN cI cJ cZ) [(q0, .inr (2, [.ref q1, .ref q2, .ref q3, .int N])), (q1, .inl (cZ, 24, .inl T)), (q2, .inl (cJ, 24, .inr (.inl G))), (q3, .inl (cI, 24, .inl V))] sz)) (va_Qi (fun (r : Int32) (_ : Unit) => r.toInt = (if th p = true then v p else 0)) (fun _ _ => True) (va_A [] sz)) 0 0 (va_A [] sz) := by
  refine x_ofR (cc := cX2_velocityOf) (maxL := 2) (ret := (some .int)) (own := RX2) (by decide) rfl rfl (Nat.le_of_ble_eq_true rfl) (lvs := [(0, .ref q0), (1, .int x)]) rfl ?_
  intro pg e s mi args below meth co hx hb hr hml hown hts hlocks hsz hP hK ls hl
  subst hsz
  generalize hAe : (va_A [] s.heap.size) = A
  have hA : ∀ q : Nat, s.heap.size ≤ q → A q := fun q h => by rw [← hAe]; exact Or.inr h
  have hS : va_S A s.heap s.heap [] := va_S.rf
  refine lv_aload_n hx hb dX2_velocityOf_0 rfl (lv_at hl 0 rfl) ?_
  refine lv_iload_n hx hb dX2_velocityOf_1 rfl (lv_at hl 1 rfl) ?_
  have hPc := hP.sub (ws' := [(q0, .inr (2, [.ref q1, .ref q2, .ref q3, .int N])), (q1, .inl (cZ, 24, .inl T)), (q2, .inl (cJ, 24, .inr (.inl G))), (q3, .inl (cI, 24, .inl V))]) [0, 1, 2, 3] rfl
  refine x_calli (va_runV (As := [.int x]) (rest := []) ⟨hx, hb, hml, hown, hts⟩ (c_X2_has l dC dI cI cJ cZ q0 q1 q2 q3 s.heap.size T G V N th h v hL x) (cwV 1 hts gX2_velocityOf_X2_has rfl rfl rfl (by decide +kernel) ⟨Nat.le_of_ble_eq_true rfl, Nat.le_of_ble_eq_true rfl⟩) ⟨x_Bb, va_recv hK hP (ci := 2) (q0 := 0) rfl rfl, (fun U hU hW => ⟨rfl, by rw [hU], by rw [hU]; exact hPc, va_K.moved hW.alike hK⟩)⟩ rfl rfl hl.1 rfl (lv_room (Nat.le_of_ble_eq_true rfl)) dX2_velocityOf_2 ⟨Nat.zero_le _, Nat.zero_le _⟩) hS hA hP (fun v2 _ H locs h2 hP hS => ?_)
  refine x_if_eq (tgt := 17) hx hb dX2_velocityOf_5 (by decide) (fun c5 => ?_) (fun c5 => ?_)
  · have hth : th p = false := by rcases h2 with q | q; omega; exact q.2 p hp hxp
    refine x_iconst hx hb dX2_velocityOf_17 (0) (by decide) (fun v17 e17 => ?_)
    exact x_iret hx hb hr hlocks hS () dX2_velocityOf_18 (fun t ht => trivial) (by rw [hth]; simp <;> omega)
  · have hth : th p = true := by rcases h2 with q | q; obtain ⟨-, k, hk, hxk, hk2⟩ := q; have e9 : k = p := (by omega); subst e9; exact hk2; omega
    have hLp := (hL p hp).1 hth
    refine lv_aload_n hx hb dX2_velocityOf_8 rfl (lv_at hl 0 rfl) ?_
    refine va_get (D := (dC, dI)) (ci := 2) (v := .ref q3) (C := RX2) (T := TX2) (N := 4) hx hb hts (fun _ h => List.mem_cons_of_mem _ (List.mem_append_right _ h)) hown hK hP 0 rfl rfl 2 (by decide) (hts (.fieldLink RX2 19 "MovingHeap$Lines" "velocity" "[I") (List.mem_of_getElem? (i := 1) rfl)) (fun _ h9 => h9) rfl dX2_velocityOf_9 ?_
    refine lv_iload_n hx hb dX2_velocityOf_12 rfl (lv_at hl 1 rfl) ?_
    refine x_iald hx hb hK hP 3 0 rfl rfl (p) hxp hp dX2_velocityOf_13 ?_
    refine lv_goto (tgt := 18) hx hb dX2_velocityOf_14 (by decide) ?_
    exact x_iret hx hb hr hlocks hS () dX2_velocityOf_18 (fun t ht => trivial) (by rw [hth]; simp <;> omega)
--== X2_velocityOf
set_option maxHeartbeats 4000000 in
set_option maxRecDepth 100000 in
theorem c_X2_valueOf (l : Launch) (dC : Nat → ClassId) (dI : Nat → Nat → Nat) (cI cJ cZ : ClassId) (q0 q1 q2 q3 : Nat) (sz : Nat) (T : Nat → Int32) (G : Nat → Int64) (V : Nat → Int32) (N : Int32) (th : Nat → Bool) (h v : Nat → Int) (hL : LOK T G V th h v) (x : Int32) (p : Nat) (hxp : x.toInt = (p : Int)) (hp : p < 24) (hth : th p = true) (tt : Int32) (ht0 : 0 ≤ tt.toInt) (ht1 : tt.toInt ≤ 1000001) : Met l yX2_valueOf wsX2_valueOf ({ frames := 1, cells := 0, slots := 0, locals := 21 }) (va_Pc [.ref q0, .int x, .int tt] (x_B (dC, dI) vwCl (tysN cI cJ cZ) [(q0, .inr (2, [.ref q1, .ref q2, .ref q3, .int N])), (q1, .inl (cZ, 24, .inl T)), (q2, .inl (cJ, 24, .inr (.inl G))), (q3, .inl (cI, 24, .inl V))] sz)) (va_Ql (fun (r : Int64) (_ : Unit) => r.toInt = h p + v p * tt.toInt) (fun _ _ => True) (va_A [] sz)) 0 0 (va_A [] sz) := by
  refine x_ofR (cc := cX2_valueOf) (maxL := 3) (ret := (some .long)) (own := RX2) (by decide) rfl rfl (Nat.le_of_ble_eq_true rfl) (lvs := [(0, .ref q0), (1, .int x), (2, .int tt)]) rfl ?_
  intro pg e s mi args below meth co hx hb hr hml hown hts hlocks hsz hP hK ls hl
  subst hsz
  generalize hAe : (va_A [] s.heap.size) = A
  have hA : ∀ q : Nat, s.heap.size ≤ q → A q := fun q h => by rw [← hAe]; exact Or.inr h
  have hS : va_S A s.heap s.heap [] := va_S.rf
  refine lv_aload_n hx hb dX2_valueOf_0 rfl (lv_at hl 0 rfl) ?_
  refine lv_iload_n hx hb dX2_valueOf_1 rfl (lv_at hl 1 rfl) ?_
  have hPc := hP.sub (ws' := [(q0, .inr (2, [.ref q1, .ref q2, .ref q3, .int N])), (q1, .inl (cZ, 24, .inl T)), (q2, .inl (cJ, 24, .inr (.inl G))), (q3, .inl (cI, 24, .inl V))]) [0, 1, 2, 3] rfl
  refine x_calli (va_runV (As := [.int x]) (rest := []) ⟨hx, hb, hml, hown, hts⟩ (c_X2_has l dC dI cI cJ cZ q0 q1 q2 q3 s.heap.size T G V N th h v hL x) (cwV 1 hts gX2_valueOf_X2_has rfl rfl rfl (by decide +kernel) ⟨Nat.le_of_ble_eq_true rfl, Nat.le_of_ble_eq_true rfl⟩) ⟨x_Bb, va_recv hK hP (ci := 2) (q0 := 0) rfl rfl, (fun U hU hW => ⟨rfl, by rw [hU], by rw [hU]; exact hPc, va_K.moved hW.alike hK⟩)⟩ rfl rfl hl.1 rfl (lv_room (Nat.le_of_ble_eq_true rfl)) dX2_valueOf_2 ⟨Nat.zero_le _, Nat.zero_le _⟩) hS hA hP (fun v2 _ H locs h2 hP hS => ?_)
  replace h2 : v2.toInt = 1 := by rcases h2 with q | q; exact q.1; exact absurd (q.2 p hp hxp) (by rw [hth]; decide)
  refine x_if_eq (tgt := 28) hx hb dX2_valueOf_5 (by decide) (fun c5 => ?_) (fun c5 => ?_)
  · exact absurd c5 (by omega)
  · have hLp := (hL p hp).1 hth
    have hm := m_bd hLp.2.2.2.1 hLp.2.2.2.2.1 ht0
    refine lv_aload_n hx hb dX2_valueOf_8 rfl (lv_at hl 0 rfl) ?_
    refine va_get (D := (dC, dI)) (ci := 2) (v := .ref q2) (C := RX2) (T := TX2) (N := 4) hx hb hts (fun _ h => List.mem_cons_of_mem _ (List.mem_append_right _ h)) hown hK hP 0 rfl rfl 1 (by decide) (hts (.fieldLink RX2 15 "MovingHeap$Lines" "height" "[J") (List.mem_of_getElem? (i := 1) rfl)) (fun _ h9 => h9) rfl dX2_valueOf_9 ?_
    refine lv_iload_n hx hb dX2_valueOf_12 rfl (lv_at hl 1 rfl) ?_
    refine x_lald hx hb hK hP 2 1 rfl rfl (p) hxp hp dX2_valueOf_13 ?_
    refine lv_aload_n hx hb dX2_valueOf_14 rfl (lv_at hl 0 rfl) ?_
    refine va_get (D := (dC, dI)) (ci := 2) (v := .ref q3) (C := RX2) (T := TX2) (N := 4) hx hb hts (fun _ h => List.mem_cons_of_mem _ (List.mem_append_right _ h)) hown hK hP 0 rfl rfl 2 (by decide) (hts (.fieldLink RX2 19 "MovingHeap$Lines" "velocity" "[I") (List.mem_of_getElem? (i := 2) rfl)) (fun _ h9 => h9) rfl dX2_valueOf_15 ?_
    refine lv_iload_n hx hb dX2_valueOf_18 rfl (lv_at hl 1 rfl) ?_
    refine x_iald hx hb hK hP 3 0 rfl rfl (p) hxp hp dX2_valueOf_19 ?_
    refine x_i2l hx hb dX2_valueOf_20 (fun v20 e20 => ?_)
    refine lv_iload_n hx hb dX2_valueOf_21 rfl (lv_at hl 2 rfl) ?_
    refine x_i2l hx hb dX2_valueOf_22 (fun v22 e22 => ?_)
    have em : v20.toInt * v22.toInt = v p * tt.toInt := by rw [e20, e22, hLp.2.2.1]
    refine x_lmul hx hb dX2_valueOf_23 (by rw [em]; omega) (by rw [em]; omega) (fun v23 e23 => ?_)
    refine x_ladd hx hb dX2_valueOf_24 (by omega) (by omega) (fun v24 e24 => ?_)
    refine lv_goto (tgt := 29) hx hb dX2_valueOf_25 (by decide) ?_
    exact x_lret hx hb hr hlocks hS () dX2_valueOf_29 (fun t ht => trivial) (by rw [e24, e23, em, hLp.2.1])
--== X2_valueOf
set_option maxHeartbeats 4000000 in
set_option maxRecDepth 100000 in
theorem c_X2_isBefore (l : Launch) (dC : Nat → ClassId) (dI : Nat → Nat → Nat) (cI cJ cZ : ClassId) (q0 q1 q2 q3 : Nat) (sz : Nat) (T : Nat → Int32) (G : Nat → Int64) (V : Nat → Int32) (N : Int32) (th : Nat → Bool) (h v : Nat → Int) (hL : LOK T G V th h v) (x y : Int32) (a b : Nat) (hxa : x.toInt = (a : Int)) (hyb : y.toInt = (b : Int)) (ha : a < 24) (hb4 : b < 24) (hta : th a = true) (htb : th b = true) (tt : Int32) (ht0 : 0 ≤ tt.toInt) (ht1 : tt.toInt ≤ 1000001) : Met l yX2_isBefore wsX2_isBefore ({ frames := 2, cells := 0, slots := 0, locals := 43 }) (va_Pc [.ref q0, .int x, .int y, .int tt] (x_B (dC, dI) vwCl (tysN cI cJ cZ) [(q0, .inr (2, [.ref q1, .ref q2, .ref q3, .int N])), (q1, .inl (cZ, 24, .inl T)), (q2, .inl (cJ, 24, .inr (.inl G))), (q3, .inl (cI, 24, .inl V))] sz)) (va_Qi (fun (r : Int32) (_ : Unit) => (r.toInt = 1 ∧ bef h v tt.toInt a b) ∨ (r.toInt = 0 ∧ ¬ bef h v tt.toInt a b)) (fun _ _ => True) (va_A [] sz)) 0 0 (va_A [] sz) := by
  refine x_ofR (cc := cX2_isBefore) (maxL := 8) (ret := (some .boolean)) (own := RX2) (by decide) rfl rfl (Nat.le_of_ble_eq_true rfl) (lvs := [(0, .ref q0), (1, .int x), (2, .int y), (3, .int tt)]) rfl ?_
  intro pg e s mi args below meth co hx hb hr hml hown hts hlocks hsz hP hK ls hl
  subst hsz
  generalize hAe : (va_A [] s.heap.size) = A
  have hA : ∀ q : Nat, s.heap.size ≤ q → A q := fun q h => by rw [← hAe]; exact Or.inr h
  have hS : va_S A s.heap s.heap [] := va_S.rf
  refine lv_aload_n hx hb dX2_isBefore_0 rfl (lv_at hl 0 rfl) ?_
  refine lv_iload_n hx hb dX2_isBefore_1 rfl (lv_at hl 1 rfl) ?_
  refine lv_iload_n hx hb dX2_isBefore_2 rfl (lv_at hl 3 rfl) ?_
  have hPc := hP.sub (ws' := [(q0, .inr (2, [.ref q1, .ref q2, .ref q3, .int N])), (q1, .inl (cZ, 24, .inl T)), (q2, .inl (cJ, 24, .inr (.inl G))), (q3, .inl (cI, 24, .inl V))]) [0, 1, 2, 3] rfl
  refine x_calll (va_runV (As := [.int x, .int tt]) (rest := []) ⟨hx, hb, hml, hown, hts⟩ (c_X2_valueOf l dC dI cI cJ cZ q0 q1 q2 q3 s.heap.size T G V N th h v hL x a hxa ha hta tt ht0 ht1) (cwV 2 hts gX2_isBefore_X2_valueOf rfl rfl rfl (by decide +kernel) ⟨Nat.le_of_ble_eq_true rfl, Nat.le_of_ble_eq_true rfl⟩) ⟨x_Bb, va_recv hK hP (ci := 2) (q0 := 0) rfl rfl, (fun U hU hW => ⟨rfl, by rw [hU], by rw [hU]; exact hPc, va_K.moved hW.alike hK⟩)⟩ rfl rfl hl.1 rfl (lv_room (Nat.le_of_ble_eq_true rfl)) dX2_isBefore_3 ⟨Nat.zero_le _, Nat.zero_le _⟩) hS hA hP (fun v3 _ H locs h3 hP hS => ?_)
  refine lv_lstore (lv' := [(4, .long v3), (0, .ref q0), (1, .int x), (2, .int y), (3, .int tt)]) hx hb dX2_isBefore_6 hl (by decide) rfl (fun ls hl => ?_)
  refine lv_aload_n hx hb dX2_isBefore_8 rfl (lv_at hl 1 rfl) ?_
  refine lv_iload_n hx hb dX2_isBefore_9 rfl (lv_at hl 3 rfl) ?_
  refine lv_iload_n hx hb dX2_isBefore_10 rfl (lv_at hl 4 rfl) ?_
  have hPc := hP.sub (ws' := [(q0, .inr (2, [.ref q1, .ref q2, .ref q3, .int N])), (q1, .inl (cZ, 24, .inl T)), (q2, .inl (cJ, 24, .inr (.inl G))), (q3, .inl (cI, 24, .inl V))]) [0, 1, 2, 3] rfl
  refine x_calll (va_runV (As := [.int y, .int tt]) (rest := []) ⟨hx, hb, hml, hown, hts⟩ (c_X2_valueOf l dC dI cI cJ cZ q0 q1 q2 q3 H.size T G V N th h v hL y b hyb hb4 htb tt ht0 ht1) (cwV 2 hts gX2_isBefore_X2_valueOf rfl rfl rfl (by decide +kernel) ⟨Nat.le_of_ble_eq_true rfl, Nat.le_of_ble_eq_true rfl⟩) ⟨x_Bb, va_recv hK hP (ci := 2) (q0 := 0) rfl rfl, (fun U hU hW => ⟨rfl, by rw [hU], by rw [hU]; exact hPc, va_K.moved hW.alike hK⟩)⟩ rfl rfl hl.1 rfl (lv_room (Nat.le_of_ble_eq_true rfl)) dX2_isBefore_11 ⟨Nat.zero_le _, Nat.zero_le _⟩) hS hA hP (fun v11 _ H locs h11 hP hS => ?_)
  refine lv_lstore (lv' := [(6, .long v11), (4, .long v3), (0, .ref q0), (1, .int x), (2, .int y), (3, .int tt)]) hx hb dX2_isBefore_14 hl (by decide) rfl (fun ls hl => ?_)
  refine lv_lload hx hb dX2_isBefore_16 (lv_at hl 1 rfl) ?_
  refine lv_lload hx hb dX2_isBefore_18 (lv_at hl 0 rfl) ?_
  refine x_lcmp_lt (tgt := 37) hx hb dX2_isBefore_20 dX2_isBefore_21 (by decide) (fun c20 => ?_) (fun c20 => ?_)
  · refine x_iconst hx hb dX2_isBefore_37 (1) (by decide) (fun v37 e37 => ?_)
    refine lv_goto (tgt := 42) hx hb dX2_isBefore_38 (by decide) ?_
    exact x_zret hx hb hr hlocks hS () dX2_isBefore_42 (fun t ht => trivial) (by omega) (by first | exact Or.inl ⟨by omega, by omega⟩ | exact Or.inr ⟨by omega, by omega⟩)
  · refine lv_lload hx hb dX2_isBefore_24 (lv_at hl 1 rfl) ?_
    refine lv_lload hx hb dX2_isBefore_26 (lv_at hl 0 rfl) ?_
    refine x_lcmp_ne (tgt := 41) hx hb dX2_isBefore_28 dX2_isBefore_29 (by decide) (fun c28 => ?_) (fun c28 => ?_)
    · refine x_iconst hx hb dX2_isBefore_41 (0) (by decide) (fun v41 e41 => ?_)
      exact x_zret hx hb hr hlocks hS () dX2_isBefore_42 (fun t ht => trivial) (by omega) (by first | exact Or.inl ⟨by omega, by omega⟩ | exact Or.inr ⟨by omega, by omega⟩)
    · refine lv_iload_n hx hb dX2_isBefore_32 rfl (lv_at hl 3 rfl) ?_
      refine lv_iload_n hx hb dX2_isBefore_33 rfl (lv_at hl 4 rfl) ?_
      refine x_icmp_ge (tgt := 41) hx hb dX2_isBefore_34 (by decide) (fun c34 => ?_) (fun c34 => ?_)
      · refine x_iconst hx hb dX2_isBefore_41 (0) (by decide) (fun v41 e41 => ?_)
        exact x_zret hx hb hr hlocks hS () dX2_isBefore_42 (fun t ht => trivial) (by omega) (by first | exact Or.inl ⟨by omega, by omega⟩ | exact Or.inr ⟨by omega, by omega⟩)
      · refine x_iconst hx hb dX2_isBefore_37 (1) (by decide) (fun v37 e37 => ?_)
        refine lv_goto (tgt := 42) hx hb dX2_isBefore_38 (by decide) ?_
        exact x_zret hx hb hr hlocks hS () dX2_isBefore_42 (fun t ht => trivial) (by omega) (by first | exact Or.inl ⟨by omega, by omega⟩ | exact Or.inr ⟨by omega, by omega⟩)
--== X2_isBefore
set_option maxHeartbeats 4000000 in
set_option maxRecDepth 100000 in
theorem c_X2_endOfOrder (l : Launch) (dC : Nat → ClassId) (dI : Nat → Nat → Nat) (cI cJ cZ : ClassId) (q0 q1 q2 q3 : Nat) (sz : Nat) (T : Nat → Int32) (G : Nat → Int64) (V : Nat → Int32) (N : Int32) (th : Nat → Bool) (h v : Nat → Int) (hL : LOK T G V th h v) (x y : Int32) (a b : Nat) (hxa : x.toInt = (a : Int)) (hyb : y.toInt = (b : Int)) (ha : a < 24) (hb4 : b < 24) (hta : th a = true) (htb : th b = true) (tt : Int32) (ht0 : 0 ≤ tt.toInt) (ht1 : tt.toInt ≤ 1000000) : Met l yX2_endOfOrder wsX2_endOfOrder ({ frames := 3, cells := 0, slots := 0, locals := 70 }) (va_Pc [.ref q0, .int x, .int y, .int tt] (x_B (dC, dI) vwCl (tysN cI cJ cZ) [(q0, .inr (2, [.ref q1, .ref q2, .ref q3, .int N])), (q1, .inl (cZ, 24, .inl T)), (q2, .inl (cJ, 24, .inr (.inl G))), (q3, .inl (cI, 24, .inl V))] sz)) (va_Qi (fun (r : Int32) (_ : Unit) => r.toInt = eoo h v tt.toInt a b) (fun _ _ => True) (va_A [] sz)) 0 0 (va_A [] sz) := by
  refine x_ofR (cc := cX2_endOfOrder) (maxL := 10) (ret := (some .int)) (own := RX2) (by decide) rfl rfl (Nat.le_of_ble_eq_true rfl) (lvs := [(0, .ref q0), (1, .int x), (2, .int y), (3, .int tt)]) rfl ?_
  intro pg e s mi args below meth co hx hb hr hml hown hts hlocks hsz hP hK ls hl
  subst hsz
  generalize hAe : (va_A [] s.heap.size) = A
  have hA : ∀ q : Nat, s.heap.size ≤ q → A q := fun q h => by rw [← hAe]; exact Or.inr h
  have hS : va_S A s.heap s.heap [] := va_S.rf
  refine lv_aload_n hx hb dX2_endOfOrder_0 rfl (lv_at hl 0 rfl) ?_
  refine lv_iload_n hx hb dX2_endOfOrder_1 rfl (lv_at hl 1 rfl) ?_
  refine lv_iload_n hx hb dX2_endOfOrder_2 rfl (lv_at hl 2 rfl) ?_
  refine lv_iload_n hx hb dX2_endOfOrder_3 rfl (lv_at hl 3 rfl) ?_
  have hPc := hP.sub (ws' := [(q0, .inr (2, [.ref q1, .ref q2, .ref q3, .int N])), (q1, .inl (cZ, 24, .inl T)), (q2, .inl (cJ, 24, .inr (.inl G))), (q3, .inl (cI, 24, .inl V))]) [0, 1, 2, 3] rfl
  refine x_calli (va_runV (As := [.int x, .int y, .int tt]) (rest := []) ⟨hx, hb, hml, hown, hts⟩ (c_X2_isBefore l dC dI cI cJ cZ q0 q1 q2 q3 s.heap.size T G V N th h v hL x y a b hxa hyb ha hb4 hta htb tt ht0 (by omega)) (cwV 3 hts gX2_endOfOrder_X2_isBefore rfl rfl rfl (by decide +kernel) ⟨Nat.le_of_ble_eq_true rfl, Nat.le_of_ble_eq_true rfl⟩) ⟨x_Bb, va_recv hK hP (ci := 2) (q0 := 0) rfl rfl, (fun U hU hW => ⟨rfl, by rw [hU], by rw [hU]; exact hPc, va_K.moved hW.alike hK⟩)⟩ rfl rfl hl.1 rfl (lv_room (Nat.le_of_ble_eq_true rfl)) dX2_endOfOrder_4 ⟨Nat.zero_le _, Nat.zero_le _⟩) hS hA hP (fun v4 _ H locs h4 hP hS => ?_)
  refine x_if_ne (tgt := 12) hx hb dX2_endOfOrder_7 (by decide) (fun c7 => ?_) (fun c7 => ?_)
  · have hbf : bef h v tt.toInt a b := by rcases h4 with q | q; exact q.2; omega
    have hLa := (hL a ha).1 hta
    have hLb := (hL b hb4).1 htb
    have hma := m_bd hLa.2.2.2.1 hLa.2.2.2.2.1 ht0
    have hmb := m_bd hLb.2.2.2.1 hLb.2.2.2.2.1 ht0
    refine lv_aload_n hx hb dX2_endOfOrder_12 rfl (lv_at hl 0 rfl) ?_
    refine lv_iload_n hx hb dX2_endOfOrder_13 rfl (lv_at hl 1 rfl) ?_
    have hPc := hP.sub (ws' := [(q0, .inr (2, [.ref q1, .ref q2, .ref q3, .int N])), (q1, .inl (cZ, 24, .inl T)), (q2, .inl (cJ, 24, .inr (.inl G))), (q3, .inl (cI, 24, .inl V))]) [0, 1, 2, 3] rfl
    refine x_calli (va_runV (As := [.int x]) (rest := []) ⟨hx, hb, hml, hown, hts⟩ (c_X2_velocityOf l dC dI cI cJ cZ q0 q1 q2 q3 H.size T G V N th h v hL x a hxa ha) (cwV 1 hts gX2_endOfOrder_X2_velocityOf rfl rfl rfl (by decide +kernel) ⟨Nat.le_of_ble_eq_true rfl, Nat.le_of_ble_eq_true rfl⟩) ⟨x_Bb, va_recv hK hP (ci := 2) (q0 := 0) rfl rfl, (fun U hU hW => ⟨rfl, by rw [hU], by rw [hU]; exact hPc, va_K.moved hW.alike hK⟩)⟩ rfl rfl hl.1 rfl (lv_room (Nat.le_of_ble_eq_true rfl)) dX2_endOfOrder_14 ⟨Nat.zero_le _, Nat.zero_le _⟩) hS hA hP (fun v14 _ H locs h14 hP hS => ?_)
    rw [hta] at h14; simp only [if_true] at h14
    refine x_i2l hx hb dX2_endOfOrder_17 (fun v17 e17 => ?_)
    refine lv_aload_n hx hb dX2_endOfOrder_18 rfl (lv_at hl 0 rfl) ?_
    refine lv_iload_n hx hb dX2_endOfOrder_19 rfl (lv_at hl 2 rfl) ?_
    have hPc := hP.sub (ws' := [(q0, .inr (2, [.ref q1, .ref q2, .ref q3, .int N])), (q1, .inl (cZ, 24, .inl T)), (q2, .inl (cJ, 24, .inr (.inl G))), (q3, .inl (cI, 24, .inl V))]) [0, 1, 2, 3] rfl
    refine x_calli (va_runV (As := [.int y]) (rest := [.long v17]) ⟨hx, hb, hml, hown, hts⟩ (c_X2_velocityOf l dC dI cI cJ cZ q0 q1 q2 q3 H.size T G V N th h v hL y b hyb hb4) (cwV 1 hts gX2_endOfOrder_X2_velocityOf rfl rfl rfl (by decide +kernel) ⟨Nat.le_of_ble_eq_true rfl, Nat.le_of_ble_eq_true rfl⟩) ⟨x_Bb, va_recv hK hP (ci := 2) (q0 := 0) rfl rfl, (fun U hU hW => ⟨rfl, by rw [hU], by rw [hU]; exact hPc, va_K.moved hW.alike hK⟩)⟩ rfl rfl hl.1 rfl (lv_room (Nat.le_of_ble_eq_true rfl)) dX2_endOfOrder_20 ⟨Nat.zero_le _, Nat.zero_le _⟩) hS hA hP (fun v20 _ H locs h20 hP hS => ?_)
    rw [htb] at h20; simp only [if_true] at h20
    refine x_i2l hx hb dX2_endOfOrder_23 (fun v23 e23 => ?_)
    refine x_lsub hx hb dX2_endOfOrder_24 (by omega) (by omega) (fun v24 e24 => ?_)
    refine lv_lstore (lv' := [(4, .long v24), (0, .ref q0), (1, .int x), (2, .int y), (3, .int tt)]) hx hb dX2_endOfOrder_25 hl (by decide) rfl (fun ls hl => ?_)
    refine lv_lload hx hb dX2_endOfOrder_27 (lv_at hl 0 rfl) ?_
    refine x_lconst hx hb dX2_endOfOrder_29 (0) (by decide) (fun v29 e29 => ?_)
    refine x_lcmp_gt (tgt := 37) hx hb dX2_endOfOrder_30 dX2_endOfOrder_31 (by decide) (fun c30 => ?_) (fun c30 => ?_)
    · have hgt : ¬ v a ≤ v b := by omega
      refine lv_aload_n hx hb dX2_endOfOrder_37 rfl (lv_at hl 1 rfl) ?_
      refine lv_iload_n hx hb dX2_endOfOrder_38 rfl (lv_at hl 3 rfl) ?_
      refine lv_iload_n hx hb dX2_endOfOrder_39 rfl (lv_at hl 4 rfl) ?_
      have hPc := hP.sub (ws' := [(q0, .inr (2, [.ref q1, .ref q2, .ref q3, .int N])), (q1, .inl (cZ, 24, .inl T)), (q2, .inl (cJ, 24, .inr (.inl G))), (q3, .inl (cI, 24, .inl V))]) [0, 1, 2, 3] rfl
      refine x_calll (va_runV (As := [.int y, .int tt]) (rest := []) ⟨hx, hb, hml, hown, hts⟩ (c_X2_valueOf l dC dI cI cJ cZ q0 q1 q2 q3 H.size T G V N th h v hL y b hyb hb4 htb tt ht0 (by omega)) (cwV 2 hts gX2_endOfOrder_X2_valueOf rfl rfl rfl (by decide +kernel) ⟨Nat.le_of_ble_eq_true rfl, Nat.le_of_ble_eq_true rfl⟩) ⟨x_Bb, va_recv hK hP (ci := 2) (q0 := 0) rfl rfl, (fun U hU hW => ⟨rfl, by rw [hU], by rw [hU]; exact hPc, va_K.moved hW.alike hK⟩)⟩ rfl rfl hl.1 rfl (lv_room (Nat.le_of_ble_eq_true rfl)) dX2_endOfOrder_40 ⟨Nat.zero_le _, Nat.zero_le _⟩) hS hA hP (fun v40 _ H locs h40 hP hS => ?_)
      refine lv_aload_n hx hb dX2_endOfOrder_43 rfl (lv_at hl 1 rfl) ?_
      refine lv_iload_n hx hb dX2_endOfOrder_44 rfl (lv_at hl 2 rfl) ?_
      refine lv_iload_n hx hb dX2_endOfOrder_45 rfl (lv_at hl 4 rfl) ?_
      have hPc := hP.sub (ws' := [(q0, .inr (2, [.ref q1, .ref q2, .ref q3, .int N])), (q1, .inl (cZ, 24, .inl T)), (q2, .inl (cJ, 24, .inr (.inl G))), (q3, .inl (cI, 24, .inl V))]) [0, 1, 2, 3] rfl
      refine x_calll (va_runV (As := [.int x, .int tt]) (rest := [.long v40]) ⟨hx, hb, hml, hown, hts⟩ (c_X2_valueOf l dC dI cI cJ cZ q0 q1 q2 q3 H.size T G V N th h v hL x a hxa ha hta tt ht0 (by omega)) (cwV 2 hts gX2_endOfOrder_X2_valueOf rfl rfl rfl (by decide +kernel) ⟨Nat.le_of_ble_eq_true rfl, Nat.le_of_ble_eq_true rfl⟩) ⟨x_Bb, va_recv hK hP (ci := 2) (q0 := 0) rfl rfl, (fun U hU hW => ⟨rfl, by rw [hU], by rw [hU]; exact hPc, va_K.moved hW.alike hK⟩)⟩ rfl rfl hl.1 rfl (lv_room (Nat.le_of_ble_eq_true rfl)) dX2_endOfOrder_46 ⟨Nat.zero_le _, Nat.zero_le _⟩) hS hA hP (fun v46 _ H locs h46 hP hS => ?_)
      refine x_lsub hx hb dX2_endOfOrder_49 (by omega) (by omega) (fun v49 e49 => ?_)
      refine lv_iload_n hx hb dX2_endOfOrder_50 rfl (lv_at hl 2 rfl) ?_
      refine lv_iload_n hx hb dX2_endOfOrder_51 rfl (lv_at hl 3 rfl) ?_
      refine x_icmp_ge (tgt := 59) hx hb dX2_endOfOrder_52 (by decide) (fun c52 => ?_) (fun c52 => ?_)
      · refine x_iconst hx hb dX2_endOfOrder_59 (0) (by decide) (fun v59 e59 => ?_)
        refine x_i2l hx hb dX2_endOfOrder_60 (fun v60 e60 => ?_)
        have hif : v60.toInt = (if a < b then 1 else 0) := by split <;> omega
        refine x_ladd hx hb dX2_endOfOrder_61 (by omega) (by omega) (fun v61 e61 => ?_)
        refine lv_lstore (lv' := [(6, .long v61), (4, .long v24), (0, .ref q0), (1, .int x), (2, .int y), (3, .int tt)]) hx hb dX2_endOfOrder_62 hl (by decide) rfl (fun ls hl => ?_)
        refine lv_iload_n hx hb dX2_endOfOrder_64 rfl (lv_at hl 5 rfl) ?_
        refine x_i2l hx hb dX2_endOfOrder_65 (fun v65 e65 => ?_)
        refine lv_lload hx hb dX2_endOfOrder_66 (lv_at hl 0 rfl) ?_
        refine lv_lload hx hb dX2_endOfOrder_68 (lv_at hl 1 rfl) ?_
        refine x_ladd hx hb dX2_endOfOrder_70 (by omega) (by omega) (fun v70 e70 => ?_)
        refine x_lconst hx hb dX2_endOfOrder_71 (1) (by decide) (fun v71 e71 => ?_)
        refine x_lsub hx hb dX2_endOfOrder_72 (by omega) (by omega) (fun v72 e72 => ?_)
        refine lv_lload hx hb dX2_endOfOrder_73 (lv_at hl 1 rfl) ?_
        have hdv := d_bd (x := v72.toInt) (y := v24.toInt) (by rcases hbf with q | q <;> split at hif <;> omega) (by omega)
        refine x_ldiv hx hb dX2_endOfOrder_75 (by rcases hbf with q | q <;> split at hif <;> omega) (by omega) (fun v75 e75 => ?_)
        have hq0 : 0 ≤ v75.toInt := by rw [e75]; exact hdv.1
        refine x_ladd hx hb dX2_endOfOrder_76 (by omega) (by omega) (fun v76 e76 => ?_)
        refine lv_lstore (lv' := [(8, .long v76), (6, .long v61), (4, .long v24), (0, .ref q0), (1, .int x), (2, .int y), (3, .int tt)]) hx hb dX2_endOfOrder_77 hl (by decide) rfl (fun ls hl => ?_)
        refine lv_lload hx hb dX2_endOfOrder_79 (lv_at hl 0 rfl) ?_
        refine x_ldc2 hx hb hown (hts (.constantLong RX2 48 (1000000)) (List.mem_of_getElem? (i := 2) rfl)) dX2_endOfOrder_81 (1000000) (by decide) (fun v81 e81 => ?_)
        have hg : v72.toInt = (h b + v b * tt.toInt - (h a + v a * tt.toInt) + (if a < b then 1 else 0)) + (v a - v b) - 1 := by rw [← hif]; omega
        have hc : v24.toInt = v a - v b := by omega
        rw [hg, hc] at e75
        refine x_lcmp_le (tgt := 93) hx hb dX2_endOfOrder_84 dX2_endOfOrder_85 (by decide) (fun c84 => ?_) (fun c84 => ?_)
        · refine lv_lload hx hb dX2_endOfOrder_93 (lv_at hl 0 rfl) ?_
          refine x_l2i hx hb dX2_endOfOrder_95 (by omega) (by omega) (fun v95 e95 => ?_)
          exact x_iret hx hb hr hlocks hS () dX2_endOfOrder_96 (fun t ht => trivial) (by unfold eoo cro; rw [if_pos hbf, if_neg hgt]; first | (rw [if_pos (by omega)]; omega) | (rw [if_neg (by omega)]; omega))
        · refine x_ldc hx hb hown (hts (.constant RX2 47 (1000001)) (List.mem_of_getElem? (i := 1) rfl)) dX2_endOfOrder_88 (1000001) (by decide) (fun v88 e88 => ?_)
          refine lv_goto (tgt := 96) hx hb dX2_endOfOrder_90 (by decide) ?_
          exact x_iret hx hb hr hlocks hS () dX2_endOfOrder_96 (fun t ht => trivial) (by unfold eoo cro; rw [if_pos hbf, if_neg hgt]; first | (rw [if_pos (by omega)]; omega) | (rw [if_neg (by omega)]; omega))
      · refine x_iconst hx hb dX2_endOfOrder_55 (1) (by decide) (fun v55 e55 => ?_)
        refine lv_goto (tgt := 60) hx hb dX2_endOfOrder_56 (by decide) ?_
        refine x_i2l hx hb dX2_endOfOrder_60 (fun v60 e60 => ?_)
        have hif : v60.toInt = (if a < b then 1 else 0) := by split <;> omega
        refine x_ladd hx hb dX2_endOfOrder_61 (by omega) (by omega) (fun v61 e61 => ?_)
        refine lv_lstore (lv' := [(6, .long v61), (4, .long v24), (0, .ref q0), (1, .int x), (2, .int y), (3, .int tt)]) hx hb dX2_endOfOrder_62 hl (by decide) rfl (fun ls hl => ?_)
        refine lv_iload_n hx hb dX2_endOfOrder_64 rfl (lv_at hl 5 rfl) ?_
        refine x_i2l hx hb dX2_endOfOrder_65 (fun v65 e65 => ?_)
        refine lv_lload hx hb dX2_endOfOrder_66 (lv_at hl 0 rfl) ?_
        refine lv_lload hx hb dX2_endOfOrder_68 (lv_at hl 1 rfl) ?_
        refine x_ladd hx hb dX2_endOfOrder_70 (by omega) (by omega) (fun v70 e70 => ?_)
        refine x_lconst hx hb dX2_endOfOrder_71 (1) (by decide) (fun v71 e71 => ?_)
        refine x_lsub hx hb dX2_endOfOrder_72 (by omega) (by omega) (fun v72 e72 => ?_)
        refine lv_lload hx hb dX2_endOfOrder_73 (lv_at hl 1 rfl) ?_
        have hdv := d_bd (x := v72.toInt) (y := v24.toInt) (by rcases hbf with q | q <;> split at hif <;> omega) (by omega)
        refine x_ldiv hx hb dX2_endOfOrder_75 (by rcases hbf with q | q <;> split at hif <;> omega) (by omega) (fun v75 e75 => ?_)
        have hq0 : 0 ≤ v75.toInt := by rw [e75]; exact hdv.1
        refine x_ladd hx hb dX2_endOfOrder_76 (by omega) (by omega) (fun v76 e76 => ?_)
        refine lv_lstore (lv' := [(8, .long v76), (6, .long v61), (4, .long v24), (0, .ref q0), (1, .int x), (2, .int y), (3, .int tt)]) hx hb dX2_endOfOrder_77 hl (by decide) rfl (fun ls hl => ?_)
        refine lv_lload hx hb dX2_endOfOrder_79 (lv_at hl 0 rfl) ?_
        refine x_ldc2 hx hb hown (hts (.constantLong RX2 48 (1000000)) (List.mem_of_getElem? (i := 2) rfl)) dX2_endOfOrder_81 (1000000) (by decide) (fun v81 e81 => ?_)
        have hg : v72.toInt = (h b + v b * tt.toInt - (h a + v a * tt.toInt) + (if a < b then 1 else 0)) + (v a - v b) - 1 := by rw [← hif]; omega
        have hc : v24.toInt = v a - v b := by omega
        rw [hg, hc] at e75
        refine x_lcmp_le (tgt := 93) hx hb dX2_endOfOrder_84 dX2_endOfOrder_85 (by decide) (fun c84 => ?_) (fun c84 => ?_)
        · refine lv_lload hx hb dX2_endOfOrder_93 (lv_at hl 0 rfl) ?_
          refine x_l2i hx hb dX2_endOfOrder_95 (by omega) (by omega) (fun v95 e95 => ?_)
          exact x_iret hx hb hr hlocks hS () dX2_endOfOrder_96 (fun t ht => trivial) (by unfold eoo cro; rw [if_pos hbf, if_neg hgt]; first | (rw [if_pos (by omega)]; omega) | (rw [if_neg (by omega)]; omega))
        · refine x_ldc hx hb hown (hts (.constant RX2 47 (1000001)) (List.mem_of_getElem? (i := 1) rfl)) dX2_endOfOrder_88 (1000001) (by decide) (fun v88 e88 => ?_)
          refine lv_goto (tgt := 96) hx hb dX2_endOfOrder_90 (by decide) ?_
          exact x_iret hx hb hr hlocks hS () dX2_endOfOrder_96 (fun t ht => trivial) (by unfold eoo cro; rw [if_pos hbf, if_neg hgt]; first | (rw [if_pos (by omega)]; omega) | (rw [if_neg (by omega)]; omega))
    · have hle : v a ≤ v b := by omega
      refine x_ldc hx hb hown (hts (.constant RX2 47 (1000001)) (List.mem_of_getElem? (i := 1) rfl)) dX2_endOfOrder_34 (1000001) (by decide) (fun v34 e34 => ?_)
      exact x_iret hx hb hr hlocks hS () dX2_endOfOrder_36 (fun t ht => trivial) (by unfold eoo; rw [if_pos hbf, if_pos hle]; omega)
  · have hbf : ¬ bef h v tt.toInt a b := by rcases h4 with q | q; omega; exact q.2
    refine lv_iload_n hx hb dX2_endOfOrder_10 rfl (lv_at hl 3 rfl) ?_
    exact x_iret hx hb hr hlocks hS () dX2_endOfOrder_11 (fun t ht => trivial) (by unfold eoo; rw [if_neg hbf])
--== X2_endOfOrder
set_option maxHeartbeats 4000000 in
set_option maxRecDepth 100000 in
theorem c_X2_firstAt (l : Launch) (dC : Nat → ClassId) (dI : Nat → Nat → Nat) (cI cJ cZ : ClassId) (q0 q1 q2 q3 : Nat) (sz : Nat) (T : Nat → Int32) (G : Nat → Int64) (V : Nat → Int32) (N : Int32) (th : Nat → Bool) (h v : Nat → Int) (hL : LOK T G V th h v) (tt : Int32) (ht0 : 0 ≤ tt.toInt) (ht1 : tt.toInt ≤ 1000000) : Met l yX2_firstAt wsX2_firstAt ({ frames := 3, cells := 0, slots := 0, locals := 70 }) (va_Pc [.ref q0, .int tt] (x_B (dC, dI) vwCl (tysN cI cJ cZ) [(q0, .inr (2, [.ref q1, .ref q2, .ref q3, .int N])), (q1, .inl (cZ, 24, .inl T)), (q2, .inl (cJ, 24, .inr (.inl G))), (q3, .inl (cI, 24, .inl V))] sz)) (va_Qi (fun (r : Int32) (_ : Unit) => r.toInt = tpF th h v tt.toInt 24) (fun _ _ => True) (va_A [] sz)) 0 0 (va_A [] sz) := by
  refine x_ofR (cc := cX2_firstAt) (maxL := 4) (ret := (some .int)) (own := RX2) (by decide) rfl rfl (Nat.le_of_ble_eq_true rfl) (lvs := [(0, .ref q0), (1, .int tt)]) rfl ?_
  intro pg e s mi args below meth co hx hb hr hml hown hts hlocks hsz hP hK ls hl
  subst hsz
  generalize hAe : (va_A [] s.heap.size) = A
  have hA : ∀ q : Nat, s.heap.size ≤ q → A q := fun q h => by rw [← hAe]; exact Or.inr h
  have hS : va_S A s.heap s.heap [] := va_S.rf
  refine x_iconst hx hb dX2_firstAt_0 (-1) (by decide) (fun v0 e0 => ?_)
  refine lv_istore_n (lv' := [(2, .int v0), (0, .ref q0), (1, .int tt)]) hx hb dX2_firstAt_1 rfl hl (by decide) rfl (fun ls hl => ?_)
  refine x_iconst hx hb dX2_firstAt_2 (0) (by decide) (fun v2 e2 => ?_)
  refine lv_istore_n (lv' := [(3, .int v2), (2, .int v0), (0, .ref q0), (1, .int tt)]) hx hb dX2_firstAt_3 rfl hl (by decide) rfl (fun ls hl => ?_)
  have loop4 : ∀ (fu : Nat) (i : Nat) (x : Int32) (f : Int32), (i ≤ 24) → (x.toInt = (i : Int)) → (f.toInt = tpF th h v tt.toInt i) → (24 - i < fu) → ∀ (H : Heap) (locs : List Loc), va_P (dC, dI) vwCl [(q0, .inr (2, [.ref q1, .ref q2, .ref q3, .int N])), (q1, .inl (cZ, 24, .inl T)), (q2, .inl (cJ, 24, .inr (.inl G))), (q3, .inl (cI, 24, .inl V))] H → va_S A s.heap H locs → ∀ (ls : Array Slot), lv_has ls 4 [(0, .ref q0), (1, .int tt), (2, .int f), (3, .int x)] → W pg l e (headSpec wsX2_firstAt ({ frames := 3, cells := 0, slots := 0, locals := 70 })).room s mi args below meth co H locs 0 0 (MQ below (va_Qi (fun (r : Int32) (_ : Unit) => r.toInt = tpF th h v tt.toInt 24) (fun _ _ => True) A) args s 0 0 A) (F0 mi 4 ls []) := by
    intro fu
    induction fu with
    | zero => intro i x f hi hxi hf hn; exact absurd hn (Nat.not_lt_zero _)
    | succ fu ih4 =>
      intro i x f hi hxi hf hn H locs hP hS ls hl
      have hrg := tp_rng th h v tt.toInt i
      refine lv_iload_n hx hb dX2_firstAt_4 rfl (lv_at hl 3 rfl) ?_
      refine x_bipush hx hb dX2_firstAt_5 (24) (by decide) (fun v5 e5 => ?_)
      refine x_icmp_ge (tgt := 42) hx hb dX2_firstAt_7 (by decide) (fun c7 => ?_) (fun c7 => ?_)
      · refine lv_iload_n hx hb dX2_firstAt_42 rfl (lv_at hl 2 rfl) ?_
        exact x_iret hx hb hr hlocks hS () dX2_firstAt_43 (fun t ht => trivial) (by have e9 : i = 24 := (by omega); subst e9; exact hf)
      · refine lv_aload_n hx hb dX2_firstAt_10 rfl (lv_at hl 0 rfl) ?_
        refine va_get (D := (dC, dI)) (ci := 2) (v := .ref q1) (C := RX2) (T := TX2) (N := 4) hx hb hts (fun _ h => List.mem_cons_of_mem _ (List.mem_append_right _ h)) hown hK hP 0 rfl rfl 0 (by decide) (hts (.fieldLink RX2 9 "MovingHeap$Lines" "there" "[Z") (List.mem_of_getElem? (i := 1) rfl)) (fun _ h9 => h9) rfl dX2_firstAt_11 ?_
        refine lv_iload_n hx hb dX2_firstAt_14 rfl (lv_at hl 3 rfl) ?_
        refine x_zald hx hb hK hP 1 2 rfl rfl (i) hxi (by omega) dX2_firstAt_15 ?_
        refine x_if_eq (tgt := 36) hx hb dX2_firstAt_16 (by decide) (fun c16 => ?_) (fun c16 => ?_)
        · have hth : th i = false := by cases q : th i with | false => rfl | true => have := ((hL i (by omega)).1 q).1; omega
          refine x_iinc (k := 3) hx hb (1) (by decide) dX2_firstAt_36 hl rfl (by decide) (by omega) (by omega) (fun v36 ls e36 hl => ?_)
          have hl : lv_has ls 4 [(3, .int v36), (0, .ref q0), (1, .int tt), (2, .int f)] := hl
          refine lv_goto (tgt := 4) hx hb dX2_firstAt_39 (by decide) ?_
          exact ih4 (i + 1) v36 f (by omega) (by omega) (by show _ = tpF th h v tt.toInt (i + 1); unfold tpF; first | (rw [if_neg (fun q => by rw [hth] at q; exact absurd q.1 (by decide))]; exact hf) | (rw [if_pos ⟨hth, Or.inl (by omega)⟩]; exact hxi) | (rcases h28 with q | q; (first | omega | (rw [if_pos ⟨hth, Or.inr q.2⟩]; exact hxi)); (first | omega | (rw [if_neg (fun z => by rcases z.2 with y | y; omega; exact q.2 y)]; exact hf)))) (by omega) _ _ hP hS ls (lv_sub hl [1, 2, 3, 0] rfl)
        · have hth : th i = true := by cases q : th i with | true => rfl | false => have := (hL i (by omega)).2 q; omega
          refine lv_iload_n hx hb dX2_firstAt_19 rfl (lv_at hl 2 rfl) ?_
          refine x_iconst hx hb dX2_firstAt_20 (-1) (by decide) (fun v20 e20 => ?_)
          refine x_icmp_eq (tgt := 34) hx hb dX2_firstAt_21 (by decide) (fun c21 => ?_) (fun c21 => ?_)
          · refine lv_iload_n hx hb dX2_firstAt_34 rfl (lv_at hl 3 rfl) ?_
            refine lv_istore_n (lv' := [(2, .int x), (0, .ref q0), (1, .int tt), (3, .int x)]) hx hb dX2_firstAt_35 rfl hl (by decide) rfl (fun ls hl => ?_)
            refine x_iinc (k := 3) hx hb (1) (by decide) dX2_firstAt_36 hl rfl (by decide) (by omega) (by omega) (fun v36 ls e36 hl => ?_)
            have hl : lv_has ls 4 [(3, .int v36), (2, .int x), (0, .ref q0), (1, .int tt)] := hl
            refine lv_goto (tgt := 4) hx hb dX2_firstAt_39 (by decide) ?_
            exact ih4 (i + 1) v36 x (by omega) (by omega) (by show _ = tpF th h v tt.toInt (i + 1); unfold tpF; first | (rw [if_neg (fun q => by rw [hth] at q; exact absurd q.1 (by decide))]; exact hf) | (rw [if_pos ⟨hth, Or.inl (by omega)⟩]; exact hxi) | (rcases h28 with q | q; (first | omega | (rw [if_pos ⟨hth, Or.inr q.2⟩]; exact hxi)); (first | omega | (rw [if_neg (fun z => by rcases z.2 with y | y; omega; exact q.2 y)]; exact hf)))) (by omega) _ _ hP hS ls (lv_sub hl [2, 3, 1, 0] rfl)
          · refine lv_aload_n hx hb dX2_firstAt_24 rfl (lv_at hl 0 rfl) ?_
            refine lv_iload_n hx hb dX2_firstAt_25 rfl (lv_at hl 3 rfl) ?_
            refine lv_iload_n hx hb dX2_firstAt_26 rfl (lv_at hl 2 rfl) ?_
            refine lv_iload_n hx hb dX2_firstAt_27 rfl (lv_at hl 1 rfl) ?_
            have hPc := hP.sub (ws' := [(q0, .inr (2, [.ref q1, .ref q2, .ref q3, .int N])), (q1, .inl (cZ, 24, .inl T)), (q2, .inl (cJ, 24, .inr (.inl G))), (q3, .inl (cI, 24, .inl V))]) [0, 1, 2, 3] rfl
            refine x_calli (va_runV (As := [.int x, .int f, .int tt]) (rest := []) ⟨hx, hb, hml, hown, hts⟩ (c_X2_isBefore l dC dI cI cJ cZ q0 q1 q2 q3 H.size T G V N th h v hL x f i (tpF th h v tt.toInt i).toNat hxi (by rcases hrg with q | q <;> omega) (by omega) (by rcases hrg with q | q <;> omega) hth (by rcases hrg with q | q; omega; exact q.2.2) tt ht0 (by omega)) (cwV 3 hts gX2_firstAt_X2_isBefore rfl rfl rfl (by decide +kernel) ⟨Nat.le_of_ble_eq_true rfl, Nat.le_of_ble_eq_true rfl⟩) ⟨x_Bb, va_recv hK hP (ci := 2) (q0 := 0) rfl rfl, (fun U hU hW => ⟨rfl, by rw [hU], by rw [hU]; exact hPc, va_K.moved hW.alike hK⟩)⟩ rfl rfl hl.1 rfl (lv_room (Nat.le_of_ble_eq_true rfl)) dX2_firstAt_28 ⟨Nat.zero_le _, Nat.zero_le _⟩) hS hA hP (fun v28 _ H locs h28 hP hS => ?_)
            refine x_if_eq (tgt := 36) hx hb dX2_firstAt_31 (by decide) (fun c31 => ?_) (fun c31 => ?_)
            · refine x_iinc (k := 3) hx hb (1) (by decide) dX2_firstAt_36 hl rfl (by decide) (by omega) (by omega) (fun v36 ls e36 hl => ?_)
              have hl : lv_has ls 4 [(3, .int v36), (0, .ref q0), (1, .int tt), (2, .int f)] := hl
              refine lv_goto (tgt := 4) hx hb dX2_firstAt_39 (by decide) ?_
              exact ih4 (i + 1) v36 f (by omega) (by omega) (by show _ = tpF th h v tt.toInt (i + 1); unfold tpF; first | (rw [if_neg (fun q => by rw [hth] at q; exact absurd q.1 (by decide))]; exact hf) | (rw [if_pos ⟨hth, Or.inl (by omega)⟩]; exact hxi) | (rcases h28 with q | q; (first | omega | (rw [if_pos ⟨hth, Or.inr q.2⟩]; exact hxi)); (first | omega | (rw [if_neg (fun z => by rcases z.2 with y | y; omega; exact q.2 y)]; exact hf)))) (by omega) _ _ hP hS ls (lv_sub hl [1, 2, 3, 0] rfl)
            · refine lv_iload_n hx hb dX2_firstAt_34 rfl (lv_at hl 3 rfl) ?_
              refine lv_istore_n (lv' := [(2, .int x), (0, .ref q0), (1, .int tt), (3, .int x)]) hx hb dX2_firstAt_35 rfl hl (by decide) rfl (fun ls hl => ?_)
              refine x_iinc (k := 3) hx hb (1) (by decide) dX2_firstAt_36 hl rfl (by decide) (by omega) (by omega) (fun v36 ls e36 hl => ?_)
              have hl : lv_has ls 4 [(3, .int v36), (2, .int x), (0, .ref q0), (1, .int tt)] := hl
              refine lv_goto (tgt := 4) hx hb dX2_firstAt_39 (by decide) ?_
              exact ih4 (i + 1) v36 x (by omega) (by omega) (by show _ = tpF th h v tt.toInt (i + 1); unfold tpF; first | (rw [if_neg (fun q => by rw [hth] at q; exact absurd q.1 (by decide))]; exact hf) | (rw [if_pos ⟨hth, Or.inl (by omega)⟩]; exact hxi) | (rcases h28 with q | q; (first | omega | (rw [if_pos ⟨hth, Or.inr q.2⟩]; exact hxi)); (first | omega | (rw [if_neg (fun z => by rcases z.2 with y | y; omega; exact q.2 y)]; exact hf)))) (by omega) _ _ hP hS ls (lv_sub hl [2, 3, 1, 0] rfl)
  exact loop4 (_ + 1) 0 v2 v0 (Nat.zero_le _) (by omega) (by rw [e0]; rfl) (Nat.lt_succ_self _) _ _ hP hS ls (lv_sub hl [2, 3, 1, 0] rfl)
--== X2_firstAt
set_option maxHeartbeats 4000000 in
set_option maxRecDepth 100000 in
theorem c_X2_nextFirst (l : Launch) (dC : Nat → ClassId) (dI : Nat → Nat → Nat) (cI cJ cZ : ClassId) (q0 q1 q2 q3 : Nat) (sz : Nat) (T : Nat → Int32) (G : Nat → Int64) (V : Nat → Int32) (N : Int32) (th : Nat → Bool) (h v : Nat → Int) (hL : LOK T G V th h v) (tt : Int32) (ht0 : 0 ≤ tt.toInt) (ht1 : tt.toInt ≤ 1000000) : Met l yX2_nextFirst wsX2_nextFirst ({ frames := 4, cells := 0, slots := 0, locals := 99 }) (va_Pc [.ref q0, .int tt] (x_B (dC, dI) vwCl (tysN cI cJ cZ) [(q0, .inr (2, [.ref q1, .ref q2, .ref q3, .int N])), (q1, .inl (cZ, 24, .inl T)), (q2, .inl (cJ, 24, .inr (.inl G))), (q3, .inl (cI, 24, .inl V))] sz)) (va_Qi (fun (r : Int32) (_ : Unit) => r.toInt = nxF th h v tt.toInt (tpF th h v tt.toInt 24) 24) (fun _ _ => True) (va_A [] sz)) 0 0 (va_A [] sz) := by
  refine x_ofR (cc := cX2_nextFirst) (maxL := 5) (ret := (some .int)) (own := RX2) (by decide) rfl rfl (Nat.le_of_ble_eq_true rfl) (lvs := [(0, .ref q0), (1, .int tt)]) rfl ?_
  intro pg e s mi args below meth co hx hb hr hml hown hts hlocks hsz hP hK ls hl
  subst hsz
  generalize hAe : (va_A [] s.heap.size) = A
  have hA : ∀ q : Nat, s.heap.size ≤ q → A q := fun q h => by rw [← hAe]; exact Or.inr h
  have hS : va_S A s.heap s.heap [] := va_S.rf
  refine lv_aload_n hx hb dX2_nextFirst_0 rfl (lv_at hl 0 rfl) ?_
  refine lv_iload_n hx hb dX2_nextFirst_1 rfl (lv_at hl 1 rfl) ?_
  have hPc := hP.sub (ws' := [(q0, .inr (2, [.ref q1, .ref q2, .ref q3, .int N])), (q1, .inl (cZ, 24, .inl T)), (q2, .inl (cJ, 24, .inr (.inl G))), (q3, .inl (cI, 24, .inl V))]) [0, 1, 2, 3] rfl
  refine x_calli (va_runV (As := [.int tt]) (rest := []) ⟨hx, hb, hml, hown, hts⟩ (c_X2_firstAt l dC dI cI cJ cZ q0 q1 q2 q3 s.heap.size T G V N th h v hL tt ht0 ht1) (cwV 1 hts gX2_nextFirst_X2_firstAt rfl rfl rfl (by decide +kernel) ⟨Nat.le_of_ble_eq_true rfl, Nat.le_of_ble_eq_true rfl⟩) ⟨x_Bb, va_recv hK hP (ci := 2) (q0 := 0) rfl rfl, (fun U hU hW => ⟨rfl, by rw [hU], by rw [hU]; exact hPc, va_K.moved hW.alike hK⟩)⟩ rfl rfl hl.1 rfl (lv_room (Nat.le_of_ble_eq_true rfl)) dX2_nextFirst_2 ⟨Nat.zero_le _, Nat.zero_le _⟩) hS hA hP (fun v2 _ H locs h2 hP hS => ?_)
  have hrg := tp_rng th h v tt.toInt 24
  refine lv_istore_n (lv' := [(2, .int v2), (0, .ref q0), (1, .int tt)]) hx hb dX2_nextFirst_5 rfl hl (by decide) rfl (fun ls hl => ?_)
  refine x_ldc hx hb hown (hts (.constant RX2 47 (1000001)) (List.mem_of_getElem? (i := 1) rfl)) dX2_nextFirst_6 (1000001) (by decide) (fun v6 e6 => ?_)
  refine lv_istore_n (lv' := [(3, .int v6), (2, .int v2), (0, .ref q0), (1, .int tt)]) hx hb dX2_nextFirst_8 rfl hl (by decide) rfl (fun ls hl => ?_)
  refine x_iconst hx hb dX2_nextFirst_9 (0) (by decide) (fun v9 e9 => ?_)
  refine lv_istore (lv' := [(4, .int v9), (3, .int v6), (2, .int v2), (0, .ref q0), (1, .int tt)]) hx hb dX2_nextFirst_10 hl (by decide) rfl (fun ls hl => ?_)
  have loop12 : ∀ (fu : Nat) (i : Nat) (x : Int32) (y : Int32), (i ≤ 24) → (x.toInt = (i : Int)) → (y.toInt = nxF th h v tt.toInt (tpF th h v tt.toInt 24) i) → (24 - i < fu) → ∀ (H : Heap) (locs : List Loc), va_P (dC, dI) vwCl [(q0, .inr (2, [.ref q1, .ref q2, .ref q3, .int N])), (q1, .inl (cZ, 24, .inl T)), (q2, .inl (cJ, 24, .inr (.inl G))), (q3, .inl (cI, 24, .inl V))] H → va_S A s.heap H locs → ∀ (ls : Array Slot), lv_has ls 5 [(0, .ref q0), (1, .int tt), (2, .int v2), (3, .int y), (4, .int x)] → W pg l e (headSpec wsX2_nextFirst ({ frames := 4, cells := 0, slots := 0, locals := 99 })).room s mi args below meth co H locs 0 0 (MQ below (va_Qi (fun (r : Int32) (_ : Unit) => r.toInt = nxF th h v tt.toInt (tpF th h v tt.toInt 24) 24) (fun _ _ => True) A) args s 0 0 A) (F0 mi 12 ls []) := by
    intro fu
    induction fu with
    | zero => intro i x y hi hxi hy hn; exact absurd hn (Nat.not_lt_zero _)
    | succ fu ih12 =>
      intro i x y hi hxi hy hn H locs hP hS ls hl
      refine lv_iload hx hb dX2_nextFirst_12 (lv_at hl 4 rfl) ?_
      refine x_bipush hx hb dX2_nextFirst_14 (24) (by decide) (fun v14 e14 => ?_)
      refine x_icmp_ge (tgt := 54) hx hb dX2_nextFirst_16 (by decide) (fun c16 => ?_) (fun c16 => ?_)
      · refine lv_iload_n hx hb dX2_nextFirst_54 rfl (lv_at hl 3 rfl) ?_
        exact x_iret hx hb hr hlocks hS () dX2_nextFirst_55 (fun t ht => trivial) (by have e9 : i = 24 := (by omega); subst e9; exact hy)
      · refine lv_aload_n hx hb dX2_nextFirst_19 rfl (lv_at hl 0 rfl) ?_
        refine va_get (D := (dC, dI)) (ci := 2) (v := .ref q1) (C := RX2) (T := TX2) (N := 4) hx hb hts (fun _ h => List.mem_cons_of_mem _ (List.mem_append_right _ h)) hown hK hP 0 rfl rfl 0 (by decide) (hts (.fieldLink RX2 9 "MovingHeap$Lines" "there" "[Z") (List.mem_of_getElem? (i := 2) rfl)) (fun _ h9 => h9) rfl dX2_nextFirst_20 ?_
        refine lv_iload hx hb dX2_nextFirst_23 (lv_at hl 4 rfl) ?_
        refine x_zald hx hb hK hP 1 2 rfl rfl (i) hxi (by omega) dX2_nextFirst_25 ?_
        refine x_if_eq (tgt := 48) hx hb dX2_nextFirst_26 (by decide) (fun c26 => ?_) (fun c26 => ?_)
        · have hth : th i = false := by cases q : th i with | false => rfl | true => have := ((hL i (by omega)).1 q).1; omega
          refine x_iinc (k := 4) hx hb (1) (by decide) dX2_nextFirst_48 hl rfl (by decide) (by omega) (by omega) (fun v48 ls e48 hl => ?_)
          have hl : lv_has ls 5 [(4, .int v48), (0, .ref q0), (1, .int tt), (2, .int v2), (3, .int y)] := hl
          refine lv_goto (tgt := 12) hx hb dX2_nextFirst_51 (by decide) ?_
          exact ih12 (i + 1) v48 y (by omega) (by omega) (by show _ = nxF th h v tt.toInt (tpF th h v tt.toInt 24) (i + 1); unfold nxF; first | (rw [if_neg (fun q => by rw [hth] at q; exact absurd q.1 (by decide))]; exact hy) | (rw [if_neg (fun q => hne q.2)]; exact hy) | (rw [if_pos ⟨hth, hne⟩, ← hy, ← h41]; exact e44)) (by omega) _ _ hP hS ls (lv_sub hl [1, 2, 3, 4, 0] rfl)
        · have hth : th i = true := by cases q : th i with | true => rfl | false => have := (hL i (by omega)).2 q; omega
          refine lv_iload hx hb dX2_nextFirst_29 (lv_at hl 4 rfl) ?_
          refine lv_iload_n hx hb dX2_nextFirst_31 rfl (lv_at hl 2 rfl) ?_
          refine x_icmp_eq (tgt := 48) hx hb dX2_nextFirst_32 (by decide) (fun c32 => ?_) (fun c32 => ?_)
          · have hne : ¬ ((i : Int) ≠ (tpF th h v tt.toInt 24)) := by omega
            refine x_iinc (k := 4) hx hb (1) (by decide) dX2_nextFirst_48 hl rfl (by decide) (by omega) (by omega) (fun v48 ls e48 hl => ?_)
            have hl : lv_has ls 5 [(4, .int v48), (0, .ref q0), (1, .int tt), (2, .int v2), (3, .int y)] := hl
            refine lv_goto (tgt := 12) hx hb dX2_nextFirst_51 (by decide) ?_
            exact ih12 (i + 1) v48 y (by omega) (by omega) (by show _ = nxF th h v tt.toInt (tpF th h v tt.toInt 24) (i + 1); unfold nxF; first | (rw [if_neg (fun q => by rw [hth] at q; exact absurd q.1 (by decide))]; exact hy) | (rw [if_neg (fun q => hne q.2)]; exact hy) | (rw [if_pos ⟨hth, hne⟩, ← hy, ← h41]; exact e44)) (by omega) _ _ hP hS ls (lv_sub hl [1, 2, 3, 4, 0] rfl)
          · have hne : (i : Int) ≠ (tpF th h v tt.toInt 24) := by omega
            have hrg2 : 0 ≤ (tpF th h v tt.toInt 24) ∧ (tpF th h v tt.toInt 24) < 24 ∧ th ((tpF th h v tt.toInt 24)).toNat = true := by rcases hrg with q | q; (exfalso; have := tp_none th h v tt.toInt 24 q i (by omega); rw [hth] at this; exact absurd this (by decide)); exact q
            refine lv_iload_n hx hb dX2_nextFirst_35 rfl (lv_at hl 3 rfl) ?_
            refine lv_aload_n hx hb dX2_nextFirst_36 rfl (lv_at hl 0 rfl) ?_
            refine lv_iload_n hx hb dX2_nextFirst_37 rfl (lv_at hl 2 rfl) ?_
            refine lv_iload hx hb dX2_nextFirst_38 (lv_at hl 4 rfl) ?_
            refine lv_iload_n hx hb dX2_nextFirst_40 rfl (lv_at hl 1 rfl) ?_
            have hPc := hP.sub (ws' := [(q0, .inr (2, [.ref q1, .ref q2, .ref q3, .int N])), (q1, .inl (cZ, 24, .inl T)), (q2, .inl (cJ, 24, .inr (.inl G))), (q3, .inl (cI, 24, .inl V))]) [0, 1, 2, 3] rfl
            refine x_calli (va_runV (As := [.int v2, .int x, .int tt]) (rest := [.int y]) ⟨hx, hb, hml, hown, hts⟩ (c_X2_endOfOrder l dC dI cI cJ cZ q0 q1 q2 q3 H.size T G V N th h v hL v2 x (tpF th h v tt.toInt 24).toNat i (by omega) hxi (by omega) (by omega) hrg2.2.2 hth tt ht0 ht1) (cwV 3 hts gX2_nextFirst_X2_endOfOrder rfl rfl rfl (by decide +kernel) ⟨Nat.le_of_ble_eq_true rfl, Nat.le_of_ble_eq_true rfl⟩) ⟨x_Bb, va_recv hK hP (ci := 2) (q0 := 0) rfl rfl, (fun U hU hW => ⟨rfl, by rw [hU], by rw [hU]; exact hPc, va_K.moved hW.alike hK⟩)⟩ rfl rfl hl.1 rfl (lv_room (Nat.le_of_ble_eq_true rfl)) dX2_nextFirst_41 ⟨Nat.zero_le _, Nat.zero_le _⟩) hS hA hP (fun v41 _ H locs h41 hP hS => ?_)
            refine x_imin hx hb (by rw [hml]; exact hl.1.symm) hown (hts (.methodLink RX2 57 Lib.Math.min.name) (List.mem_of_getElem? (i := 3) rfl)) (hts (.static Lib.Math.min.name) (List.mem_of_getElem? (i := 4) rfl)) (hts (.initialized "java/lang/Math") (List.mem_of_getElem? (i := 5) rfl)) (hts (.code Lib.Math.min.name Lib.Math.min.code 2 (some .int)) (List.mem_of_getElem? (i := 6) rfl)) (Nat.le_of_ble_eq_true rfl) (Nat.le_of_ble_eq_true rfl) (Nat.zero_le _) (Nat.zero_le _) dX2_nextFirst_44 (fun v44 e44 => ?_)
            refine lv_istore_n (lv' := [(3, .int v44), (0, .ref q0), (1, .int tt), (2, .int v2), (4, .int x)]) hx hb dX2_nextFirst_47 rfl hl (by decide) rfl (fun ls hl => ?_)
            refine x_iinc (k := 4) hx hb (1) (by decide) dX2_nextFirst_48 hl rfl (by decide) (by omega) (by omega) (fun v48 ls e48 hl => ?_)
            have hl : lv_has ls 5 [(4, .int v48), (3, .int v44), (0, .ref q0), (1, .int tt), (2, .int v2)] := hl
            refine lv_goto (tgt := 12) hx hb dX2_nextFirst_51 (by decide) ?_
            exact ih12 (i + 1) v48 v44 (by omega) (by omega) (by show _ = nxF th h v tt.toInt (tpF th h v tt.toInt 24) (i + 1); unfold nxF; first | (rw [if_neg (fun q => by rw [hth] at q; exact absurd q.1 (by decide))]; exact hy) | (rw [if_neg (fun q => hne q.2)]; exact hy) | (rw [if_pos ⟨hth, hne⟩, ← hy, ← h41]; exact e44)) (by omega) _ _ hP hS ls (lv_sub hl [2, 3, 4, 1, 0] rfl)
  exact loop12 (_ + 1) 0 v9 v6 (Nat.zero_le _) (by omega) (by rw [e6]; rfl) (Nat.lt_succ_self _) _ _ hP hS ls (lv_sub hl [3, 4, 2, 1, 0] rfl)
--== X2_nextFirst
set_option maxHeartbeats 4000000 in
set_option maxRecDepth 100000 in
theorem c_X2_rankOf (l : Launch) (dC : Nat → ClassId) (dI : Nat → Nat → Nat) (cI cJ cZ : ClassId) (q0 q1 q2 q3 : Nat) (sz : Nat) (T : Nat → Int32) (G : Nat → Int64) (V : Nat → Int32) (N : Int32) (th : Nat → Bool) (h v : Nat → Int) (hL : LOK T G V th h v) (z : Int32) (p : Nat) (hz : z.toInt = (p : Int)) (hp : p < 24) (htp : th p = true) (tt : Int32) (ht0 : 0 ≤ tt.toInt) (ht1 : tt.toInt ≤ 1000000) : Met l yX2_rankOf wsX2_rankOf ({ frames := 3, cells := 0, slots := 0, locals := 70 }) (va_Pc [.ref q0, .int z, .int tt] (x_B (dC, dI) vwCl (tysN cI cJ cZ) [(q0, .inr (2, [.ref q1, .ref q2, .ref q3, .int N])), (q1, .inl (cZ, 24, .inl T)), (q2, .inl (cJ, 24, .inr (.inl G))), (q3, .inl (cI, 24, .inl V))] sz)) (va_Qi (fun (r : Int32) (_ : Unit) => r.toInt = (rkF th h v tt.toInt p 24 : Int)) (fun _ _ => True) (va_A [] sz)) 0 0 (va_A [] sz) := by
  refine x_ofR (cc := cX2_rankOf) (maxL := 5) (ret := (some .int)) (own := RX2) (by decide) rfl rfl (Nat.le_of_ble_eq_true rfl) (lvs := [(0, .ref q0), (1, .int z), (2, .int tt)]) rfl ?_
  intro pg e s mi args below meth co hx hb hr hml hown hts hlocks hsz hP hK ls hl
  subst hsz
  generalize hAe : (va_A [] s.heap.size) = A
  have hA : ∀ q : Nat, s.heap.size ≤ q → A q := fun q h => by rw [← hAe]; exact Or.inr h
  have hS : va_S A s.heap s.heap [] := va_S.rf
  refine x_iconst hx hb dX2_rankOf_0 (0) (by decide) (fun v0 e0 => ?_)
  refine lv_istore_n (lv' := [(3, .int v0), (0, .ref q0), (1, .int z), (2, .int tt)]) hx hb dX2_rankOf_1 rfl hl (by decide) rfl (fun ls hl => ?_)
  refine x_iconst hx hb dX2_rankOf_2 (0) (by decide) (fun v2 e2 => ?_)
  refine lv_istore (lv' := [(4, .int v2), (3, .int v0), (0, .ref q0), (1, .int z), (2, .int tt)]) hx hb dX2_rankOf_3 hl (by decide) rfl (fun ls hl => ?_)
  have loop5 : ∀ (fu : Nat) (i : Nat) (x : Int32) (y : Int32), (i ≤ 24) → (x.toInt = (i : Int)) → (y.toInt = (rkF th h v tt.toInt p i : Int)) → (24 - i < fu) → ∀ (H : Heap) (locs : List Loc), va_P (dC, dI) vwCl [(q0, .inr (2, [.ref q1, .ref q2, .ref q3, .int N])), (q1, .inl (cZ, 24, .inl T)), (q2, .inl (cJ, 24, .inr (.inl G))), (q3, .inl (cI, 24, .inl V))] H → va_S A s.heap H locs → ∀ (ls : Array Slot), lv_has ls 5 [(0, .ref q0), (1, .int z), (2, .int tt), (3, .int y), (4, .int x)] → W pg l e (headSpec wsX2_rankOf ({ frames := 3, cells := 0, slots := 0, locals := 70 })).room s mi args below meth co H locs 0 0 (MQ below (va_Qi (fun (r : Int32) (_ : Unit) => r.toInt = (rkF th h v tt.toInt p 24 : Int)) (fun _ _ => True) A) args s 0 0 A) (F0 mi 5 ls []) := by
    intro fu
    induction fu with
    | zero => intro i x y hi hxi hy hn; exact absurd hn (Nat.not_lt_zero _)
    | succ fu ih5 =>
      intro i x y hi hxi hy hn H locs hP hS ls hl
      have hrl := rk_le th h v tt.toInt p i
      refine lv_iload hx hb dX2_rankOf_5 (lv_at hl 4 rfl) ?_
      refine x_bipush hx hb dX2_rankOf_7 (24) (by decide) (fun v7 e7 => ?_)
      refine x_icmp_ge (tgt := 42) hx hb dX2_rankOf_9 (by decide) (fun c9 => ?_) (fun c9 => ?_)
      · refine lv_iload_n hx hb dX2_rankOf_42 rfl (lv_at hl 3 rfl) ?_
        exact x_iret hx hb hr hlocks hS () dX2_rankOf_43 (fun t ht => trivial) (by have e9 : i = 24 := (by omega); subst e9; exact hy)
      · refine lv_aload_n hx hb dX2_rankOf_12 rfl (lv_at hl 0 rfl) ?_
        refine va_get (D := (dC, dI)) (ci := 2) (v := .ref q1) (C := RX2) (T := TX2) (N := 4) hx hb hts (fun _ h => List.mem_cons_of_mem _ (List.mem_append_right _ h)) hown hK hP 0 rfl rfl 0 (by decide) (hts (.fieldLink RX2 9 "MovingHeap$Lines" "there" "[Z") (List.mem_of_getElem? (i := 1) rfl)) (fun _ h9 => h9) rfl dX2_rankOf_13 ?_
        refine lv_iload hx hb dX2_rankOf_16 (lv_at hl 4 rfl) ?_
        refine x_zald hx hb hK hP 1 2 rfl rfl (i) hxi (by omega) dX2_rankOf_18 ?_
        refine x_if_eq (tgt := 36) hx hb dX2_rankOf_19 (by decide) (fun c19 => ?_) (fun c19 => ?_)
        · have hth : th i = false := by cases q : th i with | false => rfl | true => have := ((hL i (by omega)).1 q).1; omega
          refine x_iinc (k := 4) hx hb (1) (by decide) dX2_rankOf_36 hl rfl (by decide) (by omega) (by omega) (fun v36 ls e36 hl => ?_)
          have hl : lv_has ls 5 [(4, .int v36), (0, .ref q0), (1, .int z), (2, .int tt), (3, .int y)] := hl
          refine lv_goto (tgt := 5) hx hb dX2_rankOf_39 (by decide) ?_
          exact ih5 (i + 1) v36 y (by omega) (by omega) (by show _ = ((rkF th h v tt.toInt p (i + 1) : Nat) : Int); unfold rkF; first | (rw [if_neg (fun q => by rw [hth] at q; exact absurd q.1 (by decide))]; omega) | (rcases h27 with q | q; (first | omega | (rw [if_pos ⟨hth, q.2⟩]; omega)); (first | omega | (rw [if_neg (fun z => q.2 z.2)]; omega)))) (by omega) _ _ hP hS ls (lv_sub hl [1, 2, 3, 4, 0] rfl)
        · have hth : th i = true := by cases q : th i with | true => rfl | false => have := (hL i (by omega)).2 q; omega
          refine lv_aload_n hx hb dX2_rankOf_22 rfl (lv_at hl 0 rfl) ?_
          refine lv_iload hx hb dX2_rankOf_23 (lv_at hl 4 rfl) ?_
          refine lv_iload_n hx hb dX2_rankOf_25 rfl (lv_at hl 1 rfl) ?_
          refine lv_iload_n hx hb dX2_rankOf_26 rfl (lv_at hl 2 rfl) ?_
          have hPc := hP.sub (ws' := [(q0, .inr (2, [.ref q1, .ref q2, .ref q3, .int N])), (q1, .inl (cZ, 24, .inl T)), (q2, .inl (cJ, 24, .inr (.inl G))), (q3, .inl (cI, 24, .inl V))]) [0, 1, 2, 3] rfl
          refine x_calli (va_runV (As := [.int x, .int z, .int tt]) (rest := []) ⟨hx, hb, hml, hown, hts⟩ (c_X2_isBefore l dC dI cI cJ cZ q0 q1 q2 q3 H.size T G V N th h v hL x z i p hxi hz (by omega) hp hth htp tt ht0 (by omega)) (cwV 3 hts gX2_rankOf_X2_isBefore rfl rfl rfl (by decide +kernel) ⟨Nat.le_of_ble_eq_true rfl, Nat.le_of_ble_eq_true rfl⟩) ⟨x_Bb, va_recv hK hP (ci := 2) (q0 := 0) rfl rfl, (fun U hU hW => ⟨rfl, by rw [hU], by rw [hU]; exact hPc, va_K.moved hW.alike hK⟩)⟩ rfl rfl hl.1 rfl (lv_room (Nat.le_of_ble_eq_true rfl)) dX2_rankOf_27 ⟨Nat.zero_le _, Nat.zero_le _⟩) hS hA hP (fun v27 _ H locs h27 hP hS => ?_)
          refine x_if_eq (tgt := 36) hx hb dX2_rankOf_30 (by decide) (fun c30 => ?_) (fun c30 => ?_)
          · refine x_iinc (k := 4) hx hb (1) (by decide) dX2_rankOf_36 hl rfl (by decide) (by omega) (by omega) (fun v36 ls e36 hl => ?_)
            have hl : lv_has ls 5 [(4, .int v36), (0, .ref q0), (1, .int z), (2, .int tt), (3, .int y)] := hl
            refine lv_goto (tgt := 5) hx hb dX2_rankOf_39 (by decide) ?_
            exact ih5 (i + 1) v36 y (by omega) (by omega) (by show _ = ((rkF th h v tt.toInt p (i + 1) : Nat) : Int); unfold rkF; first | (rw [if_neg (fun q => by rw [hth] at q; exact absurd q.1 (by decide))]; omega) | (rcases h27 with q | q; (first | omega | (rw [if_pos ⟨hth, q.2⟩]; omega)); (first | omega | (rw [if_neg (fun z => q.2 z.2)]; omega)))) (by omega) _ _ hP hS ls (lv_sub hl [1, 2, 3, 4, 0] rfl)
          · refine x_iinc (k := 3) hx hb (1) (by decide) dX2_rankOf_33 hl rfl (by decide) (by omega) (by omega) (fun v33 ls e33 hl => ?_)
            have hl : lv_has ls 5 [(3, .int v33), (0, .ref q0), (1, .int z), (2, .int tt), (4, .int x)] := hl
            refine x_iinc (k := 4) hx hb (1) (by decide) dX2_rankOf_36 hl rfl (by decide) (by omega) (by omega) (fun v36 ls e36 hl => ?_)
            have hl : lv_has ls 5 [(4, .int v36), (3, .int v33), (0, .ref q0), (1, .int z), (2, .int tt)] := hl
            refine lv_goto (tgt := 5) hx hb dX2_rankOf_39 (by decide) ?_
            exact ih5 (i + 1) v36 v33 (by omega) (by omega) (by show _ = ((rkF th h v tt.toInt p (i + 1) : Nat) : Int); unfold rkF; first | (rw [if_neg (fun q => by rw [hth] at q; exact absurd q.1 (by decide))]; omega) | (rcases h27 with q | q; (first | omega | (rw [if_pos ⟨hth, q.2⟩]; omega)); (first | omega | (rw [if_neg (fun z => q.2 z.2)]; omega)))) (by omega) _ _ hP hS ls (lv_sub hl [2, 3, 4, 1, 0] rfl)
  exact loop5 (_ + 1) 0 v2 v0 (Nat.zero_le _) (by omega) (by rw [e0]; rfl) (Nat.lt_succ_self _) _ _ hP hS ls (lv_sub hl [2, 3, 4, 1, 0] rfl)
--== X2_rankOf
set_option maxHeartbeats 4000000 in
set_option maxRecDepth 100000 in
theorem c_X2_pointOfRank (l : Launch) (dC : Nat → ClassId) (dI : Nat → Nat → Nat) (cI cJ cZ : ClassId) (q0 q1 q2 q3 : Nat) (sz : Nat) (T : Nat → Int32) (G : Nat → Int64) (V : Nat → Int32) (N : Int32) (th : Nat → Bool) (h v : Nat → Int) (hL : LOK T G V th h v) (k : Int32) (tt : Int32) (ht0 : 0 ≤ tt.toInt) (ht1 : tt.toInt ≤ 1000000) : Met l yX2_pointOfRank wsX2_pointOfRank ({ frames := 4, cells := 0, slots := 0, locals := 94 }) (va_Pc [.ref q0, .int k, .int tt] (x_B (dC, dI) vwCl (tysN cI cJ cZ) [(q0, .inr (2, [.ref q1, .ref q2, .ref q3, .int N])), (q1, .inl (cZ, 24, .inl T)), (q2, .inl (cJ, 24, .inr (.inl G))), (q3, .inl (cI, 24, .inl V))] sz)) (va_Qi (fun (r : Int32) (_ : Unit) => (∃ p : Nat, p < 24 ∧ r.toInt = (p : Int) ∧ th p = true ∧ (rkF th h v tt.toInt p 24 : Int) = k.toInt ∧ ∀ q : Nat, q < p → ¬ (th q = true ∧ (rkF th h v tt.toInt q 24 : Int) = k.toInt)) ∨ (r.toInt = -1 ∧ ∀ p : Nat, p < 24 → ¬ (th p = true ∧ (rkF th h v tt.toInt p 24 : Int) = k.toInt))) (fun _ _ => True) (va_A [] sz)) 0 0 (va_A [] sz) := by
  refine x_ofR (cc := cX2_pointOfRank) (maxL := 4) (ret := (some .int)) (own := RX2) (by decide) rfl rfl (Nat.le_of_ble_eq_true rfl) (lvs := [(0, .ref q0), (1, .int k), (2, .int tt)]) rfl ?_
  intro pg e s mi args below meth co hx hb hr hml hown hts hlocks hsz hP hK ls hl
  subst hsz
  generalize hAe : (va_A [] s.heap.size) = A
  have hA : ∀ q : Nat, s.heap.size ≤ q → A q := fun q h => by rw [← hAe]; exact Or.inr h
  have hS : va_S A s.heap s.heap [] := va_S.rf
  refine x_iconst hx hb dX2_pointOfRank_0 (0) (by decide) (fun v0 e0 => ?_)
  refine lv_istore_n (lv' := [(3, .int v0), (0, .ref q0), (1, .int k), (2, .int tt)]) hx hb dX2_pointOfRank_1 rfl hl (by decide) rfl (fun ls hl => ?_)
  have loop2 : ∀ (fu : Nat) (i : Nat) (x : Int32), (i ≤ 24) → (x.toInt = (i : Int)) → (∀ p : Nat, p < i → ¬ (th p = true ∧ (rkF th h v tt.toInt p 24 : Int) = k.toInt)) → (24 - i < fu) → ∀ (H : Heap) (locs : List Loc), va_P (dC, dI) vwCl [(q0, .inr (2, [.ref q1, .ref q2, .ref q3, .int N])), (q1, .inl (cZ, 24, .inl T)), (q2, .inl (cJ, 24, .inr (.inl G))), (q3, .inl (cI, 24, .inl V))] H → va_S A s.heap H locs → ∀ (ls : Array Slot), lv_has ls 4 [(0, .ref q0), (1, .int k), (2, .int tt), (3, .int x)] → W pg l e (headSpec wsX2_pointOfRank ({ frames := 4, cells := 0, slots := 0, locals := 94 })).room s mi args below meth co H locs 0 0 (MQ below (va_Qi (fun (r : Int32) (_ : Unit) => (∃ p : Nat, p < 24 ∧ r.toInt = (p : Int) ∧ th p = true ∧ (rkF th h v tt.toInt p 24 : Int) = k.toInt ∧ ∀ q : Nat, q < p → ¬ (th q = true ∧ (rkF th h v tt.toInt q 24 : Int) = k.toInt)) ∨ (r.toInt = -1 ∧ ∀ p : Nat, p < 24 → ¬ (th p = true ∧ (rkF th h v tt.toInt p 24 : Int) = k.toInt))) (fun _ _ => True) A) args s 0 0 A) (F0 mi 2 ls []) := by
    intro fu
    induction fu with
    | zero => intro i x hi hxi hno hn; exact absurd hn (Nat.not_lt_zero _)
    | succ fu ih2 =>
      intro i x hi hxi hno hn H locs hP hS ls hl
      refine lv_iload_n hx hb dX2_pointOfRank_2 rfl (lv_at hl 3 rfl) ?_
      refine x_bipush hx hb dX2_pointOfRank_3 (24) (by decide) (fun v3 e3 => ?_)
      refine x_icmp_ge (tgt := 35) hx hb dX2_pointOfRank_5 (by decide) (fun c5 => ?_) (fun c5 => ?_)
      · refine x_iconst hx hb dX2_pointOfRank_35 (-1) (by decide) (fun v35 e35 => ?_)
        exact x_iret hx hb hr hlocks hS () dX2_pointOfRank_36 (fun t ht => trivial) (Or.inr ⟨by omega, fun p hp => hno p (by omega)⟩)
      · refine lv_aload_n hx hb dX2_pointOfRank_8 rfl (lv_at hl 0 rfl) ?_
        refine va_get (D := (dC, dI)) (ci := 2) (v := .ref q1) (C := RX2) (T := TX2) (N := 4) hx hb hts (fun _ h => List.mem_cons_of_mem _ (List.mem_append_right _ h)) hown hK hP 0 rfl rfl 0 (by decide) (hts (.fieldLink RX2 9 "MovingHeap$Lines" "there" "[Z") (List.mem_of_getElem? (i := 1) rfl)) (fun _ h9 => h9) rfl dX2_pointOfRank_9 ?_
        refine lv_iload_n hx hb dX2_pointOfRank_12 rfl (lv_at hl 3 rfl) ?_
        refine x_zald hx hb hK hP 1 2 rfl rfl (i) hxi (by omega) dX2_pointOfRank_13 ?_
        refine x_if_eq (tgt := 29) hx hb dX2_pointOfRank_14 (by decide) (fun c14 => ?_) (fun c14 => ?_)
        · have hth : th i = false := by cases q : th i with | false => rfl | true => have := ((hL i (by omega)).1 q).1; omega
          refine x_iinc (k := 3) hx hb (1) (by decide) dX2_pointOfRank_29 hl rfl (by decide) (by omega) (by omega) (fun v29 ls e29 hl => ?_)
          have hl : lv_has ls 4 [(3, .int v29), (0, .ref q0), (1, .int k), (2, .int tt)] := hl
          refine lv_goto (tgt := 2) hx hb dX2_pointOfRank_32 (by decide) ?_
          exact ih2 (i + 1) v29 (by omega) (by omega) (fun p h => by rcases Nat.lt_or_eq_of_le (Nat.lt_succ_iff.mp h) with q | q; exact hno p q; subst q; first | exact (fun z => by rw [hth] at z; exact absurd z.1 (by decide)) | exact (fun z => by omega)) (by omega) _ _ hP hS ls (lv_sub hl [1, 2, 3, 0] rfl)
        · have hth : th i = true := by cases q : th i with | true => rfl | false => have := (hL i (by omega)).2 q; omega
          refine lv_aload_n hx hb dX2_pointOfRank_17 rfl (lv_at hl 0 rfl) ?_
          refine lv_iload_n hx hb dX2_pointOfRank_18 rfl (lv_at hl 3 rfl) ?_
          refine lv_iload_n hx hb dX2_pointOfRank_19 rfl (lv_at hl 2 rfl) ?_
          have hPc := hP.sub (ws' := [(q0, .inr (2, [.ref q1, .ref q2, .ref q3, .int N])), (q1, .inl (cZ, 24, .inl T)), (q2, .inl (cJ, 24, .inr (.inl G))), (q3, .inl (cI, 24, .inl V))]) [0, 1, 2, 3] rfl
          refine x_calli (va_runV (As := [.int x, .int tt]) (rest := []) ⟨hx, hb, hml, hown, hts⟩ (c_X2_rankOf l dC dI cI cJ cZ q0 q1 q2 q3 H.size T G V N th h v hL x i hxi (by omega) hth tt ht0 ht1) (cwV 2 hts gX2_pointOfRank_X2_rankOf rfl rfl rfl (by decide +kernel) ⟨Nat.le_of_ble_eq_true rfl, Nat.le_of_ble_eq_true rfl⟩) ⟨x_Bb, va_recv hK hP (ci := 2) (q0 := 0) rfl rfl, (fun U hU hW => ⟨rfl, by rw [hU], by rw [hU]; exact hPc, va_K.moved hW.alike hK⟩)⟩ rfl rfl hl.1 rfl (lv_room (Nat.le_of_ble_eq_true rfl)) dX2_pointOfRank_20 ⟨Nat.zero_le _, Nat.zero_le _⟩) hS hA hP (fun v20 _ H locs h20 hP hS => ?_)
          refine lv_iload_n hx hb dX2_pointOfRank_23 rfl (lv_at hl 1 rfl) ?_
          refine x_icmp_ne (tgt := 29) hx hb dX2_pointOfRank_24 (by decide) (fun c24 => ?_) (fun c24 => ?_)
          · refine x_iinc (k := 3) hx hb (1) (by decide) dX2_pointOfRank_29 hl rfl (by decide) (by omega) (by omega) (fun v29 ls e29 hl => ?_)
            have hl : lv_has ls 4 [(3, .int v29), (0, .ref q0), (1, .int k), (2, .int tt)] := hl
            refine lv_goto (tgt := 2) hx hb dX2_pointOfRank_32 (by decide) ?_
            exact ih2 (i + 1) v29 (by omega) (by omega) (fun p h => by rcases Nat.lt_or_eq_of_le (Nat.lt_succ_iff.mp h) with q | q; exact hno p q; subst q; first | exact (fun z => by rw [hth] at z; exact absurd z.1 (by decide)) | exact (fun z => by omega)) (by omega) _ _ hP hS ls (lv_sub hl [1, 2, 3, 0] rfl)
          · refine lv_iload_n hx hb dX2_pointOfRank_27 rfl (lv_at hl 3 rfl) ?_
            exact x_iret hx hb hr hlocks hS () dX2_pointOfRank_28 (fun t ht => trivial) (Or.inl ⟨i, by omega, hxi, hth, by omega, hno⟩)
  exact loop2 (_ + 1) 0 v0 (Nat.zero_le _) (by omega) (fun _ h => absurd h (Nat.not_lt_zero _)) (Nat.lt_succ_self _) _ _ hP hS ls (lv_sub hl [1, 2, 3, 0] rfl)
--== X2_pointOfRank
set_option maxHeartbeats 4000000 in
set_option maxRecDepth 100000 in
theorem c_X2_lowestFree (l : Launch) (dC : Nat → ClassId) (dI : Nat → Nat → Nat) (cI cJ cZ : ClassId) (q0 q1 q2 q3 : Nat) (sz : Nat) (T : Nat → Int32) (G : Nat → Int64) (V : Nat → Int32) (N : Int32) (th : Nat → Bool) (h v : Nat → Int) (hL : LOK T G V th h v) : Met l yX2_lowestFree wsX2_lowestFree ({ frames := 0, cells := 0, slots := 0, locals := 0 }) (va_Pc [.ref q0] (x_B (dC, dI) vwCl (tysN cI cJ cZ) [(q0, .inr (2, [.ref q1, .ref q2, .ref q3, .int N])), (q1, .inl (cZ, 24, .inl T)), (q2, .inl (cJ, 24, .inr (.inl G))), (q3, .inl (cI, 24, .inl V))] sz)) (va_Qi (fun (r : Int32) (_ : Unit) => (∃ p : Nat, p < 24 ∧ r.toInt = (p : Int) ∧ th p = false ∧ ∀ q : Nat, q < p → th q = true) ∨ (r.toInt = -1 ∧ ∀ p : Nat, p < 24 → th p = true)) (fun _ _ => True) (va_A [] sz)) 0 0 (va_A [] sz) := by
  refine x_ofR (cc := cX2_lowestFree) (maxL := 2) (ret := (some .int)) (own := RX2) (by decide) rfl rfl (Nat.le_of_ble_eq_true rfl) (lvs := [(0, .ref q0)]) rfl ?_
  intro pg e s mi args below meth co hx hb hr hml hown hts hlocks hsz hP hK ls hl
  subst hsz
  generalize hAe : (va_A [] s.heap.size) = A
  have hA : ∀ q : Nat, s.heap.size ≤ q → A q := fun q h => by rw [← hAe]; exact Or.inr h
  have hS : va_S A s.heap s.heap [] := va_S.rf
  refine x_iconst hx hb dX2_lowestFree_0 (0) (by decide) (fun v0 e0 => ?_)
  refine lv_istore_n (lv' := [(1, .int v0), (0, .ref q0)]) hx hb dX2_lowestFree_1 rfl hl (by decide) rfl (fun ls hl => ?_)
  have loop2 : ∀ (fu : Nat) (i : Nat) (x : Int32), (i ≤ 24) → (x.toInt = (i : Int)) → (∀ p : Nat, p < i → th p = true) → (24 - i < fu) → ∀ (H : Heap) (locs : List Loc), va_P (dC, dI) vwCl [(q0, .inr (2, [.ref q1, .ref q2, .ref q3, .int N])), (q1, .inl (cZ, 24, .inl T)), (q2, .inl (cJ, 24, .inr (.inl G))), (q3, .inl (cI, 24, .inl V))] H → va_S A s.heap H locs → ∀ (ls : Array Slot), lv_has ls 2 [(0, .ref q0), (1, .int x)] → W pg l e (headSpec wsX2_lowestFree ({ frames := 0, cells := 0, slots := 0, locals := 0 })).room s mi args below meth co H locs 0 0 (MQ below (va_Qi (fun (r : Int32) (_ : Unit) => (∃ p : Nat, p < 24 ∧ r.toInt = (p : Int) ∧ th p = false ∧ ∀ q : Nat, q < p → th q = true) ∨ (r.toInt = -1 ∧ ∀ p : Nat, p < 24 → th p = true)) (fun _ _ => True) A) args s 0 0 A) (F0 mi 2 ls []) := by
    intro fu
    induction fu with
    | zero => intro i x hi hxi hno hn; exact absurd hn (Nat.not_lt_zero _)
    | succ fu ih2 =>
      intro i x hi hxi hno hn H locs hP hS ls hl
      refine lv_iload_n hx hb dX2_lowestFree_2 rfl (lv_at hl 1 rfl) ?_
      refine x_bipush hx hb dX2_lowestFree_3 (24) (by decide) (fun v3 e3 => ?_)
      refine x_icmp_ge (tgt := 25) hx hb dX2_lowestFree_5 (by decide) (fun c5 => ?_) (fun c5 => ?_)
      · refine x_iconst hx hb dX2_lowestFree_25 (-1) (by decide) (fun v25 e25 => ?_)
        exact x_iret hx hb hr hlocks hS () dX2_lowestFree_26 (fun t ht => trivial) (Or.inr ⟨by omega, fun p hp => hno p (by omega)⟩)
      · refine lv_aload_n hx hb dX2_lowestFree_8 rfl (lv_at hl 0 rfl) ?_
        refine va_get (D := (dC, dI)) (ci := 2) (v := .ref q1) (C := RX2) (T := TX2) (N := 4) hx hb hts (fun _ h => List.mem_cons_of_mem _ (List.mem_append_right _ h)) hown hK hP 0 rfl rfl 0 (by decide) (hts (.fieldLink RX2 9 "MovingHeap$Lines" "there" "[Z") (List.mem_of_getElem? (i := 1) rfl)) (fun _ h9 => h9) rfl dX2_lowestFree_9 ?_
        refine lv_iload_n hx hb dX2_lowestFree_12 rfl (lv_at hl 1 rfl) ?_
        refine x_zald hx hb hK hP 1 2 rfl rfl (i) hxi (by omega) dX2_lowestFree_13 ?_
        refine x_if_ne (tgt := 19) hx hb dX2_lowestFree_14 (by decide) (fun c14 => ?_) (fun c14 => ?_)
        · have hth : th i = true := by cases q : th i with | true => rfl | false => have := (hL i (by omega)).2 q; omega
          refine x_iinc (k := 1) hx hb (1) (by decide) dX2_lowestFree_19 hl rfl (by decide) (by omega) (by omega) (fun v19 ls e19 hl => ?_)
          have hl : lv_has ls 2 [(1, .int v19), (0, .ref q0)] := hl
          refine lv_goto (tgt := 2) hx hb dX2_lowestFree_22 (by decide) ?_
          exact ih2 (i + 1) v19 (by omega) (by omega) (fun p h => by rcases Nat.lt_or_eq_of_le (Nat.lt_succ_iff.mp h) with q | q; exact hno p q; subst q; exact hth) (by omega) _ _ hP hS ls (lv_sub hl [1, 0] rfl)
        · have hth : th i = false := by cases q : th i with | false => rfl | true => have := ((hL i (by omega)).1 q).1; omega
          refine lv_iload_n hx hb dX2_lowestFree_17 rfl (lv_at hl 1 rfl) ?_
          exact x_iret hx hb hr hlocks hS () dX2_lowestFree_18 (fun t ht => trivial) (Or.inl ⟨i, by omega, hxi, hth, hno⟩)
  exact loop2 (_ + 1) 0 v0 (Nat.zero_le _) (by omega) (fun _ h => absurd h (Nat.not_lt_zero _)) (Nat.lt_succ_self _) _ _ hP hS ls (lv_sub hl [1, 0] rfl)
--== X2_lowestFree
set_option maxHeartbeats 4000000 in
set_option maxRecDepth 100000 in
theorem c_X2_setLine (l : Launch) (dC : Nat → ClassId) (dI : Nat → Nat → Nat) (cI cJ cZ : ClassId) (q0 q1 q2 q3 : Nat) (sz : Nat) (T : Nat → Int32) (G : Nat → Int64) (V : Nat → Int32) (N : Int32) (th : Nat → Bool) (h v : Nat → Int) (hL : LOK T G V th h v) (hN : N.toInt = (cntF th 24 : Int)) (x : Int32) (p : Nat) (hxp : x.toInt = (p : Int)) (hp : p < 24) (y : Int64) (z : Int32) (hy1 : -300000000 ≤ y.toInt) (hy2 : y.toInt ≤ 300000000) (hz1 : -1000 ≤ z.toInt) (hz2 : z.toInt ≤ 1000) : Met l yX2_setLine wsX2_setLine ({ frames := 0, cells := 0, slots := 0, locals := 0 }) (va_Pc [.ref q0, .int x, .long y, .int z] (x_M (dC, dI) vwCl (tysN cI cJ cZ) [(q0, .inr (2, [.ref q1, .ref q2, .ref q3, .int N])), (q1, .inl (cZ, 24, .inl T)), (q2, .inl (cJ, 24, .inr (.inl G))), (q3, .inl (cI, 24, .inl V))] sz)) (va_Qv (fun (u : ((Nat → Int32) × (Nat → Int64) × (Nat → Int32) × Int32)) => LOK u.1 u.2.1 u.2.2.1 (updB th p true) (updN h p y.toInt) (updN v p z.toInt) ∧ u.2.2.2.toInt = (cntF (updB th p true) 24 : Int)) (fun (u : ((Nat → Int32) × (Nat → Int64) × (Nat → Int32) × Int32)) t => va_P (dC, dI) vwCl [(q0, .inr (2, [.ref q1, .ref q2, .ref q3, .int u.2.2.2])), (q1, .inl (cZ, 24, .inl u.1)), (q2, .inl (cJ, 24, .inr (.inl u.2.1))), (q3, .inl (cI, 24, .inl u.2.2.1))] t.heap) (va_A [(q0, .inr (2, [.ref q1, .ref q2, .ref q3, .int N])), (q1, .inl (cZ, 24, .inl T)), (q2, .inl (cJ, 24, .inr (.inl G))), (q3, .inl (cI, 24, .inl V))] sz)) 0 0 (va_A [(q0, .inr (2, [.ref q1, .ref q2, .ref q3, .int N])), (q1, .inl (cZ, 24, .inl T)), (q2, .inl (cJ, 24, .inr (.inl G))), (q3, .inl (cI, 24, .inl V))] sz) := by
  refine x_ofM (cc := cX2_setLine) (maxL := 5) (ret := none) (own := RX2) (by decide) rfl rfl (Nat.le_of_ble_eq_true rfl) (lvs := [(0, .ref q0), (1, .int x), (2, .long y), (4, .int z)]) rfl ?_
  intro pg e s mi args below meth co hx hb hr hml hown hts hlocks hin hsz hP hK hD ls hl
  subst hsz
  generalize hAe : (va_A [(q0, .inr (2, [.ref q1, .ref q2, .ref q3, .int N])), (q1, .inl (cZ, 24, .inl T)), (q2, .inl (cJ, 24, .inr (.inl G))), (q3, .inl (cI, 24, .inl V))] s.heap.size) = A at hD ⊢
  have hA : ∀ q : Nat, s.heap.size ≤ q → A q := fun q h => by rw [← hAe]; exact Or.inr h
  have hS : va_S A s.heap s.heap [] := va_S.rf
  refine lv_iload_n hx hb dX2_setLine_0 rfl (lv_at hl 1 rfl) ?_
  refine x_if_lt (tgt := 10) hx hb dX2_setLine_1 (by decide) (fun c1 => ?_) (fun c1 => ?_)
  · exact absurd c1 (by omega)
  · refine lv_iload_n hx hb dX2_setLine_4 rfl (lv_at hl 1 rfl) ?_
    refine x_bipush hx hb dX2_setLine_5 (24) (by decide) (fun v5 e5 => ?_)
    refine x_icmp_lt (tgt := 11) hx hb dX2_setLine_7 (by decide) (fun c7 => ?_) (fun c7 => ?_)
    · have hcs := cnt_set th p true 24
      have hcl := cnt_le th 24
      refine lv_aload_n hx hb dX2_setLine_11 rfl (lv_at hl 0 rfl) ?_
      refine va_get (D := (dC, dI)) (ci := 2) (v := .ref q1) (C := RX2) (T := TX2) (N := 4) hx hb hts (fun _ h => List.mem_cons_of_mem _ (List.mem_append_right _ h)) hown hK hP 0 rfl rfl 0 (by decide) (hts (.fieldLink RX2 9 "MovingHeap$Lines" "there" "[Z") (List.mem_of_getElem? (i := 1) rfl)) (fun _ h9 => h9) rfl dX2_setLine_12 ?_
      refine lv_iload_n hx hb dX2_setLine_15 rfl (lv_at hl 1 rfl) ?_
      refine x_zald hx hb hK hP 1 2 rfl rfl (p) hxp hp dX2_setLine_16 ?_
      refine x_if_ne (tgt := 37) hx hb dX2_setLine_17 (by decide) (fun c17 => ?_) (fun c17 => ?_)
      · have hth : th p = true := by cases q : th p with | true => rfl | false => have := (hL p (by omega)).2 q; omega
        have hT1 := ((hL p hp).1 hth).1
        refine lv_aload_n hx hb dX2_setLine_37 rfl (lv_at hl 0 rfl) ?_
        refine va_get (D := (dC, dI)) (ci := 2) (v := .ref q2) (C := RX2) (T := TX2) (N := 4) hx hb hts (fun _ h => List.mem_cons_of_mem _ (List.mem_append_right _ h)) hown hK hP 0 rfl rfl 1 (by decide) (hts (.fieldLink RX2 15 "MovingHeap$Lines" "height" "[J") (List.mem_of_getElem? (i := 3) rfl)) (fun _ h9 => h9) rfl dX2_setLine_38 ?_
        refine lv_iload_n hx hb dX2_setLine_41 rfl (lv_at hl 1 rfl) ?_
        refine lv_lload_n hx hb dX2_setLine_42 rfl (lv_at hl 2 rfl) ?_
        refine x_last hx hb hK hP hD hS 2 1 rfl rfl (p) hxp hp dX2_setLine_43 (fun H locs hP hD hS => ?_)
        have hP : va_P (dC, dI) vwCl [(q0, .inr (2, [.ref q1, .ref q2, .ref q3, .int N])), (q1, .inl (cZ, 24, .inl T)), (q2, .inl (cJ, 24, .inr (.inl (vp_updL G p y)))), (q3, .inl (cI, 24, .inl V))] H := hP
        have hD : va_D A [(q0, .inr (2, [.ref q1, .ref q2, .ref q3, .int N])), (q1, .inl (cZ, 24, .inl T)), (q2, .inl (cJ, 24, .inr (.inl (vp_updL G p y)))), (q3, .inl (cI, 24, .inl V))] := hD
        refine lv_aload_n hx hb dX2_setLine_44 rfl (lv_at hl 0 rfl) ?_
        refine va_get (D := (dC, dI)) (ci := 2) (v := .ref q3) (C := RX2) (T := TX2) (N := 4) hx hb hts (fun _ h => List.mem_cons_of_mem _ (List.mem_append_right _ h)) hown hK hP 0 rfl rfl 2 (by decide) (hts (.fieldLink RX2 19 "MovingHeap$Lines" "velocity" "[I") (List.mem_of_getElem? (i := 4) rfl)) (fun _ h9 => h9) rfl dX2_setLine_45 ?_
        refine lv_iload_n hx hb dX2_setLine_48 rfl (lv_at hl 1 rfl) ?_
        refine lv_iload hx hb dX2_setLine_49 (lv_at hl 3 rfl) ?_
        refine x_iast hx hb hK hP hD hS 3 0 rfl rfl (p) hxp hp dX2_setLine_51 (fun H locs hP hD hS => ?_)
        have hP : va_P (dC, dI) vwCl [(q0, .inr (2, [.ref q1, .ref q2, .ref q3, .int N])), (q1, .inl (cZ, 24, .inl T)), (q2, .inl (cJ, 24, .inr (.inl (vp_updL G p y)))), (q3, .inl (cI, 24, .inl (upd V p z)))] H := hP
        have hD : va_D A [(q0, .inr (2, [.ref q1, .ref q2, .ref q3, .int N])), (q1, .inl (cZ, 24, .inl T)), (q2, .inl (cJ, 24, .inr (.inl (vp_updL G p y)))), (q3, .inl (cI, 24, .inl (upd V p z)))] := hD
        exact x_vret hx hb hr hlocks hS (T, vp_updL G p y, upd V p z, N) dX2_setLine_52 (fun t ht => by rw [ht]; exact hP) ⟨lok_set (y := y) (z := z) hL hp (by first | exact Or.inl ⟨rfl, by omega⟩ | exact Or.inr ⟨_, rfl, by omega⟩) hy1 hy2 hz1 hz2, by dsimp only; simp only [if_pos hp, if_true] at hcs; rw [hth] at hcs; simp at hcs; omega⟩
      · have hth : th p = false := by cases q : th p with | false => rfl | true => have := ((hL p (by omega)).1 q).1; omega
        refine lv_aload_n hx hb dX2_setLine_20 rfl (lv_at hl 0 rfl) ?_
        refine va_get (D := (dC, dI)) (ci := 2) (v := .ref q1) (C := RX2) (T := TX2) (N := 4) hx hb hts (fun _ h => List.mem_cons_of_mem _ (List.mem_append_right _ h)) hown hK hP 0 rfl rfl 0 (by decide) (hts (.fieldLink RX2 9 "MovingHeap$Lines" "there" "[Z") (List.mem_of_getElem? (i := 1) rfl)) (fun _ h9 => h9) rfl dX2_setLine_21 ?_
        refine lv_iload_n hx hb dX2_setLine_24 rfl (lv_at hl 1 rfl) ?_
        refine x_iconst hx hb dX2_setLine_25 (1) (by decide) (fun v25 e25 => ?_)
        refine x_zast hx hb hK hP hD hS 1 2 rfl rfl (p) hxp hp (by omega) dX2_setLine_26 (fun H locs hP hD hS => ?_)
        have hP : va_P (dC, dI) vwCl [(q0, .inr (2, [.ref q1, .ref q2, .ref q3, .int N])), (q1, .inl (cZ, 24, .inl (upd T p v25))), (q2, .inl (cJ, 24, .inr (.inl G))), (q3, .inl (cI, 24, .inl V))] H := hP
        have hD : va_D A [(q0, .inr (2, [.ref q1, .ref q2, .ref q3, .int N])), (q1, .inl (cZ, 24, .inl (upd T p v25))), (q2, .inl (cJ, 24, .inr (.inl G))), (q3, .inl (cI, 24, .inl V))] := hD
        refine lv_aload_n hx hb dX2_setLine_27 rfl (lv_at hl 0 rfl) ?_
        refine lv_dup hx hb dX2_setLine_28 rfl ?_
        refine va_get (D := (dC, dI)) (ci := 2) (v := .int N) (C := RX2) (T := TX2) (N := 4) hx hb hts (fun _ h => List.mem_cons_of_mem _ (List.mem_append_right _ h)) hown hK hP 0 rfl rfl 3 (by decide) (hts (.fieldLink RX2 23 "MovingHeap$Lines" "number" "I") (List.mem_of_getElem? (i := 2) rfl)) (fun _ h9 => h9) rfl dX2_setLine_29 ?_
        refine x_iconst hx hb dX2_setLine_32 (1) (by decide) (fun v32 e32 => ?_)
        refine x_iadd hx hb dX2_setLine_33 (by omega) (by omega) (fun v33 e33 => ?_)
        refine va_put (D := (dC, dI)) (ci := 2) (v := .int v33) (ty := .int) (C := RX2) (T := TX2) (N := 4) hx hb hts (fun _ h => List.mem_cons_of_mem _ (List.mem_append_right _ h)) tyX2 tyX2_ok nmX2 hown hK hP hD hS 0 rfl rfl 3 (by decide) (hts (.fieldLink RX2 23 "MovingHeap$Lines" "number" "I") (List.mem_of_getElem? (i := 2) rfl)) (fun _ h9 => h9) rfl (by decide +kernel) rfl rfl (Nat.le_of_ble_eq_true rfl) dX2_setLine_34 (fun H locs hP hD hS => ?_)
        have hP : va_P (dC, dI) vwCl [(q0, .inr (2, [.ref q1, .ref q2, .ref q3, .int v33])), (q1, .inl (cZ, 24, .inl (upd T p v25))), (q2, .inl (cJ, 24, .inr (.inl G))), (q3, .inl (cI, 24, .inl V))] H := hP
        have hD : va_D A [(q0, .inr (2, [.ref q1, .ref q2, .ref q3, .int v33])), (q1, .inl (cZ, 24, .inl (upd T p v25))), (q2, .inl (cJ, 24, .inr (.inl G))), (q3, .inl (cI, 24, .inl V))] := hD
        refine lv_aload_n hx hb dX2_setLine_37 rfl (lv_at hl 0 rfl) ?_
        refine va_get (D := (dC, dI)) (ci := 2) (v := .ref q2) (C := RX2) (T := TX2) (N := 4) hx hb hts (fun _ h => List.mem_cons_of_mem _ (List.mem_append_right _ h)) hown hK hP 0 rfl rfl 1 (by decide) (hts (.fieldLink RX2 15 "MovingHeap$Lines" "height" "[J") (List.mem_of_getElem? (i := 3) rfl)) (fun _ h9 => h9) rfl dX2_setLine_38 ?_
        refine lv_iload_n hx hb dX2_setLine_41 rfl (lv_at hl 1 rfl) ?_
        refine lv_lload_n hx hb dX2_setLine_42 rfl (lv_at hl 2 rfl) ?_
        refine x_last hx hb hK hP hD hS 2 1 rfl rfl (p) hxp hp dX2_setLine_43 (fun H locs hP hD hS => ?_)
        have hP : va_P (dC, dI) vwCl [(q0, .inr (2, [.ref q1, .ref q2, .ref q3, .int v33])), (q1, .inl (cZ, 24, .inl (upd T p v25))), (q2, .inl (cJ, 24, .inr (.inl (vp_updL G p y)))), (q3, .inl (cI, 24, .inl V))] H := hP
        have hD : va_D A [(q0, .inr (2, [.ref q1, .ref q2, .ref q3, .int v33])), (q1, .inl (cZ, 24, .inl (upd T p v25))), (q2, .inl (cJ, 24, .inr (.inl (vp_updL G p y)))), (q3, .inl (cI, 24, .inl V))] := hD
        refine lv_aload_n hx hb dX2_setLine_44 rfl (lv_at hl 0 rfl) ?_
        refine va_get (D := (dC, dI)) (ci := 2) (v := .ref q3) (C := RX2) (T := TX2) (N := 4) hx hb hts (fun _ h => List.mem_cons_of_mem _ (List.mem_append_right _ h)) hown hK hP 0 rfl rfl 2 (by decide) (hts (.fieldLink RX2 19 "MovingHeap$Lines" "velocity" "[I") (List.mem_of_getElem? (i := 4) rfl)) (fun _ h9 => h9) rfl dX2_setLine_45 ?_
        refine lv_iload_n hx hb dX2_setLine_48 rfl (lv_at hl 1 rfl) ?_
        refine lv_iload hx hb dX2_setLine_49 (lv_at hl 3 rfl) ?_
        refine x_iast hx hb hK hP hD hS 3 0 rfl rfl (p) hxp hp dX2_setLine_51 (fun H locs hP hD hS => ?_)
        have hP : va_P (dC, dI) vwCl [(q0, .inr (2, [.ref q1, .ref q2, .ref q3, .int v33])), (q1, .inl (cZ, 24, .inl (upd T p v25))), (q2, .inl (cJ, 24, .inr (.inl (vp_updL G p y)))), (q3, .inl (cI, 24, .inl (upd V p z)))] H := hP
        have hD : va_D A [(q0, .inr (2, [.ref q1, .ref q2, .ref q3, .int v33])), (q1, .inl (cZ, 24, .inl (upd T p v25))), (q2, .inl (cJ, 24, .inr (.inl (vp_updL G p y)))), (q3, .inl (cI, 24, .inl (upd V p z)))] := hD
        exact x_vret hx hb hr hlocks hS (upd T p v25, vp_updL G p y, upd V p z, v33) dX2_setLine_52 (fun t ht => by rw [ht]; exact hP) ⟨lok_set (y := y) (z := z) hL hp (by first | exact Or.inl ⟨rfl, by omega⟩ | exact Or.inr ⟨_, rfl, by omega⟩) hy1 hy2 hz1 hz2, by dsimp only; simp only [if_pos hp, if_true] at hcs; rw [hth] at hcs; simp at hcs; omega⟩
    · exact absurd c7 (by omega)
--== X2_setLine
set_option maxHeartbeats 4000000 in
set_option maxRecDepth 100000 in
theorem c_X2_start (l : Launch) (dC : Nat → ClassId) (dI : Nat → Nat → Nat) (cI cJ cZ : ClassId) (q0 q1 q2 q3 : Nat) (sz : Nat) (T : Nat → Int32) (G : Nat → Int64) (V : Nat → Int32) (N : Int32) (th : Nat → Bool) (h v : Nat → Int) (hL : LOK T G V th h v) (hN : N.toInt = (cntF th 24 : Int)) (x : Int32) (p : Nat) (hxp : x.toInt = (p : Int)) (hp : p < 24) (y : Int64) (z tt : Int32) (ht0 : 0 ≤ tt.toInt) (ht1 : tt.toInt ≤ 100000) (hy1 : -101000000 ≤ y.toInt) (hy2 : y.toInt ≤ 101000000) (hz1 : -1000 ≤ z.toInt) (hz2 : z.toInt ≤ 1000) : Met l yX2_start wsX2_start ({ frames := 1, cells := 0, slots := 0, locals := 24 }) (va_Pc [.ref q0, .int x, .long y, .int z, .int tt] (x_M (dC, dI) vwCl (tysN cI cJ cZ) [(q0, .inr (2, [.ref q1, .ref q2, .ref q3, .int N])), (q1, .inl (cZ, 24, .inl T)), (q2, .inl (cJ, 24, .inr (.inl G))), (q3, .inl (cI, 24, .inl V))] sz)) (va_Qv (fun (u : ((Nat → Int32) × (Nat → Int64) × (Nat → Int32) × Int32)) => LOK u.1 u.2.1 u.2.2.1 (updB th p true) (updN h p (y.toInt - z.toInt * tt.toInt)) (updN v p z.toInt) ∧ u.2.2.2.toInt = (cntF (updB th p true) 24 : Int)) (fun (u : ((Nat → Int32) × (Nat → Int64) × (Nat → Int32) × Int32)) t => va_P (dC, dI) vwCl [(q0, .inr (2, [.ref q1, .ref q2, .ref q3, .int u.2.2.2])), (q1, .inl (cZ, 24, .inl u.1)), (q2, .inl (cJ, 24, .inr (.inl u.2.1))), (q3, .inl (cI, 24, .inl u.2.2.1))] t.heap) (va_A [(q0, .inr (2, [.ref q1, .ref q2, .ref q3, .int N])), (q1, .inl (cZ, 24, .inl T)), (q2, .inl (cJ, 24, .inr (.inl G))), (q3, .inl (cI, 24, .inl V))] sz)) 0 0 (va_A [(q0, .inr (2, [.ref q1, .ref q2, .ref q3, .int N])), (q1, .inl (cZ, 24, .inl T)), (q2, .inl (cJ, 24, .inr (.inl G))), (q3, .inl (cI, 24, .inl V))] sz) := by
  refine x_ofM (cc := cX2_start) (maxL := 6) (ret := none) (own := RX2) (by decide) rfl rfl (Nat.le_of_ble_eq_true rfl) (lvs := [(0, .ref q0), (1, .int x), (2, .long y), (4, .int z), (5, .int tt)]) rfl ?_
  intro pg e s mi args below meth co hx hb hr hml hown hts hlocks hin hsz hP hK hD ls hl
  subst hsz
  generalize hAe : (va_A [(q0, .inr (2, [.ref q1, .ref q2, .ref q3, .int N])), (q1, .inl (cZ, 24, .inl T)), (q2, .inl (cJ, 24, .inr (.inl G))), (q3, .inl (cI, 24, .inl V))] s.heap.size) = A at hD ⊢
  have hA : ∀ q : Nat, s.heap.size ≤ q → A q := fun q h => by rw [← hAe]; exact Or.inr h
  have hS : va_S A s.heap s.heap [] := va_S.rf
  have hm := m_bd hz1 hz2 ht0
  refine lv_aload_n hx hb dX2_start_0 rfl (lv_at hl 0 rfl) ?_
  refine lv_iload_n hx hb dX2_start_1 rfl (lv_at hl 1 rfl) ?_
  refine lv_lload_n hx hb dX2_start_2 rfl (lv_at hl 2 rfl) ?_
  refine lv_iload hx hb dX2_start_3 (lv_at hl 3 rfl) ?_
  refine x_i2l hx hb dX2_start_5 (fun v5 e5 => ?_)
  refine lv_iload hx hb dX2_start_6 (lv_at hl 4 rfl) ?_
  refine x_i2l hx hb dX2_start_8 (fun v8 e8 => ?_)
  have em : v5.toInt * v8.toInt = z.toInt * tt.toInt := by rw [e5, e8]
  refine x_lmul hx hb dX2_start_9 (by rw [em]; omega) (by rw [em]; omega) (fun v9 e9 => ?_)
  refine x_lsub hx hb dX2_start_10 (by omega) (by omega) (fun v10 e10 => ?_)
  refine lv_iload hx hb dX2_start_11 (lv_at hl 3 rfl) ?_
  have hPc := hP.sub (ws' := [(q0, .inr (2, [.ref q1, .ref q2, .ref q3, .int N])), (q1, .inl (cZ, 24, .inl T)), (q2, .inl (cJ, 24, .inr (.inl G))), (q3, .inl (cI, 24, .inl V))]) [0, 1, 2, 3] rfl
  have hDc := hD.sub (ws' := [(q0, .inr (2, [.ref q1, .ref q2, .ref q3, .int N])), (q1, .inl (cZ, 24, .inl T)), (q2, .inl (cJ, 24, .inr (.inl G))), (q3, .inl (cI, 24, .inl V))]) [0, 1, 2, 3] (by decide) rfl
  have hFc := va_free (wc := [(q0, .inr (2, [.ref q1, .ref q2, .ref q3, .int N])), (q1, .inl (cZ, 24, .inl T)), (q2, .inl (cJ, 24, .inr (.inl G))), (q3, .inl (cI, 24, .inl V))]) hD hS hA [0, 1, 2, 3] rfl
  refine x_callvM (va_runV (As := [.int x, .long v10, .int z]) (rest := []) ⟨hx, hb, hml, hown, hts⟩ (c_X2_setLine l dC dI cI cJ cZ q0 q1 q2 q3 s.heap.size T G V N th h v hL hN x p hxp hp v10 z (by omega) (by omega) hz1 hz2) (cwV 3 hts gX2_start_X2_setLine rfl rfl rfl (by decide +kernel) ⟨Nat.le_of_ble_eq_true rfl, Nat.le_of_ble_eq_true rfl⟩) ⟨x_Mb, va_recv hK hP (ci := 2) (q0 := 0) rfl rfl, (fun U hU hW => ⟨rfl, by rw [hU], by rw [hU]; exact hPc, va_K.moved hW.alike hK, hDc.weaken (fun _ _ _ _ => trivial)⟩)⟩ rfl rfl hl.1 rfl (lv_room (Nat.le_of_ble_eq_true rfl)) dX2_start_13 ⟨Nat.zero_le _, Nat.zero_le _⟩) hS hFc (fun u13 H1 locs h13 hP1 hkk hS => ?_)
  obtain ⟨hP, hD⟩ := x_join (ws' := [(q0, .inr (2, [.ref q1, .ref q2, .ref q3, .int u13.2.2.2])), (q1, .inl (cZ, 24, .inl u13.1)), (q2, .inl (cJ, 24, .inr (.inl u13.2.1))), (q3, .inl (cI, 24, .inl u13.2.2.1))]) hP hD [0, 1, 2, 3] [] rfl rfl rfl 4 rfl (by decide) (by decide) rfl hkk hP1
  generalize H1 = H at hP hS ⊢
  exact x_vret hx hb hr hlocks hS u13 dX2_start_16 (fun t ht => by rw [ht]; exact hP) (by rw [e10, e9, em] at h13; exact h13)
--== X2_start
set_option maxHeartbeats 4000000 in
set_option maxRecDepth 100000 in
theorem c_X2_drop (l : Launch) (dC : Nat → ClassId) (dI : Nat → Nat → Nat) (cI cJ cZ : ClassId) (q0 q1 q2 q3 : Nat) (sz : Nat) (T : Nat → Int32) (G : Nat → Int64) (V : Nat → Int32) (N : Int32) (th : Nat → Bool) (h v : Nat → Int) (hL : LOK T G V th h v) (hN : N.toInt = (cntF th 24 : Int)) (x : Int32) (p : Nat) (hxp : x.toInt = (p : Int)) (hp : p < 24) : Met l yX2_drop wsX2_drop ({ frames := 1, cells := 0, slots := 0, locals := 21 }) (va_Pc [.ref q0, .int x] (x_M (dC, dI) vwCl (tysN cI cJ cZ) [(q0, .inr (2, [.ref q1, .ref q2, .ref q3, .int N])), (q1, .inl (cZ, 24, .inl T)), (q2, .inl (cJ, 24, .inr (.inl G))), (q3, .inl (cI, 24, .inl V))] sz)) (va_Qv (fun (u : ((Nat → Int32) × (Nat → Int64) × (Nat → Int32) × Int32)) => LOK u.1 u.2.1 u.2.2.1 (updB th p false) h v ∧ u.2.2.2.toInt = (cntF (updB th p false) 24 : Int)) (fun (u : ((Nat → Int32) × (Nat → Int64) × (Nat → Int32) × Int32)) t => va_P (dC, dI) vwCl [(q0, .inr (2, [.ref q1, .ref q2, .ref q3, .int u.2.2.2])), (q1, .inl (cZ, 24, .inl u.1)), (q2, .inl (cJ, 24, .inr (.inl u.2.1))), (q3, .inl (cI, 24, .inl u.2.2.1))] t.heap) (va_A [(q0, .inr (2, [.ref q1, .ref q2, .ref q3, .int N])), (q1, .inl (cZ, 24, .inl T)), (q2, .inl (cJ, 24, .inr (.inl G))), (q3, .inl (cI, 24, .inl V))] sz)) 0 0 (va_A [(q0, .inr (2, [.ref q1, .ref q2, .ref q3, .int N])), (q1, .inl (cZ, 24, .inl T)), (q2, .inl (cJ, 24, .inr (.inl G))), (q3, .inl (cI, 24, .inl V))] sz) := by
  refine x_ofM (cc := cX2_drop) (maxL := 2) (ret := none) (own := RX2) (by decide) rfl rfl (Nat.le_of_ble_eq_true rfl) (lvs := [(0, .ref q0), (1, .int x)]) rfl ?_
  intro pg e s mi args below meth co hx hb hr hml hown hts hlocks hin hsz hP hK hD ls hl
  subst hsz
  generalize hAe : (va_A [(q0, .inr (2, [.ref q1, .ref q2, .ref q3, .int N])), (q1, .inl (cZ, 24, .inl T)), (q2, .inl (cJ, 24, .inr (.inl G))), (q3, .inl (cI, 24, .inl V))] s.heap.size) = A at hD ⊢
  have hA : ∀ q : Nat, s.heap.size ≤ q → A q := fun q h => by rw [← hAe]; exact Or.inr h
  have hS : va_S A s.heap s.heap [] := va_S.rf
  have hcs := cnt_set th p false 24
  have hcl := cnt_le th 24
  rw [if_pos hp] at hcs
  refine lv_aload_n hx hb dX2_drop_0 rfl (lv_at hl 0 rfl) ?_
  refine lv_iload_n hx hb dX2_drop_1 rfl (lv_at hl 1 rfl) ?_
  have hPc := hP.sub (ws' := [(q0, .inr (2, [.ref q1, .ref q2, .ref q3, .int N])), (q1, .inl (cZ, 24, .inl T)), (q2, .inl (cJ, 24, .inr (.inl G))), (q3, .inl (cI, 24, .inl V))]) [0, 1, 2, 3] rfl
  refine x_calli (va_runV (As := [.int x]) (rest := []) ⟨hx, hb, hml, hown, hts⟩ (c_X2_has l dC dI cI cJ cZ q0 q1 q2 q3 s.heap.size T G V N th h v hL x) (cwV 1 hts gX2_drop_X2_has rfl rfl rfl (by decide +kernel) ⟨Nat.le_of_ble_eq_true rfl, Nat.le_of_ble_eq_true rfl⟩) ⟨x_Bb, va_recv hK hP (ci := 2) (q0 := 0) rfl rfl, (fun U hU hW => ⟨rfl, by rw [hU], by rw [hU]; exact hPc, va_K.moved hW.alike hK⟩)⟩ rfl rfl hl.1 rfl (lv_room (Nat.le_of_ble_eq_true rfl)) dX2_drop_2 ⟨Nat.zero_le _, Nat.zero_le _⟩) hS hA hP (fun v2 _ H locs h2 hP hS => ?_)
  refine x_if_eq (tgt := 25) hx hb dX2_drop_5 (by decide) (fun c5 => ?_) (fun c5 => ?_)
  · have hth : th p = false := by rcases h2 with q | q; omega; exact q.2 p hp hxp
    exact x_vret hx hb hr hlocks hS (T, G, V, N) dX2_drop_25 (fun t ht => by rw [ht]; exact hP) ⟨by first | exact lok_drop hL (by omega) | exact lok_nodrop hL hth, by dsimp only; rw [hth] at hcs; simp at hcs; omega⟩
  · have hth : th p = true := by rcases h2 with q | q; obtain ⟨-, k, hk, hxk, hk2⟩ := q; have e9 : k = p := (by omega); subst e9; exact hk2; omega
    clear h2
    refine lv_aload_n hx hb dX2_drop_8 rfl (lv_at hl 0 rfl) ?_
    refine va_get (D := (dC, dI)) (ci := 2) (v := .ref q1) (C := RX2) (T := TX2) (N := 4) hx hb hts (fun _ h => List.mem_cons_of_mem _ (List.mem_append_right _ h)) hown hK hP 0 rfl rfl 0 (by decide) (hts (.fieldLink RX2 9 "MovingHeap$Lines" "there" "[Z") (List.mem_of_getElem? (i := 1) rfl)) (fun _ h9 => h9) rfl dX2_drop_9 ?_
    refine lv_iload_n hx hb dX2_drop_12 rfl (lv_at hl 1 rfl) ?_
    refine x_iconst hx hb dX2_drop_13 (0) (by decide) (fun v13 e13 => ?_)
    refine x_zast hx hb hK hP hD hS 1 2 rfl rfl (p) hxp hp (by omega) dX2_drop_14 (fun H locs hP hD hS => ?_)
    have hP : va_P (dC, dI) vwCl [(q0, .inr (2, [.ref q1, .ref q2, .ref q3, .int N])), (q1, .inl (cZ, 24, .inl (upd T p v13))), (q2, .inl (cJ, 24, .inr (.inl G))), (q3, .inl (cI, 24, .inl V))] H := hP
    have hD : va_D A [(q0, .inr (2, [.ref q1, .ref q2, .ref q3, .int N])), (q1, .inl (cZ, 24, .inl (upd T p v13))), (q2, .inl (cJ, 24, .inr (.inl G))), (q3, .inl (cI, 24, .inl V))] := hD
    refine lv_aload_n hx hb dX2_drop_15 rfl (lv_at hl 0 rfl) ?_
    refine lv_dup hx hb dX2_drop_16 rfl ?_
    refine va_get (D := (dC, dI)) (ci := 2) (v := .int N) (C := RX2) (T := TX2) (N := 4) hx hb hts (fun _ h => List.mem_cons_of_mem _ (List.mem_append_right _ h)) hown hK hP 0 rfl rfl 3 (by decide) (hts (.fieldLink RX2 23 "MovingHeap$Lines" "number" "I") (List.mem_of_getElem? (i := 2) rfl)) (fun _ h9 => h9) rfl dX2_drop_17 ?_
    refine x_iconst hx hb dX2_drop_20 (1) (by decide) (fun v20 e20 => ?_)
    refine x_isub hx hb dX2_drop_21 (by omega) (by omega) (fun v21 e21 => ?_)
    refine va_put (D := (dC, dI)) (ci := 2) (v := .int v21) (ty := .int) (C := RX2) (T := TX2) (N := 4) hx hb hts (fun _ h => List.mem_cons_of_mem _ (List.mem_append_right _ h)) tyX2 tyX2_ok nmX2 hown hK hP hD hS 0 rfl rfl 3 (by decide) (hts (.fieldLink RX2 23 "MovingHeap$Lines" "number" "I") (List.mem_of_getElem? (i := 2) rfl)) (fun _ h9 => h9) rfl (by decide +kernel) rfl rfl (Nat.le_of_ble_eq_true rfl) dX2_drop_22 (fun H locs hP hD hS => ?_)
    have hP : va_P (dC, dI) vwCl [(q0, .inr (2, [.ref q1, .ref q2, .ref q3, .int v21])), (q1, .inl (cZ, 24, .inl (upd T p v13))), (q2, .inl (cJ, 24, .inr (.inl G))), (q3, .inl (cI, 24, .inl V))] H := hP
    have hD : va_D A [(q0, .inr (2, [.ref q1, .ref q2, .ref q3, .int v21])), (q1, .inl (cZ, 24, .inl (upd T p v13))), (q2, .inl (cJ, 24, .inr (.inl G))), (q3, .inl (cI, 24, .inl V))] := hD
    exact x_vret hx hb hr hlocks hS (upd T p v13, G, V, v21) dX2_drop_25 (fun t ht => by rw [ht]; exact hP) ⟨by first | exact lok_drop hL (by omega) | exact lok_nodrop hL hth, by dsimp only; rw [hth] at hcs; simp at hcs; omega⟩
--== X2_drop
set_option maxHeartbeats 4000000 in
set_option maxRecDepth 100000 in
theorem c_X2_copyFrom (l : Launch) (dC : Nat → ClassId) (dI : Nat → Nat → Nat) (cI cJ cZ : ClassId) (q0 q1 q2 q3 p0 p1 p2 p3 : Nat) (sz : Nat) (T : Nat → Int32) (G : Nat → Int64) (V : Nat → Int32) (N : Int32) (T' : Nat → Int32) (G' : Nat → Int64) (V' : Nat → Int32) (N' : Int32) (th : Nat → Bool) (h v : Nat → Int) (hL : LOK T' G' V' th h v) : Met l yX2_copyFrom wsX2_copyFrom ({ frames := 0, cells := 0, slots := 0, locals := 0 }) (va_Pc [.ref q0, .ref p0] (x_M (dC, dI) vwCl (tysN cI cJ cZ) [(q0, .inr (2, [.ref q1, .ref q2, .ref q3, .int N])), (q1, .inl (cZ, 24, .inl T)), (q2, .inl (cJ, 24, .inr (.inl G))), (q3, .inl (cI, 24, .inl V)), (p0, .inr (2, [.ref p1, .ref p2, .ref p3, .int (N')])), (p1, .inl (cZ, 24, .inl (T'))), (p2, .inl (cJ, 24, .inr (.inl (G')))), (p3, .inl (cI, 24, .inl (V')))] sz)) (va_Qv (fun (u : ((Nat → Int32) × (Nat → Int64) × (Nat → Int32) × Int32)) => LOK u.1 u.2.1 u.2.2.1 th h v ∧ u.2.2.2 = N') (fun (u : ((Nat → Int32) × (Nat → Int64) × (Nat → Int32) × Int32)) t => va_P (dC, dI) vwCl [(q0, .inr (2, [.ref q1, .ref q2, .ref q3, .int u.2.2.2])), (q1, .inl (cZ, 24, .inl u.1)), (q2, .inl (cJ, 24, .inr (.inl u.2.1))), (q3, .inl (cI, 24, .inl u.2.2.1)), (p0, .inr (2, [.ref p1, .ref p2, .ref p3, .int (N')])), (p1, .inl (cZ, 24, .inl (T'))), (p2, .inl (cJ, 24, .inr (.inl (G')))), (p3, .inl (cI, 24, .inl (V')))] t.heap) (va_A [(q0, .inr (2, [.ref q1, .ref q2, .ref q3, .int N])), (q1, .inl (cZ, 24, .inl T)), (q2, .inl (cJ, 24, .inr (.inl G))), (q3, .inl (cI, 24, .inl V)), (p0, .inr (2, [.ref p1, .ref p2, .ref p3, .int (N')])), (p1, .inl (cZ, 24, .inl (T'))), (p2, .inl (cJ, 24, .inr (.inl (G')))), (p3, .inl (cI, 24, .inl (V')))] sz)) 0 0 (va_A [(q0, .inr (2, [.ref q1, .ref q2, .ref q3, .int N])), (q1, .inl (cZ, 24, .inl T)), (q2, .inl (cJ, 24, .inr (.inl G))), (q3, .inl (cI, 24, .inl V)), (p0, .inr (2, [.ref p1, .ref p2, .ref p3, .int (N')])), (p1, .inl (cZ, 24, .inl (T'))), (p2, .inl (cJ, 24, .inr (.inl (G')))), (p3, .inl (cI, 24, .inl (V')))] sz) := by
  refine x_ofM (cc := cX2_copyFrom) (maxL := 3) (ret := none) (own := RX2) (by decide) rfl rfl (Nat.le_of_ble_eq_true rfl) (lvs := [(0, .ref q0), (1, .ref p0)]) rfl ?_
  intro pg e s mi args below meth co hx hb hr hml hown hts hlocks hin hsz hP hK hD ls hl
  subst hsz
  generalize hAe : (va_A [(q0, .inr (2, [.ref q1, .ref q2, .ref q3, .int N])), (q1, .inl (cZ, 24, .inl T)), (q2, .inl (cJ, 24, .inr (.inl G))), (q3, .inl (cI, 24, .inl V)), (p0, .inr (2, [.ref p1, .ref p2, .ref p3, .int (N')])), (p1, .inl (cZ, 24, .inl (T'))), (p2, .inl (cJ, 24, .inr (.inl (G')))), (p3, .inl (cI, 24, .inl (V')))] s.heap.size) = A at hD ⊢
  have hA : ∀ q : Nat, s.heap.size ≤ q → A q := fun q h => by rw [← hAe]; exact Or.inr h
  have hS : va_S A s.heap s.heap [] := va_S.rf
  refine x_iconst hx hb dX2_copyFrom_0 (0) (by decide) (fun v0 e0 => ?_)
  refine lv_istore_n (lv' := [(2, .int v0), (0, .ref q0), (1, .ref p0)]) hx hb dX2_copyFrom_1 rfl hl (by decide) rfl (fun ls hl => ?_)
  have loop2 : ∀ (fu : Nat) (i : Nat) (x : Int32) (T : Nat → Int32) (G : Nat → Int64) (V : Nat → Int32), (i ≤ 24) → (x.toInt = (i : Int)) → (∀ p : Nat, p < i → T p = T' p ∧ G p = G' p ∧ V p = V' p) → (24 - i < fu) → ∀ (H : Heap) (locs : List Loc), va_P (dC, dI) vwCl [(q0, .inr (2, [.ref q1, .ref q2, .ref q3, .int N])), (q1, .inl (cZ, 24, .inl T)), (q2, .inl (cJ, 24, .inr (.inl G))), (q3, .inl (cI, 24, .inl V)), (p0, .inr (2, [.ref p1, .ref p2, .ref p3, .int (N')])), (p1, .inl (cZ, 24, .inl (T'))), (p2, .inl (cJ, 24, .inr (.inl (G')))), (p3, .inl (cI, 24, .inl (V')))] H → va_D A [(q0, .inr (2, [.ref q1, .ref q2, .ref q3, .int N])), (q1, .inl (cZ, 24, .inl T)), (q2, .inl (cJ, 24, .inr (.inl G))), (q3, .inl (cI, 24, .inl V)), (p0, .inr (2, [.ref p1, .ref p2, .ref p3, .int (N')])), (p1, .inl (cZ, 24, .inl (T'))), (p2, .inl (cJ, 24, .inr (.inl (G')))), (p3, .inl (cI, 24, .inl (V')))] → va_S A s.heap H locs → ∀ (ls : Array Slot), lv_has ls 3 [(0, .ref q0), (1, .ref p0), (2, .int x)] → W pg l e (headSpec wsX2_copyFrom ({ frames := 0, cells := 0, slots := 0, locals := 0 })).room s mi args below meth co H locs 0 0 (MQ below (va_Qv (fun (u : ((Nat → Int32) × (Nat → Int64) × (Nat → Int32) × Int32)) => LOK u.1 u.2.1 u.2.2.1 th h v ∧ u.2.2.2 = N') (fun (u : ((Nat → Int32) × (Nat → Int64) × (Nat → Int32) × Int32)) t => va_P (dC, dI) vwCl [(q0, .inr (2, [.ref q1, .ref q2, .ref q3, .int u.2.2.2])), (q1, .inl (cZ, 24, .inl u.1)), (q2, .inl (cJ, 24, .inr (.inl u.2.1))), (q3, .inl (cI, 24, .inl u.2.2.1)), (p0, .inr (2, [.ref p1, .ref p2, .ref p3, .int (N')])), (p1, .inl (cZ, 24, .inl (T'))), (p2, .inl (cJ, 24, .inr (.inl (G')))), (p3, .inl (cI, 24, .inl (V')))] t.heap) A) args s 0 0 A) (F0 mi 2 ls []) := by
    intro fu
    induction fu with
    | zero => intro i x T G V hi hxi hcp hn; exact absurd hn (Nat.not_lt_zero _)
    | succ fu ih2 =>
      intro i x T G V hi hxi hcp hn H locs hP hD hS ls hl
      refine lv_iload_n hx hb dX2_copyFrom_2 rfl (lv_at hl 2 rfl) ?_
      refine x_bipush hx hb dX2_copyFrom_3 (24) (by decide) (fun v3 e3 => ?_)
      refine x_icmp_ge (tgt := 50) hx hb dX2_copyFrom_5 (by decide) (fun c5 => ?_) (fun c5 => ?_)
      · refine lv_aload_n hx hb dX2_copyFrom_50 rfl (lv_at hl 0 rfl) ?_
        refine lv_aload_n hx hb dX2_copyFrom_51 rfl (lv_at hl 1 rfl) ?_
        refine va_get (D := (dC, dI)) (ci := 2) (v := .int (N')) (C := RX2) (T := TX2) (N := 4) hx hb hts (fun _ h => List.mem_cons_of_mem _ (List.mem_append_right _ h)) hown hK hP 4 rfl rfl 3 (by decide) (hts (.fieldLink RX2 23 "MovingHeap$Lines" "number" "I") (List.mem_of_getElem? (i := 4) rfl)) (fun _ h9 => h9) rfl dX2_copyFrom_52 ?_
        refine va_put (D := (dC, dI)) (ci := 2) (v := .int (N')) (ty := .int) (C := RX2) (T := TX2) (N := 4) hx hb hts (fun _ h => List.mem_cons_of_mem _ (List.mem_append_right _ h)) tyX2 tyX2_ok nmX2 hown hK hP hD hS 0 rfl rfl 3 (by decide) (hts (.fieldLink RX2 23 "MovingHeap$Lines" "number" "I") (List.mem_of_getElem? (i := 4) rfl)) (fun _ h9 => h9) rfl (by decide +kernel) rfl rfl (Nat.le_of_ble_eq_true rfl) dX2_copyFrom_55 (fun H locs hP hD hS => ?_)
        have hP : va_P (dC, dI) vwCl [(q0, .inr (2, [.ref q1, .ref q2, .ref q3, .int (N')])), (q1, .inl (cZ, 24, .inl T)), (q2, .inl (cJ, 24, .inr (.inl G))), (q3, .inl (cI, 24, .inl V)), (p0, .inr (2, [.ref p1, .ref p2, .ref p3, .int (N')])), (p1, .inl (cZ, 24, .inl (T'))), (p2, .inl (cJ, 24, .inr (.inl (G')))), (p3, .inl (cI, 24, .inl (V')))] H := hP
        have hD : va_D A [(q0, .inr (2, [.ref q1, .ref q2, .ref q3, .int (N')])), (q1, .inl (cZ, 24, .inl T)), (q2, .inl (cJ, 24, .inr (.inl G))), (q3, .inl (cI, 24, .inl V)), (p0, .inr (2, [.ref p1, .ref p2, .ref p3, .int (N')])), (p1, .inl (cZ, 24, .inl (T'))), (p2, .inl (cJ, 24, .inr (.inl (G')))), (p3, .inl (cI, 24, .inl (V')))] := hD
        exact x_vret hx hb hr hlocks hS (T, G, V, N') dX2_copyFrom_58 (fun t ht => by rw [ht]; exact hP) ⟨lok_cp hL (fun p hp => hcp p (by omega)), rfl⟩
      · refine lv_aload_n hx hb dX2_copyFrom_8 rfl (lv_at hl 0 rfl) ?_
        refine va_get (D := (dC, dI)) (ci := 2) (v := .ref q1) (C := RX2) (T := TX2) (N := 4) hx hb hts (fun _ h => List.mem_cons_of_mem _ (List.mem_append_right _ h)) hown hK hP 0 rfl rfl 0 (by decide) (hts (.fieldLink RX2 9 "MovingHeap$Lines" "there" "[Z") (List.mem_of_getElem? (i := 1) rfl)) (fun _ h9 => h9) rfl dX2_copyFrom_9 ?_
        refine lv_iload_n hx hb dX2_copyFrom_12 rfl (lv_at hl 2 rfl) ?_
        refine lv_aload_n hx hb dX2_copyFrom_13 rfl (lv_at hl 1 rfl) ?_
        refine va_get (D := (dC, dI)) (ci := 2) (v := .ref p1) (C := RX2) (T := TX2) (N := 4) hx hb hts (fun _ h => List.mem_cons_of_mem _ (List.mem_append_right _ h)) hown hK hP 4 rfl rfl 0 (by decide) (hts (.fieldLink RX2 9 "MovingHeap$Lines" "there" "[Z") (List.mem_of_getElem? (i := 1) rfl)) (fun _ h9 => h9) rfl dX2_copyFrom_14 ?_
        refine lv_iload_n hx hb dX2_copyFrom_17 rfl (lv_at hl 2 rfl) ?_
        have hz : (T' i).toInt = 0 ∨ (T' i).toInt = 1 := by cases q : th i with | true => exact Or.inr ((hL i (by omega)).1 q).1 | false => exact Or.inl ((hL i (by omega)).2 q)
        refine x_zald hx hb hK hP 5 2 rfl rfl (i) hxi (by omega) dX2_copyFrom_18 ?_
        refine x_zast hx hb hK hP hD hS 1 2 rfl rfl (i) hxi (by omega) hz dX2_copyFrom_19 (fun H locs hP hD hS => ?_)
        have hP : va_P (dC, dI) vwCl [(q0, .inr (2, [.ref q1, .ref q2, .ref q3, .int N])), (q1, .inl (cZ, 24, .inl (upd T i ((T') i)))), (q2, .inl (cJ, 24, .inr (.inl G))), (q3, .inl (cI, 24, .inl V)), (p0, .inr (2, [.ref p1, .ref p2, .ref p3, .int (N')])), (p1, .inl (cZ, 24, .inl (T'))), (p2, .inl (cJ, 24, .inr (.inl (G')))), (p3, .inl (cI, 24, .inl (V')))] H := hP
        have hD : va_D A [(q0, .inr (2, [.ref q1, .ref q2, .ref q3, .int N])), (q1, .inl (cZ, 24, .inl (upd T i ((T') i)))), (q2, .inl (cJ, 24, .inr (.inl G))), (q3, .inl (cI, 24, .inl V)), (p0, .inr (2, [.ref p1, .ref p2, .ref p3, .int (N')])), (p1, .inl (cZ, 24, .inl (T'))), (p2, .inl (cJ, 24, .inr (.inl (G')))), (p3, .inl (cI, 24, .inl (V')))] := hD
        refine lv_aload_n hx hb dX2_copyFrom_20 rfl (lv_at hl 0 rfl) ?_
        refine va_get (D := (dC, dI)) (ci := 2) (v := .ref q2) (C := RX2) (T := TX2) (N := 4) hx hb hts (fun _ h => List.mem_cons_of_mem _ (List.mem_append_right _ h)) hown hK hP 0 rfl rfl 1 (by decide) (hts (.fieldLink RX2 15 "MovingHeap$Lines" "height" "[J") (List.mem_of_getElem? (i := 2) rfl)) (fun _ h9 => h9) rfl dX2_copyFrom_21 ?_
        refine lv_iload_n hx hb dX2_copyFrom_24 rfl (lv_at hl 2 rfl) ?_
        refine lv_aload_n hx hb dX2_copyFrom_25 rfl (lv_at hl 1 rfl) ?_
        refine va_get (D := (dC, dI)) (ci := 2) (v := .ref p2) (C := RX2) (T := TX2) (N := 4) hx hb hts (fun _ h => List.mem_cons_of_mem _ (List.mem_append_right _ h)) hown hK hP 4 rfl rfl 1 (by decide) (hts (.fieldLink RX2 15 "MovingHeap$Lines" "height" "[J") (List.mem_of_getElem? (i := 2) rfl)) (fun _ h9 => h9) rfl dX2_copyFrom_26 ?_
        refine lv_iload_n hx hb dX2_copyFrom_29 rfl (lv_at hl 2 rfl) ?_
        refine x_lald hx hb hK hP 6 1 rfl rfl (i) hxi (by omega) dX2_copyFrom_30 ?_
        refine x_last hx hb hK hP hD hS 2 1 rfl rfl (i) hxi (by omega) dX2_copyFrom_31 (fun H locs hP hD hS => ?_)
        have hP : va_P (dC, dI) vwCl [(q0, .inr (2, [.ref q1, .ref q2, .ref q3, .int N])), (q1, .inl (cZ, 24, .inl (upd T i ((T') i)))), (q2, .inl (cJ, 24, .inr (.inl (vp_updL G i ((G') i))))), (q3, .inl (cI, 24, .inl V)), (p0, .inr (2, [.ref p1, .ref p2, .ref p3, .int (N')])), (p1, .inl (cZ, 24, .inl (T'))), (p2, .inl (cJ, 24, .inr (.inl (G')))), (p3, .inl (cI, 24, .inl (V')))] H := hP
        have hD : va_D A [(q0, .inr (2, [.ref q1, .ref q2, .ref q3, .int N])), (q1, .inl (cZ, 24, .inl (upd T i ((T') i)))), (q2, .inl (cJ, 24, .inr (.inl (vp_updL G i ((G') i))))), (q3, .inl (cI, 24, .inl V)), (p0, .inr (2, [.ref p1, .ref p2, .ref p3, .int (N')])), (p1, .inl (cZ, 24, .inl (T'))), (p2, .inl (cJ, 24, .inr (.inl (G')))), (p3, .inl (cI, 24, .inl (V')))] := hD
        refine lv_aload_n hx hb dX2_copyFrom_32 rfl (lv_at hl 0 rfl) ?_
        refine va_get (D := (dC, dI)) (ci := 2) (v := .ref q3) (C := RX2) (T := TX2) (N := 4) hx hb hts (fun _ h => List.mem_cons_of_mem _ (List.mem_append_right _ h)) hown hK hP 0 rfl rfl 2 (by decide) (hts (.fieldLink RX2 19 "MovingHeap$Lines" "velocity" "[I") (List.mem_of_getElem? (i := 3) rfl)) (fun _ h9 => h9) rfl dX2_copyFrom_33 ?_
        refine lv_iload_n hx hb dX2_copyFrom_36 rfl (lv_at hl 2 rfl) ?_
        refine lv_aload_n hx hb dX2_copyFrom_37 rfl (lv_at hl 1 rfl) ?_
        refine va_get (D := (dC, dI)) (ci := 2) (v := .ref p3) (C := RX2) (T := TX2) (N := 4) hx hb hts (fun _ h => List.mem_cons_of_mem _ (List.mem_append_right _ h)) hown hK hP 4 rfl rfl 2 (by decide) (hts (.fieldLink RX2 19 "MovingHeap$Lines" "velocity" "[I") (List.mem_of_getElem? (i := 3) rfl)) (fun _ h9 => h9) rfl dX2_copyFrom_38 ?_
        refine lv_iload_n hx hb dX2_copyFrom_41 rfl (lv_at hl 2 rfl) ?_
        refine x_iald hx hb hK hP 7 0 rfl rfl (i) hxi (by omega) dX2_copyFrom_42 ?_
        refine x_iast hx hb hK hP hD hS 3 0 rfl rfl (i) hxi (by omega) dX2_copyFrom_43 (fun H locs hP hD hS => ?_)
        have hP : va_P (dC, dI) vwCl [(q0, .inr (2, [.ref q1, .ref q2, .ref q3, .int N])), (q1, .inl (cZ, 24, .inl (upd T i ((T') i)))), (q2, .inl (cJ, 24, .inr (.inl (vp_updL G i ((G') i))))), (q3, .inl (cI, 24, .inl (upd V i ((V') i)))), (p0, .inr (2, [.ref p1, .ref p2, .ref p3, .int (N')])), (p1, .inl (cZ, 24, .inl (T'))), (p2, .inl (cJ, 24, .inr (.inl (G')))), (p3, .inl (cI, 24, .inl (V')))] H := hP
        have hD : va_D A [(q0, .inr (2, [.ref q1, .ref q2, .ref q3, .int N])), (q1, .inl (cZ, 24, .inl (upd T i ((T') i)))), (q2, .inl (cJ, 24, .inr (.inl (vp_updL G i ((G') i))))), (q3, .inl (cI, 24, .inl (upd V i ((V') i)))), (p0, .inr (2, [.ref p1, .ref p2, .ref p3, .int (N')])), (p1, .inl (cZ, 24, .inl (T'))), (p2, .inl (cJ, 24, .inr (.inl (G')))), (p3, .inl (cI, 24, .inl (V')))] := hD
        refine x_iinc (k := 2) hx hb (1) (by decide) dX2_copyFrom_44 hl rfl (by decide) (by omega) (by omega) (fun v44 ls e44 hl => ?_)
        have hl : lv_has ls 3 [(2, .int v44), (0, .ref q0), (1, .ref p0)] := hl
        refine lv_goto (tgt := 2) hx hb dX2_copyFrom_47 (by decide) ?_
        exact ih2 (i + 1) v44 _ _ _ (by omega) (by omega) (cp_step hcp) (by omega) _ _ hP hD hS ls (lv_sub hl [1, 2, 0] rfl)
  exact loop2 (_ + 1) 0 v0 T G V (Nat.zero_le _) (by omega) (fun _ h => absurd h (Nat.not_lt_zero _)) (Nat.lt_succ_self _) _ _ hP hD hS ls (lv_sub hl [1, 2, 0] rfl)
--== X2_copyFrom
