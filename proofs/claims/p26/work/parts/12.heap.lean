/-! CONTRACTS of Heap (X0) -/
set_option maxHeartbeats 4000000 in
set_option maxRecDepth 100000 in
theorem c_X0_pointIn (l : Launch) (dC : Nat → ClassId) (dI : Nat → Nat → Nat) (cI cJ cZ : ClassId) (r0 r1 r2 r3 q0 : Nat) (sz : Nat) (PB PL FL : Nat → Int32) (F : Int32) (E X : Int64) (a : Nat → Nat) (n : Nat) (hH : HK PB PL F a n) (x : Int32) : Met l yX0_pointIn wsX0_pointIn ({ frames := 0, cells := 0, slots := 0, locals := 0 }) (va_Pc [.ref r0, .int x] (x_B (dC, dI) vwCl (tysN cI cJ cZ) [(r0, .inr (0, [.ref q0, .ref r1, .ref r2, .ref r3, .int F, .long E, .long X])), (r1, .inl (cI, 24, .inl PB)), (r2, .inl (cI, 24, .inl PL)), (r3, .inl (cI, 24, .inl FL))] sz)) (va_Qi (fun (r : Int32) (_ : Unit) => (∃ k : Nat, k < n ∧ x.toInt = (k : Int) ∧ r.toInt = (a k : Int)) ∨ (r.toInt = -1 ∧ (x.toInt < 0 ∨ (n : Int) ≤ x.toInt))) (fun _ _ => True) (va_A [] sz)) 0 0 (va_A [] sz) := by
  refine x_ofR (cc := cX0_pointIn) (maxL := 2) (ret := (some .int)) (own := RX0) (by decide) rfl rfl (Nat.le_of_ble_eq_true rfl) (lvs := [(0, .ref r0), (1, .int x)]) rfl ?_
  intro pg e s mi args below meth co hx hb hr hml hown hts hlocks hsz hP hK ls hl
  subst hsz
  generalize hAe : (va_A [] s.heap.size) = A
  have hA : ∀ q : Nat, s.heap.size ≤ q → A q := fun q h => by rw [← hAe]; exact Or.inr h
  have hS : va_S A s.heap s.heap [] := va_S.rf
  obtain ⟨hHF, hHn, hHa⟩ := id hH
  refine lv_iload_n hx hb dX0_pointIn_0 rfl (lv_at hl 1 rfl) ?_
  refine x_if_lt (tgt := 18) hx hb dX0_pointIn_1 (by decide) (fun c1 => ?_) (fun c1 => ?_)
  · refine x_iconst hx hb dX0_pointIn_18 (-1) (by decide) (fun v18 e18 => ?_)
    exact x_iret hx hb hr hlocks hS () dX0_pointIn_19 (fun t ht => trivial) (Or.inr ⟨by omega, by omega⟩)
  · refine lv_iload_n hx hb dX0_pointIn_4 rfl (lv_at hl 1 rfl) ?_
    refine lv_aload_n hx hb dX0_pointIn_5 rfl (lv_at hl 0 rfl) ?_
    refine va_get (D := (dC, dI)) (ci := 0) (v := .int F) (C := RX0) (T := TX0) (N := 7) hx hb hts (fun _ h => List.mem_cons_of_mem _ (List.mem_append_right _ h)) hown hK hP 0 rfl rfl 4 (by decide) (hts (.fieldLink RX0 28 "MovingHeap$Heap" "filled" "I") (List.mem_of_getElem? (i := 1) rfl)) (fun _ h9 => h9) rfl dX0_pointIn_6 ?_
    refine x_icmp_ge (tgt := 18) hx hb dX0_pointIn_9 (by decide) (fun c9 => ?_) (fun c9 => ?_)
    · refine x_iconst hx hb dX0_pointIn_18 (-1) (by decide) (fun v18 e18 => ?_)
      exact x_iret hx hb hr hlocks hS () dX0_pointIn_19 (fun t ht => trivial) (Or.inr ⟨by omega, by omega⟩)
    · refine lv_iload_n hx hb dX0_pointIn_12 rfl (lv_at hl 1 rfl) ?_
      refine x_bipush hx hb dX0_pointIn_13 (24) (by decide) (fun v13 e13 => ?_)
      refine x_icmp_lt (tgt := 20) hx hb dX0_pointIn_15 (by decide) (fun c15 => ?_) (fun c15 => ?_)
      · obtain ⟨k, hk⟩ : ∃ k : Nat, x.toInt = (k : Int) := ⟨x.toInt.toNat, by omega⟩
        have hHk := hHa k (by omega)
        refine lv_aload_n hx hb dX0_pointIn_20 rfl (lv_at hl 0 rfl) ?_
        refine va_get (D := (dC, dI)) (ci := 0) (v := .ref r1) (C := RX0) (T := TX0) (N := 7) hx hb hts (fun _ h => List.mem_cons_of_mem _ (List.mem_append_right _ h)) hown hK hP 0 rfl rfl 1 (by decide) (hts (.fieldLink RX0 18 "MovingHeap$Heap" "pointsByPlace" "[I") (List.mem_of_getElem? (i := 2) rfl)) (fun _ h9 => h9) rfl dX0_pointIn_21 ?_
        refine lv_iload_n hx hb dX0_pointIn_24 rfl (lv_at hl 1 rfl) ?_
        refine x_iald hx hb hK hP 1 0 rfl rfl (k) hk (by omega) dX0_pointIn_25 ?_
        exact x_iret hx hb hr hlocks hS () dX0_pointIn_26 (fun t ht => trivial) (Or.inl ⟨k, by omega, hk, hHk.1⟩)
      · refine x_iconst hx hb dX0_pointIn_18 (-1) (by decide) (fun v18 e18 => ?_)
        exact x_iret hx hb hr hlocks hS () dX0_pointIn_19 (fun t ht => trivial) (Or.inr ⟨by omega, by omega⟩)
--== X0_pointIn
set_option maxHeartbeats 4000000 in
set_option maxRecDepth 100000 in
theorem c_X0_placeOf (l : Launch) (dC : Nat → ClassId) (dI : Nat → Nat → Nat) (cI cJ cZ : ClassId) (r0 r1 r2 r3 q0 : Nat) (sz : Nat) (PB PL FL : Nat → Int32) (F : Int32) (E X : Int64) (a : Nat → Nat) (n : Nat) (hH : HK PB PL F a n) (x : Int32) (p : Nat) (hxp : x.toInt = (p : Int)) (hp : p < 24) : Met l yX0_placeOf wsX0_placeOf ({ frames := 0, cells := 0, slots := 0, locals := 0 }) (va_Pc [.ref r0, .int x] (x_B (dC, dI) vwCl (tysN cI cJ cZ) [(r0, .inr (0, [.ref q0, .ref r1, .ref r2, .ref r3, .int F, .long E, .long X])), (r1, .inl (cI, 24, .inl PB)), (r2, .inl (cI, 24, .inl PL)), (r3, .inl (cI, 24, .inl FL))] sz)) (va_Qi (fun (r : Int32) (_ : Unit) => r = PL p) (fun _ _ => True) (va_A [] sz)) 0 0 (va_A [] sz) := by
  refine x_ofR (cc := cX0_placeOf) (maxL := 2) (ret := (some .int)) (own := RX0) (by decide) rfl rfl (Nat.le_of_ble_eq_true rfl) (lvs := [(0, .ref r0), (1, .int x)]) rfl ?_
  intro pg e s mi args below meth co hx hb hr hml hown hts hlocks hsz hP hK ls hl
  subst hsz
  generalize hAe : (va_A [] s.heap.size) = A
  have hA : ∀ q : Nat, s.heap.size ≤ q → A q := fun q h => by rw [← hAe]; exact Or.inr h
  have hS : va_S A s.heap s.heap [] := va_S.rf
  obtain ⟨hHF, hHn, hHa⟩ := id hH
  refine lv_iload_n hx hb dX0_placeOf_0 rfl (lv_at hl 1 rfl) ?_
  refine x_if_lt (tgt := 10) hx hb dX0_placeOf_1 (by decide) (fun c1 => ?_) (fun c1 => ?_)
  · exact absurd c1 (by omega)
  · refine lv_iload_n hx hb dX0_placeOf_4 rfl (lv_at hl 1 rfl) ?_
    refine x_bipush hx hb dX0_placeOf_5 (24) (by decide) (fun v5 e5 => ?_)
    refine x_icmp_lt (tgt := 12) hx hb dX0_placeOf_7 (by decide) (fun c7 => ?_) (fun c7 => ?_)
    · refine lv_aload_n hx hb dX0_placeOf_12 rfl (lv_at hl 0 rfl) ?_
      refine va_get (D := (dC, dI)) (ci := 0) (v := .ref r2) (C := RX0) (T := TX0) (N := 7) hx hb hts (fun _ h => List.mem_cons_of_mem _ (List.mem_append_right _ h)) hown hK hP 0 rfl rfl 2 (by decide) (hts (.fieldLink RX0 22 "MovingHeap$Heap" "placesByPoint" "[I") (List.mem_of_getElem? (i := 1) rfl)) (fun _ h9 => h9) rfl dX0_placeOf_13 ?_
      refine lv_iload_n hx hb dX0_placeOf_16 rfl (lv_at hl 1 rfl) ?_
      refine x_iald hx hb hK hP 2 0 rfl rfl (p) hxp hp dX0_placeOf_17 ?_
      exact x_iret hx hb hr hlocks hS () dX0_placeOf_18 (fun t ht => trivial) rfl
    · exact absurd c7 (by omega)
--== X0_placeOf
set_option maxHeartbeats 4000000 in
set_option maxRecDepth 100000 in
theorem c_X0_hasCertificate (l : Launch) (dC : Nat → ClassId) (dI : Nat → Nat → Nat) (cI cJ cZ : ClassId) (r0 r1 r2 r3 q0 : Nat) (sz : Nat) (PB PL FL : Nat → Int32) (F : Int32) (E X : Int64) (a : Nat → Nat) (n : Nat) (hH : HK PB PL F a n) (x : Int32) : Met l yX0_hasCertificate wsX0_hasCertificate ({ frames := 0, cells := 0, slots := 0, locals := 0 }) (va_Pc [.ref r0, .int x] (x_B (dC, dI) vwCl (tysN cI cJ cZ) [(r0, .inr (0, [.ref q0, .ref r1, .ref r2, .ref r3, .int F, .long E, .long X])), (r1, .inl (cI, 24, .inl PB)), (r2, .inl (cI, 24, .inl PL)), (r3, .inl (cI, 24, .inl FL))] sz)) (va_Qi (fun (r : Int32) (_ : Unit) => (r.toInt = 1 ∧ 1 ≤ x.toInt ∧ x.toInt < (n : Int)) ∨ (r.toInt = 0 ∧ ¬ (1 ≤ x.toInt ∧ x.toInt < (n : Int)))) (fun _ _ => True) (va_A [] sz)) 0 0 (va_A [] sz) := by
  refine x_ofR (cc := cX0_hasCertificate) (maxL := 2) (ret := (some .boolean)) (own := RX0) (by decide) rfl rfl (Nat.le_of_ble_eq_true rfl) (lvs := [(0, .ref r0), (1, .int x)]) rfl ?_
  intro pg e s mi args below meth co hx hb hr hml hown hts hlocks hsz hP hK ls hl
  subst hsz
  generalize hAe : (va_A [] s.heap.size) = A
  have hA : ∀ q : Nat, s.heap.size ≤ q → A q := fun q h => by rw [← hAe]; exact Or.inr h
  have hS : va_S A s.heap s.heap [] := va_S.rf
  obtain ⟨hHF, hHn, hHa⟩ := id hH
  refine lv_iload_n hx hb dX0_hasCertificate_0 rfl (lv_at hl 1 rfl) ?_
  refine x_iconst hx hb dX0_hasCertificate_1 (1) (by decide) (fun v1 e1 => ?_)
  refine x_icmp_lt (tgt := 17) hx hb dX0_hasCertificate_2 (by decide) (fun c2 => ?_) (fun c2 => ?_)
  · refine x_iconst hx hb dX0_hasCertificate_17 (0) (by decide) (fun v17 e17 => ?_)
    exact x_zret hx hb hr hlocks hS () dX0_hasCertificate_18 (fun t ht => trivial) (by omega) (by omega)
  · refine lv_iload_n hx hb dX0_hasCertificate_5 rfl (lv_at hl 1 rfl) ?_
    refine lv_aload_n hx hb dX0_hasCertificate_6 rfl (lv_at hl 0 rfl) ?_
    refine va_get (D := (dC, dI)) (ci := 0) (v := .int F) (C := RX0) (T := TX0) (N := 7) hx hb hts (fun _ h => List.mem_cons_of_mem _ (List.mem_append_right _ h)) hown hK hP 0 rfl rfl 4 (by decide) (hts (.fieldLink RX0 28 "MovingHeap$Heap" "filled" "I") (List.mem_of_getElem? (i := 1) rfl)) (fun _ h9 => h9) rfl dX0_hasCertificate_7 ?_
    refine x_icmp_ge (tgt := 17) hx hb dX0_hasCertificate_10 (by decide) (fun c10 => ?_) (fun c10 => ?_)
    · refine x_iconst hx hb dX0_hasCertificate_17 (0) (by decide) (fun v17 e17 => ?_)
      exact x_zret hx hb hr hlocks hS () dX0_hasCertificate_18 (fun t ht => trivial) (by omega) (by omega)
    · refine x_iconst hx hb dX0_hasCertificate_13 (1) (by decide) (fun v13 e13 => ?_)
      refine lv_goto (tgt := 18) hx hb dX0_hasCertificate_14 (by decide) ?_
      exact x_zret hx hb hr hlocks hS () dX0_hasCertificate_18 (fun t ht => trivial) (by omega) (by omega)
--== X0_hasCertificate
set_option maxHeartbeats 4000000 in
set_option maxRecDepth 100000 in
theorem c_X0_put (l : Launch) (dC : Nat → ClassId) (dI : Nat → Nat → Nat) (cI cJ cZ : ClassId) (r0 r1 r2 r3 q0 : Nat) (sz : Nat) (PB PL FL : Nat → Int32) (F : Int32) (E X : Int64) (x y : Int32) (k p : Nat) (hxk : x.toInt = (k : Int)) (hyp : y.toInt = (p : Int)) (hk : k < 24) (hp : p < 24) : Met l yX0_put wsX0_put ({ frames := 0, cells := 0, slots := 0, locals := 0 }) (va_Pc [.ref r0, .int x, .int y] (x_M (dC, dI) vwCl (tysN cI cJ cZ) [(r0, .inr (0, [.ref q0, .ref r1, .ref r2, .ref r3, .int F, .long E, .long X])), (r1, .inl (cI, 24, .inl PB)), (r2, .inl (cI, 24, .inl PL)), (r3, .inl (cI, 24, .inl FL))] sz)) (va_Qv (fun (u : ((Nat → Int32) × (Nat → Int32))) => u.1 = upd PB k y ∧ u.2 = upd PL p x) (fun (u : ((Nat → Int32) × (Nat → Int32))) t => va_P (dC, dI) vwCl [(r0, .inr (0, [.ref q0, .ref r1, .ref r2, .ref r3, .int F, .long E, .long X])), (r1, .inl (cI, 24, .inl u.1)), (r2, .inl (cI, 24, .inl u.2)), (r3, .inl (cI, 24, .inl FL))] t.heap) (va_A [(r0, .inr (0, [.ref q0, .ref r1, .ref r2, .ref r3, .int F, .long E, .long X])), (r1, .inl (cI, 24, .inl PB)), (r2, .inl (cI, 24, .inl PL)), (r3, .inl (cI, 24, .inl FL))] sz)) 0 0 (va_A [(r0, .inr (0, [.ref q0, .ref r1, .ref r2, .ref r3, .int F, .long E, .long X])), (r1, .inl (cI, 24, .inl PB)), (r2, .inl (cI, 24, .inl PL)), (r3, .inl (cI, 24, .inl FL))] sz) := by
  refine x_ofM (cc := cX0_put) (maxL := 3) (ret := none) (own := RX0) (by decide) rfl rfl (Nat.le_of_ble_eq_true rfl) (lvs := [(0, .ref r0), (1, .int x), (2, .int y)]) rfl ?_
  intro pg e s mi args below meth co hx hb hr hml hown hts hlocks hin hsz hP hK hD ls hl
  subst hsz
  generalize hAe : (va_A [(r0, .inr (0, [.ref q0, .ref r1, .ref r2, .ref r3, .int F, .long E, .long X])), (r1, .inl (cI, 24, .inl PB)), (r2, .inl (cI, 24, .inl PL)), (r3, .inl (cI, 24, .inl FL))] s.heap.size) = A at hD ⊢
  have hA : ∀ q : Nat, s.heap.size ≤ q → A q := fun q h => by rw [← hAe]; exact Or.inr h
  have hS : va_S A s.heap s.heap [] := va_S.rf
  refine lv_iload_n hx hb dX0_put_0 rfl (lv_at hl 1 rfl) ?_
  refine x_if_lt (tgt := 34) hx hb dX0_put_1 (by decide) (fun c1 => ?_) (fun c1 => ?_)
  · exact absurd c1 (by omega)
  · refine lv_iload_n hx hb dX0_put_4 rfl (lv_at hl 1 rfl) ?_
    refine x_bipush hx hb dX0_put_5 (24) (by decide) (fun v5 e5 => ?_)
    refine x_icmp_ge (tgt := 34) hx hb dX0_put_7 (by decide) (fun c7 => ?_) (fun c7 => ?_)
    · exact absurd c7 (by omega)
    · refine lv_iload_n hx hb dX0_put_10 rfl (lv_at hl 2 rfl) ?_
      refine x_if_lt (tgt := 34) hx hb dX0_put_11 (by decide) (fun c11 => ?_) (fun c11 => ?_)
      · exact absurd c11 (by omega)
      · refine lv_iload_n hx hb dX0_put_14 rfl (lv_at hl 2 rfl) ?_
        refine x_bipush hx hb dX0_put_15 (24) (by decide) (fun v15 e15 => ?_)
        refine x_icmp_ge (tgt := 34) hx hb dX0_put_17 (by decide) (fun c17 => ?_) (fun c17 => ?_)
        · exact absurd c17 (by omega)
        · refine lv_aload_n hx hb dX0_put_20 rfl (lv_at hl 0 rfl) ?_
          refine va_get (D := (dC, dI)) (ci := 0) (v := .ref r1) (C := RX0) (T := TX0) (N := 7) hx hb hts (fun _ h => List.mem_cons_of_mem _ (List.mem_append_right _ h)) hown hK hP 0 rfl rfl 1 (by decide) (hts (.fieldLink RX0 18 "MovingHeap$Heap" "pointsByPlace" "[I") (List.mem_of_getElem? (i := 1) rfl)) (fun _ h9 => h9) rfl dX0_put_21 ?_
          refine lv_iload_n hx hb dX0_put_24 rfl (lv_at hl 1 rfl) ?_
          refine lv_iload_n hx hb dX0_put_25 rfl (lv_at hl 2 rfl) ?_
          refine x_iast hx hb hK hP hD hS 1 0 rfl rfl (k) hxk hk dX0_put_26 (fun H locs hP hD hS => ?_)
          have hP : va_P (dC, dI) vwCl [(r0, .inr (0, [.ref q0, .ref r1, .ref r2, .ref r3, .int F, .long E, .long X])), (r1, .inl (cI, 24, .inl (upd PB k y))), (r2, .inl (cI, 24, .inl PL)), (r3, .inl (cI, 24, .inl FL))] H := hP
          have hD : va_D A [(r0, .inr (0, [.ref q0, .ref r1, .ref r2, .ref r3, .int F, .long E, .long X])), (r1, .inl (cI, 24, .inl (upd PB k y))), (r2, .inl (cI, 24, .inl PL)), (r3, .inl (cI, 24, .inl FL))] := hD
          refine lv_aload_n hx hb dX0_put_27 rfl (lv_at hl 0 rfl) ?_
          refine va_get (D := (dC, dI)) (ci := 0) (v := .ref r2) (C := RX0) (T := TX0) (N := 7) hx hb hts (fun _ h => List.mem_cons_of_mem _ (List.mem_append_right _ h)) hown hK hP 0 rfl rfl 2 (by decide) (hts (.fieldLink RX0 22 "MovingHeap$Heap" "placesByPoint" "[I") (List.mem_of_getElem? (i := 2) rfl)) (fun _ h9 => h9) rfl dX0_put_28 ?_
          refine lv_iload_n hx hb dX0_put_31 rfl (lv_at hl 2 rfl) ?_
          refine lv_iload_n hx hb dX0_put_32 rfl (lv_at hl 1 rfl) ?_
          refine x_iast hx hb hK hP hD hS 2 0 rfl rfl (p) hyp hp dX0_put_33 (fun H locs hP hD hS => ?_)
          have hP : va_P (dC, dI) vwCl [(r0, .inr (0, [.ref q0, .ref r1, .ref r2, .ref r3, .int F, .long E, .long X])), (r1, .inl (cI, 24, .inl (upd PB k y))), (r2, .inl (cI, 24, .inl (upd PL p x))), (r3, .inl (cI, 24, .inl FL))] H := hP
          have hD : va_D A [(r0, .inr (0, [.ref q0, .ref r1, .ref r2, .ref r3, .int F, .long E, .long X])), (r1, .inl (cI, 24, .inl (upd PB k y))), (r2, .inl (cI, 24, .inl (upd PL p x))), (r3, .inl (cI, 24, .inl FL))] := hD
          exact x_vret hx hb hr hlocks hS (upd PB k y, upd PL p x) dX0_put_34 (fun t ht => by rw [ht]; exact hP) ⟨rfl, rfl⟩
--== X0_put
set_option maxHeartbeats 4000000 in
set_option maxRecDepth 100000 in
theorem c_X0_append (l : Launch) (dC : Nat → ClassId) (dI : Nat → Nat → Nat) (cI cJ cZ : ClassId) (r0 r1 r2 r3 q0 : Nat) (sz : Nat) (PB PL FL : Nat → Int32) (F : Int32) (E X : Int64) (a : Nat → Nat) (n : Nat) (hH : HK PB PL F a n) (x : Int32) (p : Nat) (hxp : x.toInt = (p : Int)) (hp : p < 24) (hn : n < 24) (hno : ∀ k : Nat, k < n → a k ≠ p) : Met l yX0_append wsX0_append ({ frames := 1, cells := 0, slots := 0, locals := 22 }) (va_Pc [.ref r0, .int x] (x_M (dC, dI) vwCl (tysN cI cJ cZ) [(r0, .inr (0, [.ref q0, .ref r1, .ref r2, .ref r3, .int F, .long E, .long X])), (r1, .inl (cI, 24, .inl PB)), (r2, .inl (cI, 24, .inl PL)), (r3, .inl (cI, 24, .inl FL))] sz)) (va_Qv (fun (u : ((Nat → Int32) × (Nat → Int32) × Int32)) => HK u.1 u.2.1 u.2.2 (updA a n p) (n + 1)) (fun (u : ((Nat → Int32) × (Nat → Int32) × Int32)) t => va_P (dC, dI) vwCl [(r0, .inr (0, [.ref q0, .ref r1, .ref r2, .ref r3, .int u.2.2, .long E, .long X])), (r1, .inl (cI, 24, .inl u.1)), (r2, .inl (cI, 24, .inl u.2.1)), (r3, .inl (cI, 24, .inl FL))] t.heap) (va_A [(r0, .inr (0, [.ref q0, .ref r1, .ref r2, .ref r3, .int F, .long E, .long X])), (r1, .inl (cI, 24, .inl PB)), (r2, .inl (cI, 24, .inl PL)), (r3, .inl (cI, 24, .inl FL))] sz)) 0 0 (va_A [(r0, .inr (0, [.ref q0, .ref r1, .ref r2, .ref r3, .int F, .long E, .long X])), (r1, .inl (cI, 24, .inl PB)), (r2, .inl (cI, 24, .inl PL)), (r3, .inl (cI, 24, .inl FL))] sz) := by
  refine x_ofM (cc := cX0_append) (maxL := 2) (ret := none) (own := RX0) (by decide) rfl rfl (Nat.le_of_ble_eq_true rfl) (lvs := [(0, .ref r0), (1, .int x)]) rfl ?_
  intro pg e s mi args below meth co hx hb hr hml hown hts hlocks hin hsz hP hK hD ls hl
  subst hsz
  generalize hAe : (va_A [(r0, .inr (0, [.ref q0, .ref r1, .ref r2, .ref r3, .int F, .long E, .long X])), (r1, .inl (cI, 24, .inl PB)), (r2, .inl (cI, 24, .inl PL)), (r3, .inl (cI, 24, .inl FL))] s.heap.size) = A at hD ⊢
  have hA : ∀ q : Nat, s.heap.size ≤ q → A q := fun q h => by rw [← hAe]; exact Or.inr h
  have hS : va_S A s.heap s.heap [] := va_S.rf
  obtain ⟨hHF, hHn, hHa⟩ := id hH
  refine lv_aload_n hx hb dX0_append_0 rfl (lv_at hl 0 rfl) ?_
  refine va_get (D := (dC, dI)) (ci := 0) (v := .int F) (C := RX0) (T := TX0) (N := 7) hx hb hts (fun _ h => List.mem_cons_of_mem _ (List.mem_append_right _ h)) hown hK hP 0 rfl rfl 4 (by decide) (hts (.fieldLink RX0 28 "MovingHeap$Heap" "filled" "I") (List.mem_of_getElem? (i := 1) rfl)) (fun _ h9 => h9) rfl dX0_append_1 ?_
  refine x_bipush hx hb dX0_append_4 (24) (by decide) (fun v4 e4 => ?_)
  refine x_icmp_ge (tgt := 28) hx hb dX0_append_6 (by decide) (fun c6 => ?_) (fun c6 => ?_)
  · exact absurd c6 (by omega)
  · refine lv_aload_n hx hb dX0_append_9 rfl (lv_at hl 0 rfl) ?_
    refine lv_aload_n hx hb dX0_append_10 rfl (lv_at hl 0 rfl) ?_
    refine va_get (D := (dC, dI)) (ci := 0) (v := .int F) (C := RX0) (T := TX0) (N := 7) hx hb hts (fun _ h => List.mem_cons_of_mem _ (List.mem_append_right _ h)) hown hK hP 0 rfl rfl 4 (by decide) (hts (.fieldLink RX0 28 "MovingHeap$Heap" "filled" "I") (List.mem_of_getElem? (i := 1) rfl)) (fun _ h9 => h9) rfl dX0_append_11 ?_
    refine lv_iload_n hx hb dX0_append_14 rfl (lv_at hl 1 rfl) ?_
    have hPc := hP.sub (ws' := [(r0, .inr (0, [.ref q0, .ref r1, .ref r2, .ref r3, .int F, .long E, .long X])), (r1, .inl (cI, 24, .inl PB)), (r2, .inl (cI, 24, .inl PL)), (r3, .inl (cI, 24, .inl FL))]) [0, 1, 2, 3] rfl
    have hDc := hD.sub (ws' := [(r0, .inr (0, [.ref q0, .ref r1, .ref r2, .ref r3, .int F, .long E, .long X])), (r1, .inl (cI, 24, .inl PB)), (r2, .inl (cI, 24, .inl PL)), (r3, .inl (cI, 24, .inl FL))]) [0, 1, 2, 3] (by decide) rfl
    have hFc := va_free (wc := [(r0, .inr (0, [.ref q0, .ref r1, .ref r2, .ref r3, .int F, .long E, .long X])), (r1, .inl (cI, 24, .inl PB)), (r2, .inl (cI, 24, .inl PL)), (r3, .inl (cI, 24, .inl FL))]) hD hS hA [0, 1, 2, 3] rfl
    refine x_callvM (va_runV (As := [.int F, .int x]) (rest := []) ⟨hx, hb, hml, hown, hts⟩ (c_X0_put l dC dI cI cJ cZ r0 r1 r2 r3 q0 s.heap.size PB PL FL F E X F x n p hHF hxp hn hp) (cwV 2 hts gX0_append_X0_put rfl rfl rfl (by decide +kernel) ⟨Nat.le_of_ble_eq_true rfl, Nat.le_of_ble_eq_true rfl⟩) ⟨x_Mb, va_recv hK hP (ci := 0) (q0 := 0) rfl rfl, (fun U hU hW => ⟨rfl, by rw [hU], by rw [hU]; exact hPc, va_K.moved hW.alike hK, hDc.weaken (fun _ _ _ _ => trivial)⟩)⟩ rfl rfl hl.1 rfl (lv_room (Nat.le_of_ble_eq_true rfl)) dX0_append_15 ⟨Nat.zero_le _, Nat.zero_le _⟩) hS hFc (fun u15 H1 locs h15 hP1 hkk hS => ?_)
    obtain ⟨hP, hD⟩ := x_join (ws' := [(r0, .inr (0, [.ref q0, .ref r1, .ref r2, .ref r3, .int F, .long E, .long X])), (r1, .inl (cI, 24, .inl u15.1)), (r2, .inl (cI, 24, .inl u15.2)), (r3, .inl (cI, 24, .inl FL))]) hP hD [0, 1, 2, 3] [] rfl rfl rfl 4 rfl (by decide) (by decide) rfl hkk hP1
    generalize H1 = H at hP hS ⊢
    refine lv_aload_n hx hb dX0_append_18 rfl (lv_at hl 0 rfl) ?_
    refine lv_dup hx hb dX0_append_19 rfl ?_
    refine va_get (D := (dC, dI)) (ci := 0) (v := .int F) (C := RX0) (T := TX0) (N := 7) hx hb hts (fun _ h => List.mem_cons_of_mem _ (List.mem_append_right _ h)) hown hK hP 0 rfl rfl 4 (by decide) (hts (.fieldLink RX0 28 "MovingHeap$Heap" "filled" "I") (List.mem_of_getElem? (i := 1) rfl)) (fun _ h9 => h9) rfl dX0_append_20 ?_
    refine x_iconst hx hb dX0_append_23 (1) (by decide) (fun v23 e23 => ?_)
    refine x_iadd hx hb dX0_append_24 (by omega) (by omega) (fun v24 e24 => ?_)
    refine va_put (D := (dC, dI)) (ci := 0) (v := .int v24) (ty := .int) (C := RX0) (T := TX0) (N := 7) hx hb hts (fun _ h => List.mem_cons_of_mem _ (List.mem_append_right _ h)) tyX0 tyX0_ok nmX0 hown hK hP hD hS 0 rfl rfl 4 (by decide) (hts (.fieldLink RX0 28 "MovingHeap$Heap" "filled" "I") (List.mem_of_getElem? (i := 1) rfl)) (fun _ h9 => h9) rfl (by decide +kernel) rfl rfl (Nat.le_of_ble_eq_true rfl) dX0_append_25 (fun H locs hP hD hS => ?_)
    have hP : va_P (dC, dI) vwCl [(r0, .inr (0, [.ref q0, .ref r1, .ref r2, .ref r3, .int v24, .long E, .long X])), (r1, .inl (cI, 24, .inl u15.1)), (r2, .inl (cI, 24, .inl u15.2)), (r3, .inl (cI, 24, .inl FL))] H := hP
    have hD : va_D A [(r0, .inr (0, [.ref q0, .ref r1, .ref r2, .ref r3, .int v24, .long E, .long X])), (r1, .inl (cI, 24, .inl u15.1)), (r2, .inl (cI, 24, .inl u15.2)), (r3, .inl (cI, 24, .inl FL))] := hD
    exact x_vret hx hb hr hlocks hS (u15.1, u15.2, v24) dX0_append_28 (fun t ht => by rw [ht]; exact hP) (by dsimp only; rw [h15.1, h15.2]; exact hk_app hH hHF hxp hp hn (by omega) hno)
--== X0_append
set_option maxHeartbeats 4000000 in
set_option maxRecDepth 100000 in
theorem c_X0_takeOut (l : Launch) (dC : Nat → ClassId) (dI : Nat → Nat → Nat) (cI cJ cZ : ClassId) (r0 r1 r2 r3 q0 : Nat) (sz : Nat) (PB PL FL : Nat → Int32) (F : Int32) (E X : Int64) (a : Nat → Nat) (n : Nat) (hH : HK PB PL F a n) (x : Int32) (p : Nat) (hxp : x.toInt = (p : Int)) (hp : p < 24) (k : Nat) (hk : k < n) (hak : a k = p) : Met l yX0_takeOut wsX0_takeOut ({ frames := 1, cells := 0, slots := 0, locals := 22 }) (va_Pc [.ref r0, .int x] (x_M (dC, dI) vwCl (tysN cI cJ cZ) [(r0, .inr (0, [.ref q0, .ref r1, .ref r2, .ref r3, .int F, .long E, .long X])), (r1, .inl (cI, 24, .inl PB)), (r2, .inl (cI, 24, .inl PL)), (r3, .inl (cI, 24, .inl FL))] sz)) (va_Qv (fun (u : ((Nat → Int32) × (Nat → Int32) × Int32)) => HK u.1 u.2.1 u.2.2 (updA a k (a (n - 1))) (n - 1)) (fun (u : ((Nat → Int32) × (Nat → Int32) × Int32)) t => va_P (dC, dI) vwCl [(r0, .inr (0, [.ref q0, .ref r1, .ref r2, .ref r3, .int u.2.2, .long E, .long X])), (r1, .inl (cI, 24, .inl u.1)), (r2, .inl (cI, 24, .inl u.2.1)), (r3, .inl (cI, 24, .inl FL))] t.heap) (va_A [(r0, .inr (0, [.ref q0, .ref r1, .ref r2, .ref r3, .int F, .long E, .long X])), (r1, .inl (cI, 24, .inl PB)), (r2, .inl (cI, 24, .inl PL)), (r3, .inl (cI, 24, .inl FL))] sz)) 0 0 (va_A [(r0, .inr (0, [.ref q0, .ref r1, .ref r2, .ref r3, .int F, .long E, .long X])), (r1, .inl (cI, 24, .inl PB)), (r2, .inl (cI, 24, .inl PL)), (r3, .inl (cI, 24, .inl FL))] sz) := by
  refine x_ofM (cc := cX0_takeOut) (maxL := 4) (ret := none) (own := RX0) (by decide) rfl rfl (Nat.le_of_ble_eq_true rfl) (lvs := [(0, .ref r0), (1, .int x)]) rfl ?_
  intro pg e s mi args below meth co hx hb hr hml hown hts hlocks hin hsz hP hK hD ls hl
  subst hsz
  generalize hAe : (va_A [(r0, .inr (0, [.ref q0, .ref r1, .ref r2, .ref r3, .int F, .long E, .long X])), (r1, .inl (cI, 24, .inl PB)), (r2, .inl (cI, 24, .inl PL)), (r3, .inl (cI, 24, .inl FL))] s.heap.size) = A at hD ⊢
  have hA : ∀ q : Nat, s.heap.size ≤ q → A q := fun q h => by rw [← hAe]; exact Or.inr h
  have hS : va_S A s.heap s.heap [] := va_S.rf
  obtain ⟨hHF, hHn, hHa⟩ := id hH
  refine lv_aload_n hx hb dX0_takeOut_0 rfl (lv_at hl 0 rfl) ?_
  refine lv_iload_n hx hb dX0_takeOut_1 rfl (lv_at hl 1 rfl) ?_
  have hPc := hP.sub (ws' := [(r0, .inr (0, [.ref q0, .ref r1, .ref r2, .ref r3, .int F, .long E, .long X])), (r1, .inl (cI, 24, .inl PB)), (r2, .inl (cI, 24, .inl PL)), (r3, .inl (cI, 24, .inl FL))]) [0, 1, 2, 3] rfl
  refine x_calli (va_runV (As := [.int x]) (rest := []) ⟨hx, hb, hml, hown, hts⟩ (c_X0_placeOf l dC dI cI cJ cZ r0 r1 r2 r3 q0 s.heap.size PB PL FL F E X a n hH x p hxp hp) (cwV 1 hts gX0_takeOut_X0_placeOf rfl rfl rfl (by decide +kernel) ⟨Nat.le_of_ble_eq_true rfl, Nat.le_of_ble_eq_true rfl⟩) ⟨x_Bb, va_recv hK hP (ci := 0) (q0 := 0) rfl rfl, (fun U hU hW => ⟨rfl, by rw [hU], by rw [hU]; exact hPc, va_K.moved hW.alike hK⟩)⟩ rfl rfl hl.1 rfl (lv_room (Nat.le_of_ble_eq_true rfl)) dX0_takeOut_2 ⟨Nat.zero_le _, Nat.zero_le _⟩) hS hA hP (fun v2 _ H locs h2 hP hS => ?_)
  have hHk := hHa k hk
  rw [hak, ← h2] at hHk
  have hHl := hHa (n - 1) (by omega)
  refine lv_istore_n (lv' := [(2, .int v2), (0, .ref r0), (1, .int x)]) hx hb dX0_takeOut_5 rfl hl (by decide) rfl (fun ls hl => ?_)
  refine lv_aload_n hx hb dX0_takeOut_6 rfl (lv_at hl 1 rfl) ?_
  refine va_get (D := (dC, dI)) (ci := 0) (v := .int F) (C := RX0) (T := TX0) (N := 7) hx hb hts (fun _ h => List.mem_cons_of_mem _ (List.mem_append_right _ h)) hown hK hP 0 rfl rfl 4 (by decide) (hts (.fieldLink RX0 28 "MovingHeap$Heap" "filled" "I") (List.mem_of_getElem? (i := 1) rfl)) (fun _ h9 => h9) rfl dX0_takeOut_7 ?_
  refine x_iconst hx hb dX0_takeOut_10 (1) (by decide) (fun v10 e10 => ?_)
  refine x_isub hx hb dX0_takeOut_11 (by omega) (by omega) (fun v11 e11 => ?_)
  refine lv_istore_n (lv' := [(3, .int v11), (2, .int v2), (0, .ref r0), (1, .int x)]) hx hb dX0_takeOut_12 rfl hl (by decide) rfl (fun ls hl => ?_)
  refine lv_iload_n hx hb dX0_takeOut_13 rfl (lv_at hl 1 rfl) ?_
  refine x_if_lt (tgt := 37) hx hb dX0_takeOut_14 (by decide) (fun c14 => ?_) (fun c14 => ?_)
  · exact absurd c14 (by omega)
  · refine lv_iload_n hx hb dX0_takeOut_17 rfl (lv_at hl 1 rfl) ?_
    refine lv_iload_n hx hb dX0_takeOut_18 rfl (lv_at hl 0 rfl) ?_
    refine x_icmp_gt (tgt := 37) hx hb dX0_takeOut_19 (by decide) (fun c19 => ?_) (fun c19 => ?_)
    · exact absurd c19 (by omega)
    · refine lv_aload_n hx hb dX0_takeOut_22 rfl (lv_at hl 2 rfl) ?_
      refine lv_iload_n hx hb dX0_takeOut_23 rfl (lv_at hl 1 rfl) ?_
      refine lv_aload_n hx hb dX0_takeOut_24 rfl (lv_at hl 2 rfl) ?_
      refine lv_iload_n hx hb dX0_takeOut_25 rfl (lv_at hl 0 rfl) ?_
      have hPc := hP.sub (ws' := [(r0, .inr (0, [.ref q0, .ref r1, .ref r2, .ref r3, .int F, .long E, .long X])), (r1, .inl (cI, 24, .inl PB)), (r2, .inl (cI, 24, .inl PL)), (r3, .inl (cI, 24, .inl FL))]) [0, 1, 2, 3] rfl
      refine x_calli (va_runV (As := [.int v11]) (rest := [.int v2, .ref r0]) ⟨hx, hb, hml, hown, hts⟩ (c_X0_pointIn l dC dI cI cJ cZ r0 r1 r2 r3 q0 H.size PB PL FL F E X a n hH v11) (cwV 1 hts gX0_takeOut_X0_pointIn rfl rfl rfl (by decide +kernel) ⟨Nat.le_of_ble_eq_true rfl, Nat.le_of_ble_eq_true rfl⟩) ⟨x_Bb, va_recv hK hP (ci := 0) (q0 := 0) rfl rfl, (fun U hU hW => ⟨rfl, by rw [hU], by rw [hU]; exact hPc, va_K.moved hW.alike hK⟩)⟩ rfl rfl hl.1 rfl (lv_room (Nat.le_of_ble_eq_true rfl)) dX0_takeOut_26 ⟨Nat.zero_le _, Nat.zero_le _⟩) hS hA hP (fun v26 _ H locs h26 hP hS => ?_)
      replace h26 : v26.toInt = (a (n - 1) : Int) := by rcases h26 with ⟨j, hj, hvj, hr26⟩ | q; (have e9 : j = n - 1 := (by omega); subst e9; exact hr26); omega
      have hPc := hP.sub (ws' := [(r0, .inr (0, [.ref q0, .ref r1, .ref r2, .ref r3, .int F, .long E, .long X])), (r1, .inl (cI, 24, .inl PB)), (r2, .inl (cI, 24, .inl PL)), (r3, .inl (cI, 24, .inl FL))]) [0, 1, 2, 3] rfl
      have hDc := hD.sub (ws' := [(r0, .inr (0, [.ref q0, .ref r1, .ref r2, .ref r3, .int F, .long E, .long X])), (r1, .inl (cI, 24, .inl PB)), (r2, .inl (cI, 24, .inl PL)), (r3, .inl (cI, 24, .inl FL))]) [0, 1, 2, 3] (by decide) rfl
      have hFc := va_free (wc := [(r0, .inr (0, [.ref q0, .ref r1, .ref r2, .ref r3, .int F, .long E, .long X])), (r1, .inl (cI, 24, .inl PB)), (r2, .inl (cI, 24, .inl PL)), (r3, .inl (cI, 24, .inl FL))]) hD hS hA [0, 1, 2, 3] rfl
      refine x_callvM (va_runV (As := [.int v2, .int v26]) (rest := []) ⟨hx, hb, hml, hown, hts⟩ (c_X0_put l dC dI cI cJ cZ r0 r1 r2 r3 q0 H.size PB PL FL F E X v2 v26 k (a (n - 1)) hHk.2.2 h26 (by omega) hHl.2.1) (cwV 2 hts gX0_takeOut_X0_put rfl rfl rfl (by decide +kernel) ⟨Nat.le_of_ble_eq_true rfl, Nat.le_of_ble_eq_true rfl⟩) ⟨x_Mb, va_recv hK hP (ci := 0) (q0 := 0) rfl rfl, (fun U hU hW => ⟨rfl, by rw [hU], by rw [hU]; exact hPc, va_K.moved hW.alike hK, hDc.weaken (fun _ _ _ _ => trivial)⟩)⟩ rfl rfl hl.1 rfl (lv_room (Nat.le_of_ble_eq_true rfl)) dX0_takeOut_29 ⟨Nat.zero_le _, Nat.zero_le _⟩) hS hFc (fun u29 H1 locs h29 hP1 hkk hS => ?_)
      obtain ⟨hP, hD⟩ := x_join (ws' := [(r0, .inr (0, [.ref q0, .ref r1, .ref r2, .ref r3, .int F, .long E, .long X])), (r1, .inl (cI, 24, .inl u29.1)), (r2, .inl (cI, 24, .inl u29.2)), (r3, .inl (cI, 24, .inl FL))]) hP hD [0, 1, 2, 3] [] rfl rfl rfl 4 rfl (by decide) (by decide) rfl hkk hP1
      generalize H1 = H at hP hS ⊢
      refine lv_aload_n hx hb dX0_takeOut_32 rfl (lv_at hl 2 rfl) ?_
      refine lv_iload_n hx hb dX0_takeOut_33 rfl (lv_at hl 0 rfl) ?_
      refine va_put (D := (dC, dI)) (ci := 0) (v := .int v11) (ty := .int) (C := RX0) (T := TX0) (N := 7) hx hb hts (fun _ h => List.mem_cons_of_mem _ (List.mem_append_right _ h)) tyX0 tyX0_ok nmX0 hown hK hP hD hS 0 rfl rfl 4 (by decide) (hts (.fieldLink RX0 28 "MovingHeap$Heap" "filled" "I") (List.mem_of_getElem? (i := 1) rfl)) (fun _ h9 => h9) rfl (by decide +kernel) rfl rfl (Nat.le_of_ble_eq_true rfl) dX0_takeOut_34 (fun H locs hP hD hS => ?_)
      have hP : va_P (dC, dI) vwCl [(r0, .inr (0, [.ref q0, .ref r1, .ref r2, .ref r3, .int v11, .long E, .long X])), (r1, .inl (cI, 24, .inl u29.1)), (r2, .inl (cI, 24, .inl u29.2)), (r3, .inl (cI, 24, .inl FL))] H := hP
      have hD : va_D A [(r0, .inr (0, [.ref q0, .ref r1, .ref r2, .ref r3, .int v11, .long E, .long X])), (r1, .inl (cI, 24, .inl u29.1)), (r2, .inl (cI, 24, .inl u29.2)), (r3, .inl (cI, 24, .inl FL))] := hD
      have hF9 : v11.toInt = ((n - 1 : Nat) : Int) := by omega
      exact x_vret hx hb hr hlocks hS (u29.1, u29.2, v11) dX0_takeOut_37 (fun t ht => by rw [ht]; exact hP) (by dsimp only; rw [h29.1, h29.2]; exact hk_take hH hHk.2.2 h26 hk hF9)
--== X0_takeOut
set_option maxHeartbeats 4000000 in
set_option maxRecDepth 100000 in
theorem c_X0_parentOf (l : Launch) (dC : Nat → ClassId) (dI : Nat → Nat → Nat) (cI cJ cZ : ClassId) (sz : Nat) (x : Int32) (k : Nat) (hxk : x.toInt = (k : Int)) (hk1 : 1 ≤ k) : Met l yX0_parentOf wsX0_parentOf ({ frames := 0, cells := 0, slots := 0, locals := 0 }) (va_Pc [.int x] (x_B (dC, dI) vwCl (tysN cI cJ cZ) [] sz)) (va_Qi (fun (r : Int32) (_ : Unit) => r.toInt = (((k - 1) / 2 : Nat) : Int)) (fun _ _ => True) (va_A [] sz)) 0 0 (va_A [] sz) := by
  refine x_ofR (cc := cX0_parentOf) (maxL := 1) (ret := (some .int)) (own := RX0) (by decide) rfl rfl (Nat.le_of_ble_eq_true rfl) (lvs := [(0, .int x)]) rfl ?_
  intro pg e s mi args below meth co hx hb hr hml hown hts hlocks hsz hP hK ls hl
  subst hsz
  generalize hAe : (va_A [] s.heap.size) = A
  have hA : ∀ q : Nat, s.heap.size ≤ q → A q := fun q h => by rw [← hAe]; exact Or.inr h
  have hS : va_S A s.heap s.heap [] := va_S.rf
  have hbx := b_hi x
  refine lv_iload_n hx hb dX0_parentOf_0 rfl (lv_at hl 0 rfl) ?_
  refine x_iconst hx hb dX0_parentOf_1 (1) (by decide) (fun v1 e1 => ?_)
  refine x_isub hx hb dX0_parentOf_2 (by omega) (by omega) (fun v2 e2 => ?_)
  refine x_iconst hx hb dX0_parentOf_3 (2) (by decide) (fun v3 e3 => ?_)
  refine x_idiv hx hb dX0_parentOf_4 (by omega) (by omega) (fun v4 e4 => ?_)
  exact x_iret hx hb hr hlocks hS () dX0_parentOf_5 (fun t ht => trivial) (by rw [e3, e2] at e4; omega)
--== X0_parentOf
set_option maxHeartbeats 4000000 in
set_option maxRecDepth 100000 in
theorem c_X0_failureOf (l : Launch) (dC : Nat → ClassId) (dI : Nat → Nat → Nat) (cI cJ cZ : ClassId) (r0 r1 r2 r3 q0 q1 q2 q3 : Nat) (sz : Nat) (PB PL FL : Nat → Int32) (F : Int32) (E X : Int64) (a : Nat → Nat) (n : Nat) (hH : HK PB PL F a n) (T : Nat → Int32) (G : Nat → Int64) (V : Nat → Int32) (N : Int32) (th : Nat → Bool) (h v : Nat → Int) (hL : LOK T G V th h v) (hT : ∀ k : Nat, k < n → th (a k) = true) (tt : Int32) (ht0 : 0 ≤ tt.toInt) (ht1 : tt.toInt ≤ 1000000) (x : Int32) (k : Nat) (hxk : x.toInt = (k : Int)) (hk1 : 1 ≤ k) (hkn : k < n) : Met l yX0_failureOf wsX0_failureOf ({ frames := 4, cells := 0, slots := 0, locals := 99 }) (va_Pc [.ref r0, .int x, .int tt] (x_B (dC, dI) vwCl (tysN cI cJ cZ) [(r0, .inr (0, [.ref q0, .ref r1, .ref r2, .ref r3, .int F, .long E, .long X])), (r1, .inl (cI, 24, .inl PB)), (r2, .inl (cI, 24, .inl PL)), (r3, .inl (cI, 24, .inl FL)), (q0, .inr (2, [.ref q1, .ref q2, .ref q3, .int N])), (q1, .inl (cZ, 24, .inl T)), (q2, .inl (cJ, 24, .inr (.inl G))), (q3, .inl (cI, 24, .inl V))] sz)) (va_Qi (fun (r : Int32) (_ : Unit) => r.toInt = er h v tt.toInt a k) (fun _ _ => True) (va_A [] sz)) 0 0 (va_A [] sz) := by
  refine x_ofR (cc := cX0_failureOf) (maxL := 3) (ret := (some .int)) (own := RX0) (by decide) rfl rfl (Nat.le_of_ble_eq_true rfl) (lvs := [(0, .ref r0), (1, .int x), (2, .int tt)]) rfl ?_
  intro pg e s mi args below meth co hx hb hr hml hown hts hlocks hsz hP hK ls hl
  subst hsz
  generalize hAe : (va_A [] s.heap.size) = A
  have hA : ∀ q : Nat, s.heap.size ≤ q → A q := fun q h => by rw [← hAe]; exact Or.inr h
  have hS : va_S A s.heap s.heap [] := va_S.rf
  obtain ⟨hHF, hHn, hHa⟩ := id hH
  refine lv_aload_n hx hb dX0_failureOf_0 rfl (lv_at hl 0 rfl) ?_
  refine lv_iload_n hx hb dX0_failureOf_1 rfl (lv_at hl 1 rfl) ?_
  have hPc := hP.sub (ws' := [(r0, .inr (0, [.ref q0, .ref r1, .ref r2, .ref r3, .int F, .long E, .long X])), (r1, .inl (cI, 24, .inl PB)), (r2, .inl (cI, 24, .inl PL)), (r3, .inl (cI, 24, .inl FL))]) [0, 1, 2, 3] rfl
  refine x_calli (va_runV (As := [.int x]) (rest := []) ⟨hx, hb, hml, hown, hts⟩ (c_X0_hasCertificate l dC dI cI cJ cZ r0 r1 r2 r3 q0 s.heap.size PB PL FL F E X a n hH x) (cwV 1 hts gX0_failureOf_X0_hasCertificate rfl rfl rfl (by decide +kernel) ⟨Nat.le_of_ble_eq_true rfl, Nat.le_of_ble_eq_true rfl⟩) ⟨x_Bb, va_recv hK hP (ci := 0) (q0 := 0) rfl rfl, (fun U hU hW => ⟨rfl, by rw [hU], by rw [hU]; exact hPc, va_K.moved hW.alike hK⟩)⟩ rfl rfl hl.1 rfl (lv_room (Nat.le_of_ble_eq_true rfl)) dX0_failureOf_2 ⟨Nat.zero_le _, Nat.zero_le _⟩) hS hA hP (fun v2 _ H locs h2 hP hS => ?_)
  refine x_if_ne (tgt := 11) hx hb dX0_failureOf_5 (by decide) (fun c5 => ?_) (fun c5 => ?_)
  · refine lv_aload_n hx hb dX0_failureOf_11 rfl (lv_at hl 0 rfl) ?_
    refine va_get (D := (dC, dI)) (ci := 0) (v := .ref q0) (C := RX0) (T := TX0) (N := 7) hx hb hts (fun _ h => List.mem_cons_of_mem _ (List.mem_append_left _ (List.mem_append_right _ h))) hown hK hP 0 rfl rfl 0 (by decide) (hts (.fieldLink RX0 12 "MovingHeap$Heap" "points" "LMovingHeap$Lines;") (List.mem_of_getElem? (i := 2) rfl)) (fun _ h9 => h9) rfl dX0_failureOf_12 ?_
    refine lv_aload_n hx hb dX0_failureOf_15 rfl (lv_at hl 0 rfl) ?_
    refine lv_iload_n hx hb dX0_failureOf_16 rfl (lv_at hl 1 rfl) ?_
    have hPc := hP.sub (ws' := []) [] rfl
    refine x_calli (va_runS (As := [.int x]) (rest := [.ref r0, .ref q0]) ⟨hx, hb, hml, hown, hts⟩ (c_X0_parentOf l dC dI cI cJ cZ H.size x k hxk hk1) (va_cwS 1 hts gX0_failureOf_X0_parentOf rfl rfl rfl (by decide +kernel) ⟨Nat.le_of_ble_eq_true rfl, Nat.le_of_ble_eq_true rfl⟩) ⟨x_Bb, (fun U hU hW => ⟨rfl, by rw [hU], by rw [hU]; exact hPc, va_K.moved hW.alike hK⟩)⟩ rfl rfl hl.1 rfl (lv_room (Nat.le_of_ble_eq_true rfl)) dX0_failureOf_17 ⟨Nat.zero_le _, Nat.zero_le _⟩) hS hA hP (fun v17 _ H locs h17 hP hS => ?_)
    have hPc := hP.sub (ws' := [(r0, .inr (0, [.ref q0, .ref r1, .ref r2, .ref r3, .int F, .long E, .long X])), (r1, .inl (cI, 24, .inl PB)), (r2, .inl (cI, 24, .inl PL)), (r3, .inl (cI, 24, .inl FL))]) [0, 1, 2, 3] rfl
    refine x_calli (va_runV (As := [.int v17]) (rest := [.ref q0]) ⟨hx, hb, hml, hown, hts⟩ (c_X0_pointIn l dC dI cI cJ cZ r0 r1 r2 r3 q0 H.size PB PL FL F E X a n hH v17) (cwV 1 hts gX0_failureOf_X0_pointIn rfl rfl rfl (by decide +kernel) ⟨Nat.le_of_ble_eq_true rfl, Nat.le_of_ble_eq_true rfl⟩) ⟨x_Bb, va_recv hK hP (ci := 0) (q0 := 0) rfl rfl, (fun U hU hW => ⟨rfl, by rw [hU], by rw [hU]; exact hPc, va_K.moved hW.alike hK⟩)⟩ rfl rfl hl.1 rfl (lv_room (Nat.le_of_ble_eq_true rfl)) dX0_failureOf_20 ⟨Nat.zero_le _, Nat.zero_le _⟩) hS hA hP (fun v20 _ H locs h20 hP hS => ?_)
    replace h20 : v20.toInt = (a ((k - 1) / 2) : Int) := by rcases h20 with ⟨j, hj, hvj, hr9⟩ | q; (have e9 : j = ((k - 1) / 2) := (by omega); subst e9; exact hr9); omega
    refine lv_aload_n hx hb dX0_failureOf_23 rfl (lv_at hl 0 rfl) ?_
    refine lv_iload_n hx hb dX0_failureOf_24 rfl (lv_at hl 1 rfl) ?_
    have hPc := hP.sub (ws' := [(r0, .inr (0, [.ref q0, .ref r1, .ref r2, .ref r3, .int F, .long E, .long X])), (r1, .inl (cI, 24, .inl PB)), (r2, .inl (cI, 24, .inl PL)), (r3, .inl (cI, 24, .inl FL))]) [0, 1, 2, 3] rfl
    refine x_calli (va_runV (As := [.int x]) (rest := [.int v20, .ref q0]) ⟨hx, hb, hml, hown, hts⟩ (c_X0_pointIn l dC dI cI cJ cZ r0 r1 r2 r3 q0 H.size PB PL FL F E X a n hH x) (cwV 1 hts gX0_failureOf_X0_pointIn rfl rfl rfl (by decide +kernel) ⟨Nat.le_of_ble_eq_true rfl, Nat.le_of_ble_eq_true rfl⟩) ⟨x_Bb, va_recv hK hP (ci := 0) (q0 := 0) rfl rfl, (fun U hU hW => ⟨rfl, by rw [hU], by rw [hU]; exact hPc, va_K.moved hW.alike hK⟩)⟩ rfl rfl hl.1 rfl (lv_room (Nat.le_of_ble_eq_true rfl)) dX0_failureOf_25 ⟨Nat.zero_le _, Nat.zero_le _⟩) hS hA hP (fun v25 _ H locs h25 hP hS => ?_)
    replace h25 : v25.toInt = (a k : Int) := by rcases h25 with ⟨j, hj, hvj, hr9⟩ | q; (have e9 : j = k := (by omega); subst e9; exact hr9); omega
    have hHp := hHa ((k - 1) / 2) (by omega)
    have hHk := hHa k hkn
    refine lv_iload_n hx hb dX0_failureOf_28 rfl (lv_at hl 2 rfl) ?_
    have hPc := hP.sub (ws' := [(q0, .inr (2, [.ref q1, .ref q2, .ref q3, .int N])), (q1, .inl (cZ, 24, .inl T)), (q2, .inl (cJ, 24, .inr (.inl G))), (q3, .inl (cI, 24, .inl V))]) [4, 5, 6, 7] rfl
    refine x_calli (va_runV (As := [.int v20, .int v25, .int tt]) (rest := []) ⟨hx, hb, hml, hown, hts⟩ (c_X2_endOfOrder l dC dI cI cJ cZ q0 q1 q2 q3 H.size T G V N th h v hL v20 v25 (a ((k - 1) / 2)) (a k) h20 h25 hHp.2.1 hHk.2.1 (hT _ (by omega)) (hT _ hkn) tt ht0 ht1) (cwV 3 hts gX0_failureOf_X2_endOfOrder rfl rfl rfl (by decide +kernel) ⟨Nat.le_of_ble_eq_true rfl, Nat.le_of_ble_eq_true rfl⟩) ⟨x_Bb, va_recv hK hP (ci := 2) (q0 := 4) rfl rfl, (fun U hU hW => ⟨rfl, by rw [hU], by rw [hU]; exact hPc, va_K.moved hW.alike hK⟩)⟩ rfl rfl hl.1 rfl (lv_room (Nat.le_of_ble_eq_true rfl)) dX0_failureOf_29 ⟨Nat.zero_le _, Nat.zero_le _⟩) hS hA hP (fun v29 _ H locs h29 hP hS => ?_)
    exact x_iret hx hb hr hlocks hS () dX0_failureOf_32 (fun t ht => trivial) h29
  · exact absurd c5 (by omega)
--== X0_failureOf
set_option maxHeartbeats 4000000 in
set_option maxRecDepth 100000 in
theorem c_X0_nextFailure (l : Launch) (dC : Nat → ClassId) (dI : Nat → Nat → Nat) (cI cJ cZ : ClassId) (r0 r1 r2 r3 q0 q1 q2 q3 : Nat) (sz : Nat) (PB PL FL : Nat → Int32) (F : Int32) (E X : Int64) (a : Nat → Nat) (n : Nat) (hH : HK PB PL F a n) (T : Nat → Int32) (G : Nat → Int64) (V : Nat → Int32) (N : Int32) (th : Nat → Bool) (h v : Nat → Int) (hL : LOK T G V th h v) (hT : ∀ k : Nat, k < n → th (a k) = true) (tt : Int32) (ht0 : 0 ≤ tt.toInt) (ht1 : tt.toInt ≤ 1000000) : Met l yX0_nextFailure wsX0_nextFailure ({ frames := 5, cells := 0, slots := 0, locals := 121 }) (va_Pc [.ref r0, .int tt] (x_B (dC, dI) vwCl (tysN cI cJ cZ) [(r0, .inr (0, [.ref q0, .ref r1, .ref r2, .ref r3, .int F, .long E, .long X])), (r1, .inl (cI, 24, .inl PB)), (r2, .inl (cI, 24, .inl PL)), (r3, .inl (cI, 24, .inl FL)), (q0, .inr (2, [.ref q1, .ref q2, .ref q3, .int N])), (q1, .inl (cZ, 24, .inl T)), (q2, .inl (cJ, 24, .inr (.inl G))), (q3, .inl (cI, 24, .inl V))] sz)) (va_Qi (fun (r : Int32) (_ : Unit) => r.toInt = nfF h v tt.toInt a n) (fun _ _ => True) (va_A [] sz)) 0 0 (va_A [] sz) := by
  refine x_ofR (cc := cX0_nextFailure) (maxL := 4) (ret := (some .int)) (own := RX0) (by decide) rfl rfl (Nat.le_of_ble_eq_true rfl) (lvs := [(0, .ref r0), (1, .int tt)]) rfl ?_
  intro pg e s mi args below meth co hx hb hr hml hown hts hlocks hsz hP hK ls hl
  subst hsz
  generalize hAe : (va_A [] s.heap.size) = A
  have hA : ∀ q : Nat, s.heap.size ≤ q → A q := fun q h => by rw [← hAe]; exact Or.inr h
  have hS : va_S A s.heap s.heap [] := va_S.rf
  obtain ⟨hHF, hHn, hHa⟩ := id hH
  refine x_ldc hx hb hown (hts (.constant RX0 54 (1000001)) (List.mem_of_getElem? (i := 1) rfl)) dX0_nextFailure_0 (1000001) (by decide) (fun v0 e0 => ?_)
  refine lv_istore_n (lv' := [(2, .int v0), (0, .ref r0), (1, .int tt)]) hx hb dX0_nextFailure_2 rfl hl (by decide) rfl (fun ls hl => ?_)
  refine x_iconst hx hb dX0_nextFailure_3 (1) (by decide) (fun v3 e3 => ?_)
  refine lv_istore_n (lv' := [(3, .int v3), (2, .int v0), (0, .ref r0), (1, .int tt)]) hx hb dX0_nextFailure_4 rfl hl (by decide) rfl (fun ls hl => ?_)
  have loop5 : ∀ (fu : Nat) (i : Nat) (x : Int32) (y : Int32), (1 ≤ i) → (i ≤ n ∨ i = 1) → (x.toInt = (i : Int)) → (y.toInt = nfF h v tt.toInt a i) → (25 - i < fu) → ∀ (H : Heap) (locs : List Loc), va_P (dC, dI) vwCl [(r0, .inr (0, [.ref q0, .ref r1, .ref r2, .ref r3, .int F, .long E, .long X])), (r1, .inl (cI, 24, .inl PB)), (r2, .inl (cI, 24, .inl PL)), (r3, .inl (cI, 24, .inl FL)), (q0, .inr (2, [.ref q1, .ref q2, .ref q3, .int N])), (q1, .inl (cZ, 24, .inl T)), (q2, .inl (cJ, 24, .inr (.inl G))), (q3, .inl (cI, 24, .inl V))] H → va_S A s.heap H locs → ∀ (ls : Array Slot), lv_has ls 4 [(0, .ref r0), (1, .int tt), (2, .int y), (3, .int x)] → W pg l e (headSpec wsX0_nextFailure ({ frames := 5, cells := 0, slots := 0, locals := 121 })).room s mi args below meth co H locs 0 0 (MQ below (va_Qi (fun (r : Int32) (_ : Unit) => r.toInt = nfF h v tt.toInt a n) (fun _ _ => True) A) args s 0 0 A) (F0 mi 5 ls []) := by
    intro fu
    induction fu with
    | zero => intro i x y hi1 hi hxi hy hn; exact absurd hn (Nat.not_lt_zero _)
    | succ fu ih5 =>
      intro i x y hi1 hi hxi hy hn H locs hP hS ls hl
      refine lv_iload_n hx hb dX0_nextFailure_5 rfl (lv_at hl 3 rfl) ?_
      refine lv_aload_n hx hb dX0_nextFailure_6 rfl (lv_at hl 0 rfl) ?_
      refine va_get (D := (dC, dI)) (ci := 0) (v := .int F) (C := RX0) (T := TX0) (N := 7) hx hb hts (fun _ h => List.mem_cons_of_mem _ (List.mem_append_left _ (List.mem_append_right _ h))) hown hK hP 0 rfl rfl 4 (by decide) (hts (.fieldLink RX0 28 "MovingHeap$Heap" "filled" "I") (List.mem_of_getElem? (i := 2) rfl)) (fun _ h9 => h9) rfl dX0_nextFailure_7 ?_
      refine x_icmp_ge (tgt := 30) hx hb dX0_nextFailure_10 (by decide) (fun c10 => ?_) (fun c10 => ?_)
      · have hi2 : i = n ∨ (n = 0 ∧ i = 1) := by omega
        refine lv_iload_n hx hb dX0_nextFailure_30 rfl (lv_at hl 2 rfl) ?_
        exact x_iret hx hb hr hlocks hS () dX0_nextFailure_31 (fun t ht => trivial) (by rcases hi2 with q | ⟨q1, q2⟩; (rw [← q]; exact hy); (rw [q1]; rw [q2] at hy; exact hy))
      · refine lv_iload_n hx hb dX0_nextFailure_13 rfl (lv_at hl 2 rfl) ?_
        refine lv_aload_n hx hb dX0_nextFailure_14 rfl (lv_at hl 0 rfl) ?_
        refine lv_iload_n hx hb dX0_nextFailure_15 rfl (lv_at hl 3 rfl) ?_
        refine lv_iload_n hx hb dX0_nextFailure_16 rfl (lv_at hl 1 rfl) ?_
        have hPc := hP.sub (ws' := [(r0, .inr (0, [.ref q0, .ref r1, .ref r2, .ref r3, .int F, .long E, .long X])), (r1, .inl (cI, 24, .inl PB)), (r2, .inl (cI, 24, .inl PL)), (r3, .inl (cI, 24, .inl FL)), (q0, .inr (2, [.ref q1, .ref q2, .ref q3, .int N])), (q1, .inl (cZ, 24, .inl T)), (q2, .inl (cJ, 24, .inr (.inl G))), (q3, .inl (cI, 24, .inl V))]) [0, 1, 2, 3, 4, 5, 6, 7] rfl
        refine x_calli (va_runV (As := [.int x, .int tt]) (rest := [.int y]) ⟨hx, hb, hml, hown, hts⟩ (c_X0_failureOf l dC dI cI cJ cZ r0 r1 r2 r3 q0 q1 q2 q3 H.size PB PL FL F E X a n hH T G V N th h v hL hT tt ht0 ht1 x i hxi hi1 (by omega)) (cwV 2 hts gX0_nextFailure_X0_failureOf rfl rfl rfl (by decide +kernel) ⟨Nat.le_of_ble_eq_true rfl, Nat.le_of_ble_eq_true rfl⟩) ⟨x_Bb, va_recv hK hP (ci := 0) (q0 := 0) rfl rfl, (fun U hU hW => ⟨rfl, by rw [hU], by rw [hU]; exact hPc, va_K.moved hW.alike hK⟩)⟩ rfl rfl hl.1 rfl (lv_room (Nat.le_of_ble_eq_true rfl)) dX0_nextFailure_17 ⟨Nat.zero_le _, Nat.zero_le _⟩) hS hA hP (fun v17 _ H locs h17 hP hS => ?_)
        refine x_imin hx hb (by rw [hml]; exact hl.1.symm) hown (hts (.methodLink RX0 66 Lib.Math.min.name) (List.mem_of_getElem? (i := 3) rfl)) (hts (.static Lib.Math.min.name) (List.mem_of_getElem? (i := 4) rfl)) (hts (.initialized "java/lang/Math") (List.mem_of_getElem? (i := 5) rfl)) (hts (.code Lib.Math.min.name Lib.Math.min.code 2 (some .int)) (List.mem_of_getElem? (i := 6) rfl)) (Nat.le_of_ble_eq_true rfl) (Nat.le_of_ble_eq_true rfl) (Nat.zero_le _) (Nat.zero_le _) dX0_nextFailure_20 (fun v20 e20 => ?_)
        refine lv_istore_n (lv' := [(2, .int v20), (0, .ref r0), (1, .int tt), (3, .int x)]) hx hb dX0_nextFailure_23 rfl hl (by decide) rfl (fun ls hl => ?_)
        refine x_iinc (k := 3) hx hb (1) (by decide) dX0_nextFailure_24 hl rfl (by decide) (by omega) (by omega) (fun v24 ls e24 hl => ?_)
        have hl : lv_has ls 4 [(3, .int v24), (2, .int v20), (0, .ref r0), (1, .int tt)] := hl
        refine lv_goto (tgt := 5) hx hb dX0_nextFailure_27 (by decide) ?_
        exact ih5 (i + 1) v24 v20 (by omega) (by omega) (by omega) (by show _ = nfF h v tt.toInt a (i + 1); unfold nfF; rw [if_pos hi1, ← hy, ← h17]; exact e20) (by omega) _ _ hP hS ls (lv_sub hl [2, 3, 1, 0] rfl)
  exact loop5 (_ + 1) 1 v3 v0 (Nat.le_refl _) (Or.inr rfl) (by omega) (by rw [e0]; rfl) (Nat.lt_succ_self _) _ _ hP hS ls (lv_sub hl [2, 3, 1, 0] rfl)
--== X0_nextFailure
set_option maxHeartbeats 4000000 in
set_option maxRecDepth 100000 in
theorem c_X0_firstBroken (l : Launch) (dC : Nat → ClassId) (dI : Nat → Nat → Nat) (cI cJ cZ : ClassId) (r0 r1 r2 r3 q0 q1 q2 q3 : Nat) (sz : Nat) (PB PL FL : Nat → Int32) (F : Int32) (E X : Int64) (a : Nat → Nat) (n : Nat) (hH : HK PB PL F a n) (T : Nat → Int32) (G : Nat → Int64) (V : Nat → Int32) (N : Int32) (th : Nat → Bool) (h v : Nat → Int) (hL : LOK T G V th h v) (hT : ∀ k : Nat, k < n → th (a k) = true) (tt : Int32) (ht0 : 0 ≤ tt.toInt) (ht1 : tt.toInt ≤ 1000000) : Met l yX0_firstBroken wsX0_firstBroken ({ frames := 3, cells := 0, slots := 0, locals := 70 }) (va_Pc [.ref r0, .int tt] (x_B (dC, dI) vwCl (tysN cI cJ cZ) [(r0, .inr (0, [.ref q0, .ref r1, .ref r2, .ref r3, .int F, .long E, .long X])), (r1, .inl (cI, 24, .inl PB)), (r2, .inl (cI, 24, .inl PL)), (r3, .inl (cI, 24, .inl FL)), (q0, .inr (2, [.ref q1, .ref q2, .ref q3, .int N])), (q1, .inl (cZ, 24, .inl T)), (q2, .inl (cJ, 24, .inr (.inl G))), (q3, .inl (cI, 24, .inl V))] sz)) (va_Qi (fun (r : Int32) (_ : Unit) => r.toInt = (bkF h v tt.toInt a n : Int)) (fun _ _ => True) (va_A [] sz)) 0 0 (va_A [] sz) := by
  refine x_ofR (cc := cX0_firstBroken) (maxL := 3) (ret := (some .int)) (own := RX0) (by decide) rfl rfl (Nat.le_of_ble_eq_true rfl) (lvs := [(0, .ref r0), (1, .int tt)]) rfl ?_
  intro pg e s mi args below meth co hx hb hr hml hown hts hlocks hsz hP hK ls hl
  subst hsz
  generalize hAe : (va_A [] s.heap.size) = A
  have hA : ∀ q : Nat, s.heap.size ≤ q → A q := fun q h => by rw [← hAe]; exact Or.inr h
  have hS : va_S A s.heap s.heap [] := va_S.rf
  obtain ⟨hHF, hHn, hHa⟩ := id hH
  refine x_iconst hx hb dX0_firstBroken_0 (1) (by decide) (fun v0 e0 => ?_)
  refine lv_istore_n (lv' := [(2, .int v0), (0, .ref r0), (1, .int tt)]) hx hb dX0_firstBroken_1 rfl hl (by decide) rfl (fun ls hl => ?_)
  have loop2 : ∀ (fu : Nat) (i : Nat) (x : Int32), (1 ≤ i) → (i ≤ n ∨ i = 1) → (x.toInt = (i : Int)) → (bkF h v tt.toInt a i = 0) → (25 - i < fu) → ∀ (H : Heap) (locs : List Loc), va_P (dC, dI) vwCl [(r0, .inr (0, [.ref q0, .ref r1, .ref r2, .ref r3, .int F, .long E, .long X])), (r1, .inl (cI, 24, .inl PB)), (r2, .inl (cI, 24, .inl PL)), (r3, .inl (cI, 24, .inl FL)), (q0, .inr (2, [.ref q1, .ref q2, .ref q3, .int N])), (q1, .inl (cZ, 24, .inl T)), (q2, .inl (cJ, 24, .inr (.inl G))), (q3, .inl (cI, 24, .inl V))] H → va_S A s.heap H locs → ∀ (ls : Array Slot), lv_has ls 3 [(0, .ref r0), (1, .int tt), (2, .int x)] → W pg l e (headSpec wsX0_firstBroken ({ frames := 3, cells := 0, slots := 0, locals := 70 })).room s mi args below meth co H locs 0 0 (MQ below (va_Qi (fun (r : Int32) (_ : Unit) => r.toInt = (bkF h v tt.toInt a n : Int)) (fun _ _ => True) A) args s 0 0 A) (F0 mi 2 ls []) := by
    intro fu
    induction fu with
    | zero => intro i x hi1 hi hxi hno hn; exact absurd hn (Nat.not_lt_zero _)
    | succ fu ih2 =>
      intro i x hi1 hi hxi hno hn H locs hP hS ls hl
      refine lv_iload_n hx hb dX0_firstBroken_2 rfl (lv_at hl 2 rfl) ?_
      refine lv_aload_n hx hb dX0_firstBroken_3 rfl (lv_at hl 0 rfl) ?_
      refine va_get (D := (dC, dI)) (ci := 0) (v := .int F) (C := RX0) (T := TX0) (N := 7) hx hb hts (fun _ h => List.mem_cons_of_mem _ (List.mem_append_left _ (List.mem_append_right _ h))) hown hK hP 0 rfl rfl 4 (by decide) (hts (.fieldLink RX0 28 "MovingHeap$Heap" "filled" "I") (List.mem_of_getElem? (i := 1) rfl)) (fun _ h9 => h9) rfl dX0_firstBroken_4 ?_
      refine x_icmp_ge (tgt := 42) hx hb dX0_firstBroken_7 (by decide) (fun c7 => ?_) (fun c7 => ?_)
      · have hi2 : i = n ∨ (n = 0 ∧ i = 1) := by omega
        refine x_iconst hx hb dX0_firstBroken_42 (0) (by decide) (fun v42 e42 => ?_)
        exact x_iret hx hb hr hlocks hS () dX0_firstBroken_43 (fun t ht => trivial) (by rcases hi2 with q | ⟨q1, q2⟩; (rw [← q, hno]; exact e42); (rw [q1]; exact e42))
      · refine lv_aload_n hx hb dX0_firstBroken_10 rfl (lv_at hl 0 rfl) ?_
        refine va_get (D := (dC, dI)) (ci := 0) (v := .ref q0) (C := RX0) (T := TX0) (N := 7) hx hb hts (fun _ h => List.mem_cons_of_mem _ (List.mem_append_left _ (List.mem_append_right _ h))) hown hK hP 0 rfl rfl 0 (by decide) (hts (.fieldLink RX0 12 "MovingHeap$Heap" "points" "LMovingHeap$Lines;") (List.mem_of_getElem? (i := 2) rfl)) (fun _ h9 => h9) rfl dX0_firstBroken_11 ?_
        refine lv_aload_n hx hb dX0_firstBroken_14 rfl (lv_at hl 0 rfl) ?_
        refine lv_iload_n hx hb dX0_firstBroken_15 rfl (lv_at hl 2 rfl) ?_
        have hPc := hP.sub (ws' := []) [] rfl
        refine x_calli (va_runS (As := [.int x]) (rest := [.ref r0, .ref q0]) ⟨hx, hb, hml, hown, hts⟩ (c_X0_parentOf l dC dI cI cJ cZ H.size x i hxi hi1) (va_cwS 1 hts gX0_firstBroken_X0_parentOf rfl rfl rfl (by decide +kernel) ⟨Nat.le_of_ble_eq_true rfl, Nat.le_of_ble_eq_true rfl⟩) ⟨x_Bb, (fun U hU hW => ⟨rfl, by rw [hU], by rw [hU]; exact hPc, va_K.moved hW.alike hK⟩)⟩ rfl rfl hl.1 rfl (lv_room (Nat.le_of_ble_eq_true rfl)) dX0_firstBroken_16 ⟨Nat.zero_le _, Nat.zero_le _⟩) hS hA hP (fun v16 _ H locs h16 hP hS => ?_)
        have hPc := hP.sub (ws' := [(r0, .inr (0, [.ref q0, .ref r1, .ref r2, .ref r3, .int F, .long E, .long X])), (r1, .inl (cI, 24, .inl PB)), (r2, .inl (cI, 24, .inl PL)), (r3, .inl (cI, 24, .inl FL))]) [0, 1, 2, 3] rfl
        refine x_calli (va_runV (As := [.int v16]) (rest := [.ref q0]) ⟨hx, hb, hml, hown, hts⟩ (c_X0_pointIn l dC dI cI cJ cZ r0 r1 r2 r3 q0 H.size PB PL FL F E X a n hH v16) (cwV 1 hts gX0_firstBroken_X0_pointIn rfl rfl rfl (by decide +kernel) ⟨Nat.le_of_ble_eq_true rfl, Nat.le_of_ble_eq_true rfl⟩) ⟨x_Bb, va_recv hK hP (ci := 0) (q0 := 0) rfl rfl, (fun U hU hW => ⟨rfl, by rw [hU], by rw [hU]; exact hPc, va_K.moved hW.alike hK⟩)⟩ rfl rfl hl.1 rfl (lv_room (Nat.le_of_ble_eq_true rfl)) dX0_firstBroken_19 ⟨Nat.zero_le _, Nat.zero_le _⟩) hS hA hP (fun v19 _ H locs h19 hP hS => ?_)
        replace h19 : v19.toInt = (a ((i - 1) / 2) : Int) := by rcases h19 with ⟨j, hj, hvj, hr9⟩ | q; (have e9 : j = ((i - 1) / 2) := (by omega); subst e9; exact hr9); omega
        refine lv_aload_n hx hb dX0_firstBroken_22 rfl (lv_at hl 0 rfl) ?_
        refine lv_iload_n hx hb dX0_firstBroken_23 rfl (lv_at hl 2 rfl) ?_
        have hPc := hP.sub (ws' := [(r0, .inr (0, [.ref q0, .ref r1, .ref r2, .ref r3, .int F, .long E, .long X])), (r1, .inl (cI, 24, .inl PB)), (r2, .inl (cI, 24, .inl PL)), (r3, .inl (cI, 24, .inl FL))]) [0, 1, 2, 3] rfl
        refine x_calli (va_runV (As := [.int x]) (rest := [.int v19, .ref q0]) ⟨hx, hb, hml, hown, hts⟩ (c_X0_pointIn l dC dI cI cJ cZ r0 r1 r2 r3 q0 H.size PB PL FL F E X a n hH x) (cwV 1 hts gX0_firstBroken_X0_pointIn rfl rfl rfl (by decide +kernel) ⟨Nat.le_of_ble_eq_true rfl, Nat.le_of_ble_eq_true rfl⟩) ⟨x_Bb, va_recv hK hP (ci := 0) (q0 := 0) rfl rfl, (fun U hU hW => ⟨rfl, by rw [hU], by rw [hU]; exact hPc, va_K.moved hW.alike hK⟩)⟩ rfl rfl hl.1 rfl (lv_room (Nat.le_of_ble_eq_true rfl)) dX0_firstBroken_24 ⟨Nat.zero_le _, Nat.zero_le _⟩) hS hA hP (fun v24 _ H locs h24 hP hS => ?_)
        replace h24 : v24.toInt = (a i : Int) := by rcases h24 with ⟨j, hj, hvj, hr9⟩ | q; (have e9 : j = i := (by omega); subst e9; exact hr9); omega
        have hHp := hHa ((i - 1) / 2) (by omega)
        have hHk := hHa i (by omega)
        refine lv_iload_n hx hb dX0_firstBroken_27 rfl (lv_at hl 1 rfl) ?_
        have hPc := hP.sub (ws' := [(q0, .inr (2, [.ref q1, .ref q2, .ref q3, .int N])), (q1, .inl (cZ, 24, .inl T)), (q2, .inl (cJ, 24, .inr (.inl G))), (q3, .inl (cI, 24, .inl V))]) [4, 5, 6, 7] rfl
        refine x_calli (va_runV (As := [.int v19, .int v24, .int tt]) (rest := []) ⟨hx, hb, hml, hown, hts⟩ (c_X2_isBefore l dC dI cI cJ cZ q0 q1 q2 q3 H.size T G V N th h v hL v19 v24 (a ((i - 1) / 2)) (a i) h19 h24 hHp.2.1 hHk.2.1 (hT _ (by omega)) (hT _ (by omega)) tt ht0 (by omega)) (cwV 3 hts gX0_firstBroken_X2_isBefore rfl rfl rfl (by decide +kernel) ⟨Nat.le_of_ble_eq_true rfl, Nat.le_of_ble_eq_true rfl⟩) ⟨x_Bb, va_recv hK hP (ci := 2) (q0 := 4) rfl rfl, (fun U hU hW => ⟨rfl, by rw [hU], by rw [hU]; exact hPc, va_K.moved hW.alike hK⟩)⟩ rfl rfl hl.1 rfl (lv_room (Nat.le_of_ble_eq_true rfl)) dX0_firstBroken_28 ⟨Nat.zero_le _, Nat.zero_le _⟩) hS hA hP (fun v28 _ H locs h28 hP hS => ?_)
        refine x_if_ne (tgt := 36) hx hb dX0_firstBroken_31 (by decide) (fun c31 => ?_) (fun c31 => ?_)
        · refine x_iinc (k := 2) hx hb (1) (by decide) dX0_firstBroken_36 hl rfl (by decide) (by omega) (by omega) (fun v36 ls e36 hl => ?_)
          have hl : lv_has ls 3 [(2, .int v36), (0, .ref r0), (1, .int tt)] := hl
          refine lv_goto (tgt := 2) hx hb dX0_firstBroken_39 (by decide) ?_
          exact ih2 (i + 1) v36 (by omega) (by omega) (by omega) (by unfold bkF; rw [if_neg (by omega), if_neg (by rcases h28 with q | q; (exact fun z => z.2 q.2); omega)]) (by omega) _ _ hP hS ls (lv_sub hl [1, 2, 0] rfl)
        · have hin9 : i < n := by omega
          have hnb : ¬ bef h v tt.toInt (a ((i - 1) / 2)) (a i) := by rcases h28 with q | q; omega; exact q.2
          refine lv_iload_n hx hb dX0_firstBroken_34 rfl (lv_at hl 2 rfl) ?_
          exact x_iret hx hb hr hlocks hS () dX0_firstBroken_35 (fun t ht => trivial) (by rw [bk_at hno hi1 hin9 hnb]; exact hxi)
  exact loop2 (_ + 1) 1 v0 (Nat.le_refl _) (Or.inr rfl) (by omega) rfl (Nat.lt_succ_self _) _ _ hP hS ls (lv_sub hl [1, 2, 0] rfl)
--== X0_firstBroken
set_option maxHeartbeats 4000000 in
set_option maxRecDepth 100000 in
theorem c_X0_exchange (l : Launch) (dC : Nat → ClassId) (dI : Nat → Nat → Nat) (cI cJ cZ : ClassId) (r0 r1 r2 r3 q0 : Nat) (sz : Nat) (PB PL FL : Nat → Int32) (F : Int32) (E X : Int64) (a : Nat → Nat) (n : Nat) (hH : HK PB PL F a n) (x : Int32) (k : Nat) (hxk : x.toInt = (k : Int)) (hk1 : 1 ≤ k) (hkn : k < n) : Met l yX0_exchange wsX0_exchange ({ frames := 1, cells := 0, slots := 0, locals := 22 }) (va_Pc [.ref r0, .int x] (x_M (dC, dI) vwCl (tysN cI cJ cZ) [(r0, .inr (0, [.ref q0, .ref r1, .ref r2, .ref r3, .int F, .long E, .long X])), (r1, .inl (cI, 24, .inl PB)), (r2, .inl (cI, 24, .inl PL)), (r3, .inl (cI, 24, .inl FL))] sz)) (va_Qv (fun (u : ((Nat → Int32) × (Nat → Int32) × Int64 × Int64)) => HK u.1 u.2.1 F (sw a ((k - 1) / 2) k) n ∧ u.2.2.1 = E + 1 ∧ u.2.2.2 = (if (k - 1) / 2 = 0 then X + 1 else X)) (fun (u : ((Nat → Int32) × (Nat → Int32) × Int64 × Int64)) t => va_P (dC, dI) vwCl [(r0, .inr (0, [.ref q0, .ref r1, .ref r2, .ref r3, .int F, .long u.2.2.1, .long u.2.2.2])), (r1, .inl (cI, 24, .inl u.1)), (r2, .inl (cI, 24, .inl u.2.1)), (r3, .inl (cI, 24, .inl FL))] t.heap) (va_A [(r0, .inr (0, [.ref q0, .ref r1, .ref r2, .ref r3, .int F, .long E, .long X])), (r1, .inl (cI, 24, .inl PB)), (r2, .inl (cI, 24, .inl PL)), (r3, .inl (cI, 24, .inl FL))] sz)) 0 0 (va_A [(r0, .inr (0, [.ref q0, .ref r1, .ref r2, .ref r3, .int F, .long E, .long X])), (r1, .inl (cI, 24, .inl PB)), (r2, .inl (cI, 24, .inl PL)), (r3, .inl (cI, 24, .inl FL))] sz) := by
  refine x_ofM (cc := cX0_exchange) (maxL := 4) (ret := none) (own := RX0) (by decide) rfl rfl (Nat.le_of_ble_eq_true rfl) (lvs := [(0, .ref r0), (1, .int x)]) rfl ?_
  intro pg e s mi args below meth co hx hb hr hml hown hts hlocks hin hsz hP hK hD ls hl
  subst hsz
  generalize hAe : (va_A [(r0, .inr (0, [.ref q0, .ref r1, .ref r2, .ref r3, .int F, .long E, .long X])), (r1, .inl (cI, 24, .inl PB)), (r2, .inl (cI, 24, .inl PL)), (r3, .inl (cI, 24, .inl FL))] s.heap.size) = A at hD ⊢
  have hA : ∀ q : Nat, s.heap.size ≤ q → A q := fun q h => by rw [← hAe]; exact Or.inr h
  have hS : va_S A s.heap s.heap [] := va_S.rf
  obtain ⟨hHF, hHn, hHa⟩ := id hH
  refine lv_iload_n hx hb dX0_exchange_0 rfl (lv_at hl 1 rfl) ?_
  have hPc := hP.sub (ws' := []) [] rfl
  refine x_calli (va_runS (As := [.int x]) (rest := []) ⟨hx, hb, hml, hown, hts⟩ (c_X0_parentOf l dC dI cI cJ cZ s.heap.size x k hxk hk1) (va_cwS 1 hts gX0_exchange_X0_parentOf rfl rfl rfl (by decide +kernel) ⟨Nat.le_of_ble_eq_true rfl, Nat.le_of_ble_eq_true rfl⟩) ⟨x_Bb, (fun U hU hW => ⟨rfl, by rw [hU], by rw [hU]; exact hPc, va_K.moved hW.alike hK⟩)⟩ rfl rfl hl.1 rfl (lv_room (Nat.le_of_ble_eq_true rfl)) dX0_exchange_1 ⟨Nat.zero_le _, Nat.zero_le _⟩) hS hA hP (fun v1 _ H locs h1 hP hS => ?_)
  refine lv_istore_n (lv' := [(2, .int v1), (0, .ref r0), (1, .int x)]) hx hb dX0_exchange_4 rfl hl (by decide) rfl (fun ls hl => ?_)
  refine lv_aload_n hx hb dX0_exchange_5 rfl (lv_at hl 1 rfl) ?_
  refine lv_iload_n hx hb dX0_exchange_6 rfl (lv_at hl 0 rfl) ?_
  have hPc := hP.sub (ws' := [(r0, .inr (0, [.ref q0, .ref r1, .ref r2, .ref r3, .int F, .long E, .long X])), (r1, .inl (cI, 24, .inl PB)), (r2, .inl (cI, 24, .inl PL)), (r3, .inl (cI, 24, .inl FL))]) [0, 1, 2, 3] rfl
  refine x_calli (va_runV (As := [.int v1]) (rest := []) ⟨hx, hb, hml, hown, hts⟩ (c_X0_pointIn l dC dI cI cJ cZ r0 r1 r2 r3 q0 H.size PB PL FL F E X a n hH v1) (cwV 1 hts gX0_exchange_X0_pointIn rfl rfl rfl (by decide +kernel) ⟨Nat.le_of_ble_eq_true rfl, Nat.le_of_ble_eq_true rfl⟩) ⟨x_Bb, va_recv hK hP (ci := 0) (q0 := 0) rfl rfl, (fun U hU hW => ⟨rfl, by rw [hU], by rw [hU]; exact hPc, va_K.moved hW.alike hK⟩)⟩ rfl rfl hl.1 rfl (lv_room (Nat.le_of_ble_eq_true rfl)) dX0_exchange_7 ⟨Nat.zero_le _, Nat.zero_le _⟩) hS hA hP (fun v7 _ H locs h7 hP hS => ?_)
  replace h7 : v7.toInt = (a ((k - 1) / 2) : Int) := by rcases h7 with ⟨j, hj, hvj, hr9⟩ | q; (have e9 : j = ((k - 1) / 2) := (by omega); subst e9; exact hr9); omega
  have hHp := hHa ((k - 1) / 2) (by omega)
  have hHk := hHa k hkn
  refine lv_istore_n (lv' := [(3, .int v7), (2, .int v1), (0, .ref r0), (1, .int x)]) hx hb dX0_exchange_10 rfl hl (by decide) rfl (fun ls hl => ?_)
  refine lv_aload_n hx hb dX0_exchange_11 rfl (lv_at hl 2 rfl) ?_
  refine lv_iload_n hx hb dX0_exchange_12 rfl (lv_at hl 1 rfl) ?_
  refine lv_aload_n hx hb dX0_exchange_13 rfl (lv_at hl 2 rfl) ?_
  refine lv_iload_n hx hb dX0_exchange_14 rfl (lv_at hl 3 rfl) ?_
  have hPc := hP.sub (ws' := [(r0, .inr (0, [.ref q0, .ref r1, .ref r2, .ref r3, .int F, .long E, .long X])), (r1, .inl (cI, 24, .inl PB)), (r2, .inl (cI, 24, .inl PL)), (r3, .inl (cI, 24, .inl FL))]) [0, 1, 2, 3] rfl
  refine x_calli (va_runV (As := [.int x]) (rest := [.int v1, .ref r0]) ⟨hx, hb, hml, hown, hts⟩ (c_X0_pointIn l dC dI cI cJ cZ r0 r1 r2 r3 q0 H.size PB PL FL F E X a n hH x) (cwV 1 hts gX0_exchange_X0_pointIn rfl rfl rfl (by decide +kernel) ⟨Nat.le_of_ble_eq_true rfl, Nat.le_of_ble_eq_true rfl⟩) ⟨x_Bb, va_recv hK hP (ci := 0) (q0 := 0) rfl rfl, (fun U hU hW => ⟨rfl, by rw [hU], by rw [hU]; exact hPc, va_K.moved hW.alike hK⟩)⟩ rfl rfl hl.1 rfl (lv_room (Nat.le_of_ble_eq_true rfl)) dX0_exchange_15 ⟨Nat.zero_le _, Nat.zero_le _⟩) hS hA hP (fun v15 _ H locs h15 hP hS => ?_)
  replace h15 : v15.toInt = (a k : Int) := by rcases h15 with ⟨j, hj, hvj, hr9⟩ | q; (have e9 : j = k := (by omega); subst e9; exact hr9); omega
  have hPc := hP.sub (ws' := [(r0, .inr (0, [.ref q0, .ref r1, .ref r2, .ref r3, .int F, .long E, .long X])), (r1, .inl (cI, 24, .inl PB)), (r2, .inl (cI, 24, .inl PL)), (r3, .inl (cI, 24, .inl FL))]) [0, 1, 2, 3] rfl
  have hDc := hD.sub (ws' := [(r0, .inr (0, [.ref q0, .ref r1, .ref r2, .ref r3, .int F, .long E, .long X])), (r1, .inl (cI, 24, .inl PB)), (r2, .inl (cI, 24, .inl PL)), (r3, .inl (cI, 24, .inl FL))]) [0, 1, 2, 3] (by decide) rfl
  have hFc := va_free (wc := [(r0, .inr (0, [.ref q0, .ref r1, .ref r2, .ref r3, .int F, .long E, .long X])), (r1, .inl (cI, 24, .inl PB)), (r2, .inl (cI, 24, .inl PL)), (r3, .inl (cI, 24, .inl FL))]) hD hS hA [0, 1, 2, 3] rfl
  refine x_callvM (va_runV (As := [.int v1, .int v15]) (rest := []) ⟨hx, hb, hml, hown, hts⟩ (c_X0_put l dC dI cI cJ cZ r0 r1 r2 r3 q0 H.size PB PL FL F E X v1 v15 ((k - 1) / 2) (a k) h1 h15 (by omega) hHk.2.1) (cwV 2 hts gX0_exchange_X0_put rfl rfl rfl (by decide +kernel) ⟨Nat.le_of_ble_eq_true rfl, Nat.le_of_ble_eq_true rfl⟩) ⟨x_Mb, va_recv hK hP (ci := 0) (q0 := 0) rfl rfl, (fun U hU hW => ⟨rfl, by rw [hU], by rw [hU]; exact hPc, va_K.moved hW.alike hK, hDc.weaken (fun _ _ _ _ => trivial)⟩)⟩ rfl rfl hl.1 rfl (lv_room (Nat.le_of_ble_eq_true rfl)) dX0_exchange_18 ⟨Nat.zero_le _, Nat.zero_le _⟩) hS hFc (fun u18 H1 locs h18 hP1 hkk hS => ?_)
  obtain ⟨hP, hD⟩ := x_join (ws' := [(r0, .inr (0, [.ref q0, .ref r1, .ref r2, .ref r3, .int F, .long E, .long X])), (r1, .inl (cI, 24, .inl u18.1)), (r2, .inl (cI, 24, .inl u18.2)), (r3, .inl (cI, 24, .inl FL))]) hP hD [0, 1, 2, 3] [] rfl rfl rfl 4 rfl (by decide) (by decide) rfl hkk hP1
  generalize H1 = H at hP hS ⊢
  obtain ⟨h18a, h18b⟩ := h18
  refine lv_aload_n hx hb dX0_exchange_21 rfl (lv_at hl 2 rfl) ?_
  refine lv_iload_n hx hb dX0_exchange_22 rfl (lv_at hl 3 rfl) ?_
  refine lv_iload_n hx hb dX0_exchange_23 rfl (lv_at hl 0 rfl) ?_
  have hPc := hP.sub (ws' := [(r0, .inr (0, [.ref q0, .ref r1, .ref r2, .ref r3, .int F, .long E, .long X])), (r1, .inl (cI, 24, .inl u18.1)), (r2, .inl (cI, 24, .inl u18.2)), (r3, .inl (cI, 24, .inl FL))]) [0, 1, 2, 3] rfl
  have hDc := hD.sub (ws' := [(r0, .inr (0, [.ref q0, .ref r1, .ref r2, .ref r3, .int F, .long E, .long X])), (r1, .inl (cI, 24, .inl u18.1)), (r2, .inl (cI, 24, .inl u18.2)), (r3, .inl (cI, 24, .inl FL))]) [0, 1, 2, 3] (by decide) rfl
  have hFc := va_free (wc := [(r0, .inr (0, [.ref q0, .ref r1, .ref r2, .ref r3, .int F, .long E, .long X])), (r1, .inl (cI, 24, .inl u18.1)), (r2, .inl (cI, 24, .inl u18.2)), (r3, .inl (cI, 24, .inl FL))]) hD hS hA [0, 1, 2, 3] rfl
  refine x_callvM (va_runV (As := [.int x, .int v7]) (rest := []) ⟨hx, hb, hml, hown, hts⟩ (c_X0_put l dC dI cI cJ cZ r0 r1 r2 r3 q0 H.size u18.1 u18.2 FL F E X x v7 k (a ((k - 1) / 2)) hxk h7 (by omega) hHp.2.1) (cwV 2 hts gX0_exchange_X0_put rfl rfl rfl (by decide +kernel) ⟨Nat.le_of_ble_eq_true rfl, Nat.le_of_ble_eq_true rfl⟩) ⟨x_Mb, va_recv hK hP (ci := 0) (q0 := 0) rfl rfl, (fun U hU hW => ⟨rfl, by rw [hU], by rw [hU]; exact hPc, va_K.moved hW.alike hK, hDc.weaken (fun _ _ _ _ => trivial)⟩)⟩ rfl rfl hl.1 rfl (lv_room (Nat.le_of_ble_eq_true rfl)) dX0_exchange_24 ⟨Nat.zero_le _, Nat.zero_le _⟩) hS hFc (fun u24 H1 locs h24 hP1 hkk hS => ?_)
  obtain ⟨hP, hD⟩ := x_join (ws' := [(r0, .inr (0, [.ref q0, .ref r1, .ref r2, .ref r3, .int F, .long E, .long X])), (r1, .inl (cI, 24, .inl u24.1)), (r2, .inl (cI, 24, .inl u24.2)), (r3, .inl (cI, 24, .inl FL))]) hP hD [0, 1, 2, 3] [] rfl rfl rfl 4 rfl (by decide) (by decide) rfl hkk hP1
  generalize H1 = H at hP hS ⊢
  obtain ⟨h24a, h24b⟩ := h24
  rw [h18a] at h24a
  rw [h18b] at h24b
  refine lv_aload_n hx hb dX0_exchange_27 rfl (lv_at hl 2 rfl) ?_
  refine lv_dup hx hb dX0_exchange_28 rfl ?_
  refine va_get (D := (dC, dI)) (ci := 0) (v := .long E) (C := RX0) (T := TX0) (N := 7) hx hb hts (fun _ h => List.mem_cons_of_mem _ (List.mem_append_right _ h)) hown hK hP 0 rfl rfl 5 (by decide) (hts (.fieldLink RX0 32 "MovingHeap$Heap" "exchanges" "J") (List.mem_of_getElem? (i := 1) rfl)) (fun _ h9 => h9) rfl dX0_exchange_29 ?_
  refine x_lconst hx hb dX0_exchange_32 (1) (by decide) (fun v32 e32 => ?_)
  refine lv_ladd hx hb dX0_exchange_33 ?_
  refine lv_topl (fun v33 e33 => ?_)
  refine va_put (D := (dC, dI)) (ci := 0) (v := .long v33) (ty := .long) (C := RX0) (T := TX0) (N := 7) hx hb hts (fun _ h => List.mem_cons_of_mem _ (List.mem_append_right _ h)) tyX0 tyX0_ok nmX0 hown hK hP hD hS 0 rfl rfl 5 (by decide) (hts (.fieldLink RX0 32 "MovingHeap$Heap" "exchanges" "J") (List.mem_of_getElem? (i := 1) rfl)) (fun _ h9 => h9) rfl (by decide +kernel) rfl rfl (Nat.le_of_ble_eq_true rfl) dX0_exchange_34 (fun H locs hP hD hS => ?_)
  have hP : va_P (dC, dI) vwCl [(r0, .inr (0, [.ref q0, .ref r1, .ref r2, .ref r3, .int F, .long v33, .long X])), (r1, .inl (cI, 24, .inl u24.1)), (r2, .inl (cI, 24, .inl u24.2)), (r3, .inl (cI, 24, .inl FL))] H := hP
  have hD : va_D A [(r0, .inr (0, [.ref q0, .ref r1, .ref r2, .ref r3, .int F, .long v33, .long X])), (r1, .inl (cI, 24, .inl u24.1)), (r2, .inl (cI, 24, .inl u24.2)), (r3, .inl (cI, 24, .inl FL))] := hD
  refine lv_iload_n hx hb dX0_exchange_37 rfl (lv_at hl 1 rfl) ?_
  refine x_if_ne (tgt := 51) hx hb dX0_exchange_38 (by decide) (fun c38 => ?_) (fun c38 => ?_)
  · exact x_vret hx hb hr hlocks hS (u24.1, u24.2, v33, X) dX0_exchange_51 (fun t ht => by rw [ht]; exact hP) ⟨by rw [h24a, h24b]; exact hk_sw hH h1 hxk h7 h15 hkn hk1, by show v33 = _; rw [e33, b_leq (x := v32) (y := 1) e32], by dsimp only; first | (rw [if_pos (by omega), e47, b_leq (x := v46) (y := 1) e46]) | (rw [if_neg (by omega)])⟩
  · refine lv_aload_n hx hb dX0_exchange_41 rfl (lv_at hl 2 rfl) ?_
    refine lv_dup hx hb dX0_exchange_42 rfl ?_
    refine va_get (D := (dC, dI)) (ci := 0) (v := .long X) (C := RX0) (T := TX0) (N := 7) hx hb hts (fun _ h => List.mem_cons_of_mem _ (List.mem_append_right _ h)) hown hK hP 0 rfl rfl 6 (by decide) (hts (.fieldLink RX0 36 "MovingHeap$Heap" "topExchanges" "J") (List.mem_of_getElem? (i := 2) rfl)) (fun _ h9 => h9) rfl dX0_exchange_43 ?_
    refine x_lconst hx hb dX0_exchange_46 (1) (by decide) (fun v46 e46 => ?_)
    refine lv_ladd hx hb dX0_exchange_47 ?_
    refine lv_topl (fun v47 e47 => ?_)
    refine va_put (D := (dC, dI)) (ci := 0) (v := .long v47) (ty := .long) (C := RX0) (T := TX0) (N := 7) hx hb hts (fun _ h => List.mem_cons_of_mem _ (List.mem_append_right _ h)) tyX0 tyX0_ok nmX0 hown hK hP hD hS 0 rfl rfl 6 (by decide) (hts (.fieldLink RX0 36 "MovingHeap$Heap" "topExchanges" "J") (List.mem_of_getElem? (i := 2) rfl)) (fun _ h9 => h9) rfl (by decide +kernel) rfl rfl (Nat.le_of_ble_eq_true rfl) dX0_exchange_48 (fun H locs hP hD hS => ?_)
    have hP : va_P (dC, dI) vwCl [(r0, .inr (0, [.ref q0, .ref r1, .ref r2, .ref r3, .int F, .long v33, .long v47])), (r1, .inl (cI, 24, .inl u24.1)), (r2, .inl (cI, 24, .inl u24.2)), (r3, .inl (cI, 24, .inl FL))] H := hP
    have hD : va_D A [(r0, .inr (0, [.ref q0, .ref r1, .ref r2, .ref r3, .int F, .long v33, .long v47])), (r1, .inl (cI, 24, .inl u24.1)), (r2, .inl (cI, 24, .inl u24.2)), (r3, .inl (cI, 24, .inl FL))] := hD
    exact x_vret hx hb hr hlocks hS (u24.1, u24.2, v33, v47) dX0_exchange_51 (fun t ht => by rw [ht]; exact hP) ⟨by rw [h24a, h24b]; exact hk_sw hH h1 hxk h7 h15 hkn hk1, by show v33 = _; rw [e33, b_leq (x := v32) (y := 1) e32], by dsimp only; first | (rw [if_pos (by omega), e47, b_leq (x := v46) (y := 1) e46]) | (rw [if_neg (by omega)])⟩
--== X0_exchange
set_option maxHeartbeats 4000000 in
set_option maxRecDepth 100000 in
theorem c_X0_settle (l : Launch) (dC : Nat → ClassId) (dI : Nat → Nat → Nat) (cI cJ cZ : ClassId) (r0 r1 r2 r3 q0 q1 q2 q3 : Nat) (sz : Nat) (PB PL FL : Nat → Int32) (F : Int32) (E X : Int64) (a : Nat → Nat) (n : Nat) (hH : HK PB PL F a n) (T : Nat → Int32) (G : Nat → Int64) (V : Nat → Int32) (N : Int32) (th : Nat → Bool) (h v : Nat → Int) (hL : LOK T G V th h v) (hT : ∀ k : Nat, k < n → th (a k) = true) (tt : Int32) (ht0 : 0 ≤ tt.toInt) (ht1 : tt.toInt ≤ 1000000) : Met l yX0_settle wsX0_settle ({ frames := 4, cells := 0, slots := 0, locals := 92 }) (va_Pc [.ref r0, .int tt] (x_M (dC, dI) vwCl (tysN cI cJ cZ) [(r0, .inr (0, [.ref q0, .ref r1, .ref r2, .ref r3, .int F, .long E, .long X])), (r1, .inl (cI, 24, .inl PB)), (r2, .inl (cI, 24, .inl PL)), (r3, .inl (cI, 24, .inl FL)), (q0, .inr (2, [.ref q1, .ref q2, .ref q3, .int N])), (q1, .inl (cZ, 24, .inl T)), (q2, .inl (cJ, 24, .inr (.inl G))), (q3, .inl (cI, 24, .inl V))] sz)) (va_Qv (fun (u : ((Nat → Int32) × (Nat → Int32) × Int64 × Int64)) => HK u.1 u.2.1 F (stl h v tt.toInt n 276 (a, E, X)).1 n ∧ u.2.2.1 = (stl h v tt.toInt n 276 (a, E, X)).2.1 ∧ u.2.2.2 = (stl h v tt.toInt n 276 (a, E, X)).2.2) (fun (u : ((Nat → Int32) × (Nat → Int32) × Int64 × Int64)) t => va_P (dC, dI) vwCl [(r0, .inr (0, [.ref q0, .ref r1, .ref r2, .ref r3, .int F, .long u.2.2.1, .long u.2.2.2])), (r1, .inl (cI, 24, .inl u.1)), (r2, .inl (cI, 24, .inl u.2.1)), (r3, .inl (cI, 24, .inl FL)), (q0, .inr (2, [.ref q1, .ref q2, .ref q3, .int N])), (q1, .inl (cZ, 24, .inl T)), (q2, .inl (cJ, 24, .inr (.inl G))), (q3, .inl (cI, 24, .inl V))] t.heap) (va_A [(r0, .inr (0, [.ref q0, .ref r1, .ref r2, .ref r3, .int F, .long E, .long X])), (r1, .inl (cI, 24, .inl PB)), (r2, .inl (cI, 24, .inl PL)), (r3, .inl (cI, 24, .inl FL)), (q0, .inr (2, [.ref q1, .ref q2, .ref q3, .int N])), (q1, .inl (cZ, 24, .inl T)), (q2, .inl (cJ, 24, .inr (.inl G))), (q3, .inl (cI, 24, .inl V))] sz)) 0 0 (va_A [(r0, .inr (0, [.ref q0, .ref r1, .ref r2, .ref r3, .int F, .long E, .long X])), (r1, .inl (cI, 24, .inl PB)), (r2, .inl (cI, 24, .inl PL)), (r3, .inl (cI, 24, .inl FL)), (q0, .inr (2, [.ref q1, .ref q2, .ref q3, .int N])), (q1, .inl (cZ, 24, .inl T)), (q2, .inl (cJ, 24, .inr (.inl G))), (q3, .inl (cI, 24, .inl V))] sz) := by
  refine x_ofM (cc := cX0_settle) (maxL := 4) (ret := none) (own := RX0) (by decide) rfl rfl (Nat.le_of_ble_eq_true rfl) (lvs := [(0, .ref r0), (1, .int tt)]) rfl ?_
  intro pg e s mi args below meth co hx hb hr hml hown hts hlocks hin hsz hP hK hD ls hl
  subst hsz
  generalize hAe : (va_A [(r0, .inr (0, [.ref q0, .ref r1, .ref r2, .ref r3, .int F, .long E, .long X])), (r1, .inl (cI, 24, .inl PB)), (r2, .inl (cI, 24, .inl PL)), (r3, .inl (cI, 24, .inl FL)), (q0, .inr (2, [.ref q1, .ref q2, .ref q3, .int N])), (q1, .inl (cZ, 24, .inl T)), (q2, .inl (cJ, 24, .inr (.inl G))), (q3, .inl (cI, 24, .inl V))] s.heap.size) = A at hD ⊢
  have hA : ∀ q : Nat, s.heap.size ≤ q → A q := fun q h => by rw [← hAe]; exact Or.inr h
  have hS : va_S A s.heap s.heap [] := va_S.rf
  obtain ⟨hHF, hHn, hHa⟩ := id hH
  refine x_iconst hx hb dX0_settle_0 (0) (by decide) (fun v0 e0 => ?_)
  refine lv_istore_n (lv' := [(2, .int v0), (0, .ref r0), (1, .int tt)]) hx hb dX0_settle_1 rfl hl (by decide) rfl (fun ls hl => ?_)
  have loop2 : ∀ (fu : Nat) (i : Nat) (x : Int32) (PBi : Nat → Int32) (PLi : Nat → Int32) (Ei : Int64) (Xi : Int64) (b : Nat → Nat), (i ≤ 276) → (x.toInt = (i : Int)) → (HK PBi PLi F b n) → (∀ k : Nat, k < n → th (b k) = true) → ((stl h v tt.toInt n (276 - i) (b, Ei, Xi)) = (stl h v tt.toInt n 276 (a, E, X))) → (277 - i < fu) → ∀ (H : Heap) (locs : List Loc), va_P (dC, dI) vwCl [(r0, .inr (0, [.ref q0, .ref r1, .ref r2, .ref r3, .int F, .long Ei, .long Xi])), (r1, .inl (cI, 24, .inl PBi)), (r2, .inl (cI, 24, .inl PLi)), (r3, .inl (cI, 24, .inl FL)), (q0, .inr (2, [.ref q1, .ref q2, .ref q3, .int N])), (q1, .inl (cZ, 24, .inl T)), (q2, .inl (cJ, 24, .inr (.inl G))), (q3, .inl (cI, 24, .inl V))] H → va_D A [(r0, .inr (0, [.ref q0, .ref r1, .ref r2, .ref r3, .int F, .long Ei, .long Xi])), (r1, .inl (cI, 24, .inl PBi)), (r2, .inl (cI, 24, .inl PLi)), (r3, .inl (cI, 24, .inl FL)), (q0, .inr (2, [.ref q1, .ref q2, .ref q3, .int N])), (q1, .inl (cZ, 24, .inl T)), (q2, .inl (cJ, 24, .inr (.inl G))), (q3, .inl (cI, 24, .inl V))] → va_S A s.heap H locs → ∀ (ls : Array Slot), lv_has ls 4 [(0, .ref r0), (1, .int tt), (2, .int x)] → W pg l e (headSpec wsX0_settle ({ frames := 4, cells := 0, slots := 0, locals := 92 })).room s mi args below meth co H locs 0 0 (MQ below (va_Qv (fun (u : ((Nat → Int32) × (Nat → Int32) × Int64 × Int64)) => HK u.1 u.2.1 F (stl h v tt.toInt n 276 (a, E, X)).1 n ∧ u.2.2.1 = (stl h v tt.toInt n 276 (a, E, X)).2.1 ∧ u.2.2.2 = (stl h v tt.toInt n 276 (a, E, X)).2.2) (fun (u : ((Nat → Int32) × (Nat → Int32) × Int64 × Int64)) t => va_P (dC, dI) vwCl [(r0, .inr (0, [.ref q0, .ref r1, .ref r2, .ref r3, .int F, .long u.2.2.1, .long u.2.2.2])), (r1, .inl (cI, 24, .inl u.1)), (r2, .inl (cI, 24, .inl u.2.1)), (r3, .inl (cI, 24, .inl FL)), (q0, .inr (2, [.ref q1, .ref q2, .ref q3, .int N])), (q1, .inl (cZ, 24, .inl T)), (q2, .inl (cJ, 24, .inr (.inl G))), (q3, .inl (cI, 24, .inl V))] t.heap) A) args s 0 0 A) (F0 mi 2 ls []) := by
    intro fu
    induction fu with
    | zero => intro i x PBi PLi Ei Xi b hi hxi hHb hTb hst hn; exact absurd hn (Nat.not_lt_zero _)
    | succ fu ih2 =>
      intro i x PBi PLi Ei Xi b hi hxi hHb hTb hst hn H locs hP hD hS ls hl
      refine lv_iload_n hx hb dX0_settle_2 rfl (lv_at hl 2 rfl) ?_
      refine x_sipush hx hb dX0_settle_3 (276) (by decide) (fun v3 e3 => ?_)
      refine x_icmp_ge (tgt := 31) hx hb dX0_settle_6 (by decide) (fun c6 => ?_) (fun c6 => ?_)
      · exact x_vret hx hb hr hlocks hS (PBi, PLi, Ei, Xi) dX0_settle_31 (fun t ht => by rw [ht]; exact hP) (by have e9 : i = 276 := (by omega); subst e9; rw [← hst]; exact ⟨hHb, rfl, rfl⟩)
      · refine lv_aload_n hx hb dX0_settle_9 rfl (lv_at hl 0 rfl) ?_
        refine lv_iload_n hx hb dX0_settle_10 rfl (lv_at hl 1 rfl) ?_
        have hPc := hP.sub (ws' := [(r0, .inr (0, [.ref q0, .ref r1, .ref r2, .ref r3, .int F, .long Ei, .long Xi])), (r1, .inl (cI, 24, .inl PBi)), (r2, .inl (cI, 24, .inl PLi)), (r3, .inl (cI, 24, .inl FL)), (q0, .inr (2, [.ref q1, .ref q2, .ref q3, .int N])), (q1, .inl (cZ, 24, .inl T)), (q2, .inl (cJ, 24, .inr (.inl G))), (q3, .inl (cI, 24, .inl V))]) [0, 1, 2, 3, 4, 5, 6, 7] rfl
        refine x_calli (va_runV (As := [.int tt]) (rest := []) ⟨hx, hb, hml, hown, hts⟩ (c_X0_firstBroken l dC dI cI cJ cZ r0 r1 r2 r3 q0 q1 q2 q3 H.size PBi PLi FL F Ei Xi b n hHb T G V N th h v hL hTb tt ht0 ht1) (cwV 1 hts gX0_settle_X0_firstBroken rfl rfl rfl (by decide +kernel) ⟨Nat.le_of_ble_eq_true rfl, Nat.le_of_ble_eq_true rfl⟩) ⟨x_Bb, va_recv hK hP (ci := 0) (q0 := 0) rfl rfl, (fun U hU hW => ⟨rfl, by rw [hU], by rw [hU]; exact hPc, va_K.moved hW.alike hK⟩)⟩ rfl rfl hl.1 rfl (lv_room (Nat.le_of_ble_eq_true rfl)) dX0_settle_11 ⟨Nat.zero_le _, Nat.zero_le _⟩) hS hA hP (fun v11 _ H locs h11 hP hS => ?_)
        have hbk := bk_lt h v tt.toInt b n
        obtain ⟨kk, hkk⟩ : ∃ kk, kk = bkF h v tt.toInt b n := ⟨_, rfl⟩
        have h11n : bkF h v tt.toInt b n = kk := hkk.symm
        rw [h11n] at h11 hbk
        refine lv_istore_n (lv' := [(3, .int v11), (0, .ref r0), (1, .int tt), (2, .int x)]) hx hb dX0_settle_14 rfl hl (by decide) rfl (fun ls hl => ?_)
        refine lv_iload_n hx hb dX0_settle_15 rfl (lv_at hl 0 rfl) ?_
        refine x_if_ne (tgt := 20) hx hb dX0_settle_16 (by decide) (fun c16 => ?_) (fun c16 => ?_)
        · refine lv_aload_n hx hb dX0_settle_20 rfl (lv_at hl 1 rfl) ?_
          refine lv_iload_n hx hb dX0_settle_21 rfl (lv_at hl 0 rfl) ?_
          have hPc := hP.sub (ws' := [(r0, .inr (0, [.ref q0, .ref r1, .ref r2, .ref r3, .int F, .long Ei, .long Xi])), (r1, .inl (cI, 24, .inl PBi)), (r2, .inl (cI, 24, .inl PLi)), (r3, .inl (cI, 24, .inl FL))]) [0, 1, 2, 3] rfl
          have hDc := hD.sub (ws' := [(r0, .inr (0, [.ref q0, .ref r1, .ref r2, .ref r3, .int F, .long Ei, .long Xi])), (r1, .inl (cI, 24, .inl PBi)), (r2, .inl (cI, 24, .inl PLi)), (r3, .inl (cI, 24, .inl FL))]) [0, 1, 2, 3] (by decide) rfl
          have hFc := va_free (wc := [(r0, .inr (0, [.ref q0, .ref r1, .ref r2, .ref r3, .int F, .long Ei, .long Xi])), (r1, .inl (cI, 24, .inl PBi)), (r2, .inl (cI, 24, .inl PLi)), (r3, .inl (cI, 24, .inl FL))]) hD hS hA [0, 1, 2, 3] rfl
          refine x_callvM (va_runV (As := [.int v11]) (rest := []) ⟨hx, hb, hml, hown, hts⟩ (c_X0_exchange l dC dI cI cJ cZ r0 r1 r2 r3 q0 H.size PBi PLi FL F Ei Xi b n hHb v11 kk h11 (by omega) (by omega)) (cwV 1 hts gX0_settle_X0_exchange rfl rfl rfl (by decide +kernel) ⟨Nat.le_of_ble_eq_true rfl, Nat.le_of_ble_eq_true rfl⟩) ⟨x_Mb, va_recv hK hP (ci := 0) (q0 := 0) rfl rfl, (fun U hU hW => ⟨rfl, by rw [hU], by rw [hU]; exact hPc, va_K.moved hW.alike hK, hDc.weaken (fun _ _ _ _ => trivial)⟩)⟩ rfl rfl hl.1 rfl (lv_room (Nat.le_of_ble_eq_true rfl)) dX0_settle_22 ⟨Nat.zero_le _, Nat.zero_le _⟩) hS hFc (fun u22 H1 locs h22 hP1 hkk hS => ?_)
          obtain ⟨hP, hD⟩ := x_join (ws' := [(r0, .inr (0, [.ref q0, .ref r1, .ref r2, .ref r3, .int F, .long u22.2.2.1, .long u22.2.2.2])), (r1, .inl (cI, 24, .inl u22.1)), (r2, .inl (cI, 24, .inl u22.2.1)), (r3, .inl (cI, 24, .inl FL)), (q0, .inr (2, [.ref q1, .ref q2, .ref q3, .int N])), (q1, .inl (cZ, 24, .inl T)), (q2, .inl (cJ, 24, .inr (.inl G))), (q3, .inl (cI, 24, .inl V))]) hP hD [0, 1, 2, 3] [4, 5, 6, 7] rfl rfl rfl 8 rfl (by decide) (by decide) rfl hkk hP1
          generalize H1 = H at hP hS ⊢
          refine x_iinc (k := 3) hx hb (1) (by decide) dX0_settle_25 hl rfl (by decide) (by omega) (by omega) (fun v25 ls e25 hl => ?_)
          have hl : lv_has ls 4 [(2, .int v25), (3, .int v11), (0, .ref r0), (1, .int tt)] := hl
          refine lv_goto (tgt := 2) hx hb dX0_settle_28 (by decide) ?_
          exact ih2 (i + 1) v25 _ _ _ _ _ (by omega) (by omega) h22.1 (ht_sw hTb (by omega) (by omega)) (by have hs9 := stl_step (h := h) (v := v) (t := tt.toInt) (n := n) (i := i) (b := b) (E := Ei) (X := Xi) (by omega) (by omega); rw [h11n] at hs9; rw [h22.2.1, h22.2.2]; exact hs9.symm.trans hst) (by omega) _ _ hP hD hS ls (lv_sub hl [2, 3, 0] rfl)
        · exact x_vret hx hb hr hlocks hS (PBi, PLi, Ei, Xi) dX0_settle_19 (fun t ht => by rw [ht]; exact hP) (by have e9 : (stl h v tt.toInt n 276 (a, E, X)) = (b, Ei, Xi) := (by rw [← hst]; exact stl_stop (by omega)); rw [e9]; exact ⟨hHb, rfl, rfl⟩)
  exact loop2 (_ + 1) 0 v0 PB PL E X a (Nat.zero_le _) (by omega) hH hT rfl (Nat.lt_succ_self _) _ _ hP hD hS ls (lv_sub hl [1, 2, 0] rfl)
--== X0_settle
