/-! CONTRACTS of Heap (X0): the calendar -/
set_option maxHeartbeats 4000000 in
set_option maxRecDepth 100000 in
theorem c_X0_calendarLength (l : Launch) (dC : Nat → ClassId) (dI : Nat → Nat → Nat) (cI cJ cZ : ClassId) (r0 r1 r2 r3 q0 q1 q2 q3 : Nat) (sz : Nat) (PB PL FL : Nat → Int32) (F : Int32) (E X : Int64) (a : Nat → Nat) (n : Nat) (hH : HK PB PL F a n) (T : Nat → Int32) (G : Nat → Int64) (V : Nat → Int32) (N : Int32) (th : Nat → Bool) (h v : Nat → Int) (hL : LOK T G V th h v) (hT : ∀ k : Nat, k < n → th (a k) = true) (tt : Int32) (ht0 : 0 ≤ tt.toInt) (ht1 : tt.toInt ≤ 1000000) : Met l yX0_calendarLength wsX0_calendarLength ({ frames := 5, cells := 0, slots := 0, locals := 121 }) (va_Pc [.ref r0, .int tt] (x_B (dC, dI) vwCl (tysN cI cJ cZ) [(r0, .inr (0, [.ref q0, .ref r1, .ref r2, .ref r3, .int F, .long E, .long X])), (r1, .inl (cI, 24, .inl PB)), (r2, .inl (cI, 24, .inl PL)), (r3, .inl (cI, 24, .inl FL)), (q0, .inr (2, [.ref q1, .ref q2, .ref q3, .int N])), (q1, .inl (cZ, 24, .inl T)), (q2, .inl (cJ, 24, .inr (.inl G))), (q3, .inl (cI, 24, .inl V))] sz)) (va_Qi (fun (r : Int32) (_ : Unit) => r.toInt = (clF h v tt.toInt a n : Int)) (fun _ _ => True) (va_A [] sz)) 0 0 (va_A [] sz) := by
  refine x_ofR (cc := cX0_calendarLength) (maxL := 4) (ret := (some .int)) (own := RX0) (by decide) rfl rfl (Nat.le_of_ble_eq_true rfl) (lvs := [(0, .ref r0), (1, .int tt)]) rfl ?_
  intro pg e s mi args below meth co hx hb hr hml hown hts hlocks hsz hP hK ls hl
  subst hsz
  generalize hAe : (va_A [] s.heap.size) = A
  have hA : ∀ q : Nat, s.heap.size ≤ q → A q := fun q h => by rw [← hAe]; exact Or.inr h
  have hS : va_S A s.heap s.heap [] := va_S.rf
  obtain ⟨hHF, hHn, hHa⟩ := id hH
  refine x_iconst hx hb dX0_calendarLength_0 (0) (by decide) (fun v0 e0 => ?_)
  refine lv_istore_n (lv' := [(2, .int v0), (0, .ref r0), (1, .int tt)]) hx hb dX0_calendarLength_1 rfl hl (by decide) rfl (fun ls hl => ?_)
  refine x_iconst hx hb dX0_calendarLength_2 (1) (by decide) (fun v2 e2 => ?_)
  refine lv_istore_n (lv' := [(3, .int v2), (2, .int v0), (0, .ref r0), (1, .int tt)]) hx hb dX0_calendarLength_3 rfl hl (by decide) rfl (fun ls hl => ?_)
  have loop4 : ∀ (fu : Nat) (i : Nat) (x : Int32) (y : Int32), (1 ≤ i) → (i ≤ n ∨ i = 1) → (x.toInt = (i : Int)) → (y.toInt = (clF h v tt.toInt a i : Int)) → (25 - i < fu) → ∀ (H : Heap) (locs : List Loc), va_P (dC, dI) vwCl [(r0, .inr (0, [.ref q0, .ref r1, .ref r2, .ref r3, .int F, .long E, .long X])), (r1, .inl (cI, 24, .inl PB)), (r2, .inl (cI, 24, .inl PL)), (r3, .inl (cI, 24, .inl FL)), (q0, .inr (2, [.ref q1, .ref q2, .ref q3, .int N])), (q1, .inl (cZ, 24, .inl T)), (q2, .inl (cJ, 24, .inr (.inl G))), (q3, .inl (cI, 24, .inl V))] H → va_S A s.heap H locs → ∀ (ls : Array Slot), lv_has ls 4 [(0, .ref r0), (1, .int tt), (2, .int y), (3, .int x)] → W pg l e (headSpec wsX0_calendarLength ({ frames := 5, cells := 0, slots := 0, locals := 121 })).room s mi args below meth co H locs 0 0 (MQ below (va_Qi (fun (r : Int32) (_ : Unit) => r.toInt = (clF h v tt.toInt a n : Int)) (fun _ _ => True) A) args s 0 0 A) (F0 mi 4 ls []) := by
    intro fu
    induction fu with
    | zero => intro i x y hi1 hi hxi hy hn; exact absurd hn (Nat.not_lt_zero _)
    | succ fu ih4 =>
      intro i x y hi1 hi hxi hy hn H locs hP hS ls hl
      have hcl := cl_le h v tt.toInt a i
      refine lv_iload_n hx hb dX0_calendarLength_4 rfl (lv_at hl 3 rfl) ?_
      refine lv_aload_n hx hb dX0_calendarLength_5 rfl (lv_at hl 0 rfl) ?_
      refine va_get (D := (dC, dI)) (ci := 0) (v := .int F) (C := RX0) (T := TX0) (N := 7) hx hb hts (fun _ h => List.mem_cons_of_mem _ (List.mem_append_left _ (List.mem_append_right _ h))) hown hK hP 0 rfl rfl 4 (by decide) (hts (.fieldLink RX0 28 "MovingHeap$Heap" "filled" "I") (List.mem_of_getElem? (i := 1) rfl)) (fun _ h9 => h9) rfl dX0_calendarLength_6 ?_
      refine x_icmp_ge (tgt := 32) hx hb dX0_calendarLength_9 (by decide) (fun c9 => ?_) (fun c9 => ?_)
      · have hi2 : i = n ∨ (n = 0 ∧ i = 1) := by omega
        refine lv_iload_n hx hb dX0_calendarLength_32 rfl (lv_at hl 2 rfl) ?_
        exact x_iret hx hb hr hlocks hS () dX0_calendarLength_33 (fun t ht => trivial) (by rcases hi2 with q | ⟨q1, q2⟩; (rw [← q]; exact hy); (rw [q1]; rw [q2] at hy; exact hy))
      · refine lv_aload_n hx hb dX0_calendarLength_12 rfl (lv_at hl 0 rfl) ?_
        refine lv_iload_n hx hb dX0_calendarLength_13 rfl (lv_at hl 3 rfl) ?_
        refine lv_iload_n hx hb dX0_calendarLength_14 rfl (lv_at hl 1 rfl) ?_
        have hPc := hP.sub (ws' := [(r0, .inr (0, [.ref q0, .ref r1, .ref r2, .ref r3, .int F, .long E, .long X])), (r1, .inl (cI, 24, .inl PB)), (r2, .inl (cI, 24, .inl PL)), (r3, .inl (cI, 24, .inl FL)), (q0, .inr (2, [.ref q1, .ref q2, .ref q3, .int N])), (q1, .inl (cZ, 24, .inl T)), (q2, .inl (cJ, 24, .inr (.inl G))), (q3, .inl (cI, 24, .inl V))]) [0, 1, 2, 3, 4, 5, 6, 7] rfl
        refine x_calli (va_runV (As := [.int x, .int tt]) (rest := []) ⟨hx, hb, hml, hown, hts⟩ (c_X0_failureOf l dC dI cI cJ cZ r0 r1 r2 r3 q0 q1 q2 q3 H.size PB PL FL F E X a n hH T G V N th h v hL hT tt ht0 ht1 x i hxi hi1 (by omega)) (cwV 2 hts gX0_calendarLength_X0_failureOf rfl rfl rfl (by decide +kernel) ⟨Nat.le_of_ble_eq_true rfl, Nat.le_of_ble_eq_true rfl⟩) ⟨x_Bb, va_recv hK hP (ci := 0) (q0 := 0) rfl rfl, (fun U hU hW => ⟨rfl, by rw [hU], by rw [hU]; exact hPc, va_K.moved hW.alike hK⟩)⟩ rfl rfl hl.1 rfl (lv_room (Nat.le_of_ble_eq_true rfl)) dX0_calendarLength_15 ⟨Nat.zero_le _, Nat.zero_le _⟩) hS hA hP (fun v15 _ H locs h15 hP hS => ?_)
        refine x_ldc hx hb hown (hts (.constant RX0 54 (1000001)) (List.mem_of_getElem? (i := 2) rfl)) dX0_calendarLength_18 (1000001) (by decide) (fun v18 e18 => ?_)
        refine x_icmp_eq (tgt := 26) hx hb dX0_calendarLength_20 (by decide) (fun c20 => ?_) (fun c20 => ?_)
        · refine x_iinc (k := 3) hx hb (1) (by decide) dX0_calendarLength_26 hl rfl (by decide) (by omega) (by omega) (fun v26 ls e26 hl => ?_)
          have hl : lv_has ls 4 [(3, .int v26), (0, .ref r0), (1, .int tt), (2, .int y)] := hl
          refine lv_goto (tgt := 4) hx hb dX0_calendarLength_29 (by decide) ?_
          exact ih4 (i + 1) v26 y (by omega) (by omega) (by omega) (by show _ = ((clF h v tt.toInt a (i + 1) : Nat) : Int); unfold clF; first | (rw [if_pos ⟨hi1, by omega⟩]; omega) | (rw [if_neg (fun z => z.2 (by omega))]; omega)) (by omega) _ _ hP hS ls (lv_sub hl [1, 2, 3, 0] rfl)
        · refine x_iinc (k := 2) hx hb (1) (by decide) dX0_calendarLength_23 hl rfl (by decide) (by omega) (by omega) (fun v23 ls e23 hl => ?_)
          have hl : lv_has ls 4 [(2, .int v23), (0, .ref r0), (1, .int tt), (3, .int x)] := hl
          refine x_iinc (k := 3) hx hb (1) (by decide) dX0_calendarLength_26 hl rfl (by decide) (by omega) (by omega) (fun v26 ls e26 hl => ?_)
          have hl : lv_has ls 4 [(3, .int v26), (2, .int v23), (0, .ref r0), (1, .int tt)] := hl
          refine lv_goto (tgt := 4) hx hb dX0_calendarLength_29 (by decide) ?_
          exact ih4 (i + 1) v26 v23 (by omega) (by omega) (by omega) (by show _ = ((clF h v tt.toInt a (i + 1) : Nat) : Int); unfold clF; first | (rw [if_pos ⟨hi1, by omega⟩]; omega) | (rw [if_neg (fun z => z.2 (by omega))]; omega)) (by omega) _ _ hP hS ls (lv_sub hl [2, 3, 1, 0] rfl)
  exact loop4 (_ + 1) 1 v2 v0 (Nat.le_refl _) (Or.inr rfl) (by omega) (by rw [e0]; rfl) (Nat.lt_succ_self _) _ _ hP hS ls (lv_sub hl [2, 3, 1, 0] rfl)
--== X0_calendarLength
set_option maxHeartbeats 4000000 in
set_option maxRecDepth 100000 in
theorem c_X0_earlierThan (l : Launch) (dC : Nat → ClassId) (dI : Nat → Nat → Nat) (cI cJ cZ : ClassId) (r0 r1 r2 r3 q0 : Nat) (sz : Nat) (PB PL FL : Nat → Int32) (F : Int32) (E X : Int64) (a : Nat → Nat) (n : Nat) (hH : HK PB PL F a n) (g : Nat → Int) (hg : ∀ j : Nat, 1 ≤ j → j < n → (FL j).toInt = g j) (z f : Int32) (k : Nat) (hzk : z.toInt = (k : Int)) : Met l yX0_earlierThan wsX0_earlierThan ({ frames := 0, cells := 0, slots := 0, locals := 0 }) (va_Pc [.ref r0, .int z, .int f] (x_B (dC, dI) vwCl (tysN cI cJ cZ) [(r0, .inr (0, [.ref q0, .ref r1, .ref r2, .ref r3, .int F, .long E, .long X])), (r1, .inl (cI, 24, .inl PB)), (r2, .inl (cI, 24, .inl PL)), (r3, .inl (cI, 24, .inl FL))] sz)) (va_Qi (fun (r : Int32) (_ : Unit) => r.toInt = (etF g k f.toInt n : Int)) (fun _ _ => True) (va_A [] sz)) 0 0 (va_A [] sz) := by
  refine x_ofR (cc := cX0_earlierThan) (maxL := 5) (ret := (some .int)) (own := RX0) (by decide) rfl rfl (Nat.le_of_ble_eq_true rfl) (lvs := [(0, .ref r0), (1, .int z), (2, .int f)]) rfl ?_
  intro pg e s mi args below meth co hx hb hr hml hown hts hlocks hsz hP hK ls hl
  subst hsz
  generalize hAe : (va_A [] s.heap.size) = A
  have hA : ∀ q : Nat, s.heap.size ≤ q → A q := fun q h => by rw [← hAe]; exact Or.inr h
  have hS : va_S A s.heap s.heap [] := va_S.rf
  obtain ⟨hHF, hHn, hHa⟩ := id hH
  refine x_iconst hx hb dX0_earlierThan_0 (0) (by decide) (fun v0 e0 => ?_)
  refine lv_istore_n (lv' := [(3, .int v0), (0, .ref r0), (1, .int z), (2, .int f)]) hx hb dX0_earlierThan_1 rfl hl (by decide) rfl (fun ls hl => ?_)
  refine x_iconst hx hb dX0_earlierThan_2 (1) (by decide) (fun v2 e2 => ?_)
  refine lv_istore (lv' := [(4, .int v2), (3, .int v0), (0, .ref r0), (1, .int z), (2, .int f)]) hx hb dX0_earlierThan_3 hl (by decide) rfl (fun ls hl => ?_)
  have loop5 : ∀ (fu : Nat) (i : Nat) (x : Int32) (y : Int32), (1 ≤ i) → (i ≤ n ∨ i = 1) → (x.toInt = (i : Int)) → (y.toInt = (etF g k f.toInt i : Int)) → (25 - i < fu) → ∀ (H : Heap) (locs : List Loc), va_P (dC, dI) vwCl [(r0, .inr (0, [.ref q0, .ref r1, .ref r2, .ref r3, .int F, .long E, .long X])), (r1, .inl (cI, 24, .inl PB)), (r2, .inl (cI, 24, .inl PL)), (r3, .inl (cI, 24, .inl FL))] H → va_S A s.heap H locs → ∀ (ls : Array Slot), lv_has ls 5 [(0, .ref r0), (1, .int z), (2, .int f), (3, .int y), (4, .int x)] → W pg l e (headSpec wsX0_earlierThan ({ frames := 0, cells := 0, slots := 0, locals := 0 })).room s mi args below meth co H locs 0 0 (MQ below (va_Qi (fun (r : Int32) (_ : Unit) => r.toInt = (etF g k f.toInt n : Int)) (fun _ _ => True) A) args s 0 0 A) (F0 mi 5 ls []) := by
    intro fu
    induction fu with
    | zero => intro i x y hi1 hi hxi hy hn; exact absurd hn (Nat.not_lt_zero _)
    | succ fu ih5 =>
      intro i x y hi1 hi hxi hy hn H locs hP hS ls hl
      have hcl := et_le g k f.toInt i
      refine lv_iload hx hb dX0_earlierThan_5 (lv_at hl 4 rfl) ?_
      refine lv_aload_n hx hb dX0_earlierThan_7 rfl (lv_at hl 0 rfl) ?_
      refine va_get (D := (dC, dI)) (ci := 0) (v := .int F) (C := RX0) (T := TX0) (N := 7) hx hb hts (fun _ h => List.mem_cons_of_mem _ (List.mem_append_right _ h)) hown hK hP 0 rfl rfl 4 (by decide) (hts (.fieldLink RX0 28 "MovingHeap$Heap" "filled" "I") (List.mem_of_getElem? (i := 1) rfl)) (fun _ h9 => h9) rfl dX0_earlierThan_8 ?_
      refine x_icmp_ge (tgt := 58) hx hb dX0_earlierThan_11 (by decide) (fun c11 => ?_) (fun c11 => ?_)
      · have hi2 : i = n ∨ (n = 0 ∧ i = 1) := by omega
        refine lv_iload_n hx hb dX0_earlierThan_58 rfl (lv_at hl 3 rfl) ?_
        exact x_iret hx hb hr hlocks hS () dX0_earlierThan_59 (fun t ht => trivial) (by rcases hi2 with q | ⟨q1, q2⟩; (rw [← q]; exact hy); (rw [q1]; rw [q2] at hy; exact hy))
      · refine lv_iload hx hb dX0_earlierThan_14 (lv_at hl 4 rfl) ?_
        refine x_bipush hx hb dX0_earlierThan_16 (24) (by decide) (fun v16 e16 => ?_)
        refine x_icmp_ge (tgt := 58) hx hb dX0_earlierThan_18 (by decide) (fun c18 => ?_) (fun c18 => ?_)
        · exact absurd c18 (by omega)
        · have hgi := hg i hi1 (by omega)
          refine lv_aload_n hx hb dX0_earlierThan_21 rfl (lv_at hl 0 rfl) ?_
          refine va_get (D := (dC, dI)) (ci := 0) (v := .ref r3) (C := RX0) (T := TX0) (N := 7) hx hb hts (fun _ h => List.mem_cons_of_mem _ (List.mem_append_right _ h)) hown hK hP 0 rfl rfl 3 (by decide) (hts (.fieldLink RX0 25 "MovingHeap$Heap" "failures" "[I") (List.mem_of_getElem? (i := 2) rfl)) (fun _ h9 => h9) rfl dX0_earlierThan_22 ?_
          refine lv_iload hx hb dX0_earlierThan_25 (lv_at hl 4 rfl) ?_
          refine x_iald hx hb hK hP 3 0 rfl rfl (i) hxi (by omega) dX0_earlierThan_27 ?_
          refine lv_iload_n hx hb dX0_earlierThan_28 rfl (lv_at hl 2 rfl) ?_
          refine x_icmp_lt (tgt := 49) hx hb dX0_earlierThan_29 (by decide) (fun c29 => ?_) (fun c29 => ?_)
          · refine x_iinc (k := 3) hx hb (1) (by decide) dX0_earlierThan_49 hl rfl (by decide) (by omega) (by omega) (fun v49 ls e49 hl => ?_)
            have hl : lv_has ls 5 [(3, .int v49), (0, .ref r0), (1, .int z), (2, .int f), (4, .int x)] := hl
            refine x_iinc (k := 4) hx hb (1) (by decide) dX0_earlierThan_52 hl rfl (by decide) (by omega) (by omega) (fun v52 ls e52 hl => ?_)
            have hl : lv_has ls 5 [(4, .int v52), (3, .int v49), (0, .ref r0), (1, .int z), (2, .int f)] := hl
            refine lv_goto (tgt := 5) hx hb dX0_earlierThan_55 (by decide) ?_
            exact ih5 (i + 1) v52 v49 (by omega) (by omega) (by omega) (by show _ = ((etF g k f.toInt (i + 1) : Nat) : Int); unfold etF; first | (rw [if_pos ⟨hi1, by omega⟩]; omega) | (rw [if_neg (fun z => by omega)]; omega)) (by omega) _ _ hP hS ls (lv_sub hl [2, 3, 4, 1, 0] rfl)
          · refine lv_aload_n hx hb dX0_earlierThan_32 rfl (lv_at hl 0 rfl) ?_
            refine va_get (D := (dC, dI)) (ci := 0) (v := .ref r3) (C := RX0) (T := TX0) (N := 7) hx hb hts (fun _ h => List.mem_cons_of_mem _ (List.mem_append_right _ h)) hown hK hP 0 rfl rfl 3 (by decide) (hts (.fieldLink RX0 25 "MovingHeap$Heap" "failures" "[I") (List.mem_of_getElem? (i := 2) rfl)) (fun _ h9 => h9) rfl dX0_earlierThan_33 ?_
            refine lv_iload hx hb dX0_earlierThan_36 (lv_at hl 4 rfl) ?_
            refine x_iald hx hb hK hP 3 0 rfl rfl (i) hxi (by omega) dX0_earlierThan_38 ?_
            refine lv_iload_n hx hb dX0_earlierThan_39 rfl (lv_at hl 2 rfl) ?_
            refine x_icmp_ne (tgt := 52) hx hb dX0_earlierThan_40 (by decide) (fun c40 => ?_) (fun c40 => ?_)
            · refine x_iinc (k := 4) hx hb (1) (by decide) dX0_earlierThan_52 hl rfl (by decide) (by omega) (by omega) (fun v52 ls e52 hl => ?_)
              have hl : lv_has ls 5 [(4, .int v52), (0, .ref r0), (1, .int z), (2, .int f), (3, .int y)] := hl
              refine lv_goto (tgt := 5) hx hb dX0_earlierThan_55 (by decide) ?_
              exact ih5 (i + 1) v52 y (by omega) (by omega) (by omega) (by show _ = ((etF g k f.toInt (i + 1) : Nat) : Int); unfold etF; first | (rw [if_pos ⟨hi1, by omega⟩]; omega) | (rw [if_neg (fun z => by omega)]; omega)) (by omega) _ _ hP hS ls (lv_sub hl [1, 2, 3, 4, 0] rfl)
            · refine lv_iload hx hb dX0_earlierThan_43 (lv_at hl 4 rfl) ?_
              refine lv_iload_n hx hb dX0_earlierThan_45 rfl (lv_at hl 1 rfl) ?_
              refine x_icmp_ge (tgt := 52) hx hb dX0_earlierThan_46 (by decide) (fun c46 => ?_) (fun c46 => ?_)
              · refine x_iinc (k := 4) hx hb (1) (by decide) dX0_earlierThan_52 hl rfl (by decide) (by omega) (by omega) (fun v52 ls e52 hl => ?_)
                have hl : lv_has ls 5 [(4, .int v52), (0, .ref r0), (1, .int z), (2, .int f), (3, .int y)] := hl
                refine lv_goto (tgt := 5) hx hb dX0_earlierThan_55 (by decide) ?_
                exact ih5 (i + 1) v52 y (by omega) (by omega) (by omega) (by show _ = ((etF g k f.toInt (i + 1) : Nat) : Int); unfold etF; first | (rw [if_pos ⟨hi1, by omega⟩]; omega) | (rw [if_neg (fun z => by omega)]; omega)) (by omega) _ _ hP hS ls (lv_sub hl [1, 2, 3, 4, 0] rfl)
              · refine x_iinc (k := 3) hx hb (1) (by decide) dX0_earlierThan_49 hl rfl (by decide) (by omega) (by omega) (fun v49 ls e49 hl => ?_)
                have hl : lv_has ls 5 [(3, .int v49), (0, .ref r0), (1, .int z), (2, .int f), (4, .int x)] := hl
                refine x_iinc (k := 4) hx hb (1) (by decide) dX0_earlierThan_52 hl rfl (by decide) (by omega) (by omega) (fun v52 ls e52 hl => ?_)
                have hl : lv_has ls 5 [(4, .int v52), (3, .int v49), (0, .ref r0), (1, .int z), (2, .int f)] := hl
                refine lv_goto (tgt := 5) hx hb dX0_earlierThan_55 (by decide) ?_
                exact ih5 (i + 1) v52 v49 (by omega) (by omega) (by omega) (by show _ = ((etF g k f.toInt (i + 1) : Nat) : Int); unfold etF; first | (rw [if_pos ⟨hi1, by omega⟩]; omega) | (rw [if_neg (fun z => by omega)]; omega)) (by omega) _ _ hP hS ls (lv_sub hl [2, 3, 4, 1, 0] rfl)
  exact loop5 (_ + 1) 1 v2 v0 (Nat.le_refl _) (Or.inr rfl) (by omega) (by rw [e0]; rfl) (Nat.lt_succ_self _) _ _ hP hS ls (lv_sub hl [2, 3, 4, 1, 0] rfl)
--== X0_earlierThan
set_option maxHeartbeats 4000000 in
set_option maxRecDepth 100000 in
theorem c_X0_calendarEntry (l : Launch) (dC : Nat → ClassId) (dI : Nat → Nat → Nat) (cI cJ cZ : ClassId) (r0 r1 r2 r3 q0 q1 q2 q3 : Nat) (sz : Nat) (PB PL FL : Nat → Int32) (F : Int32) (E X : Int64) (a : Nat → Nat) (n : Nat) (hH : HK PB PL F a n) (T : Nat → Int32) (G : Nat → Int64) (V : Nat → Int32) (N : Int32) (th : Nat → Bool) (h v : Nat → Int) (hL : LOK T G V th h v) (hT : ∀ k : Nat, k < n → th (a k) = true) (tt : Int32) (ht0 : 0 ≤ tt.toInt) (ht1 : tt.toInt ≤ 1000000) (y : Int32) : Met l yX0_calendarEntry wsX0_calendarEntry ({ frames := 5, cells := 0, slots := 0, locals := 121 }) (va_Pc [.ref r0, .int y, .int tt] (x_M (dC, dI) vwCl (tysN cI cJ cZ) [(r0, .inr (0, [.ref q0, .ref r1, .ref r2, .ref r3, .int F, .long E, .long X])), (r1, .inl (cI, 24, .inl PB)), (r2, .inl (cI, 24, .inl PL)), (r3, .inl (cI, 24, .inl FL)), (q0, .inr (2, [.ref q1, .ref q2, .ref q3, .int N])), (q1, .inl (cZ, 24, .inl T)), (q2, .inl (cJ, 24, .inr (.inl G))), (q3, .inl (cI, 24, .inl V))] sz)) (va_Qi (fun (r : Int32) (u : Nat → Int32) => (∃ k : Nat, CE (er h v tt.toInt a) n y.toInt k ∧ (∀ j : Nat, j < k → ¬ CE (er h v tt.toInt a) n y.toInt j) ∧ r.toInt = (k : Int)) ∨ (r.toInt = 0 ∧ ∀ k : Nat, ¬ CE (er h v tt.toInt a) n y.toInt k)) (fun (u : Nat → Int32) t => va_P (dC, dI) vwCl [(r0, .inr (0, [.ref q0, .ref r1, .ref r2, .ref r3, .int F, .long E, .long X])), (r1, .inl (cI, 24, .inl PB)), (r2, .inl (cI, 24, .inl PL)), (r3, .inl (cI, 24, .inl u)), (q0, .inr (2, [.ref q1, .ref q2, .ref q3, .int N])), (q1, .inl (cZ, 24, .inl T)), (q2, .inl (cJ, 24, .inr (.inl G))), (q3, .inl (cI, 24, .inl V))] t.heap) (va_A [(r0, .inr (0, [.ref q0, .ref r1, .ref r2, .ref r3, .int F, .long E, .long X])), (r1, .inl (cI, 24, .inl PB)), (r2, .inl (cI, 24, .inl PL)), (r3, .inl (cI, 24, .inl FL)), (q0, .inr (2, [.ref q1, .ref q2, .ref q3, .int N])), (q1, .inl (cZ, 24, .inl T)), (q2, .inl (cJ, 24, .inr (.inl G))), (q3, .inl (cI, 24, .inl V))] sz)) 0 0 (va_A [(r0, .inr (0, [.ref q0, .ref r1, .ref r2, .ref r3, .int F, .long E, .long X])), (r1, .inl (cI, 24, .inl PB)), (r2, .inl (cI, 24, .inl PL)), (r3, .inl (cI, 24, .inl FL)), (q0, .inr (2, [.ref q1, .ref q2, .ref q3, .int N])), (q1, .inl (cZ, 24, .inl T)), (q2, .inl (cJ, 24, .inr (.inl G))), (q3, .inl (cI, 24, .inl V))] sz) := by
  refine x_ofM (cc := cX0_calendarEntry) (maxL := 4) (ret := (some .int)) (own := RX0) (by decide) rfl rfl (Nat.le_of_ble_eq_true rfl) (lvs := [(0, .ref r0), (1, .int y), (2, .int tt)]) rfl ?_
  intro pg e s mi args below meth co hx hb hr hml hown hts hlocks hin hsz hP hK hD ls hl
  subst hsz
  generalize hAe : (va_A [(r0, .inr (0, [.ref q0, .ref r1, .ref r2, .ref r3, .int F, .long E, .long X])), (r1, .inl (cI, 24, .inl PB)), (r2, .inl (cI, 24, .inl PL)), (r3, .inl (cI, 24, .inl FL)), (q0, .inr (2, [.ref q1, .ref q2, .ref q3, .int N])), (q1, .inl (cZ, 24, .inl T)), (q2, .inl (cJ, 24, .inr (.inl G))), (q3, .inl (cI, 24, .inl V))] s.heap.size) = A at hD ⊢
  have hA : ∀ q : Nat, s.heap.size ≤ q → A q := fun q h => by rw [← hAe]; exact Or.inr h
  have hS : va_S A s.heap s.heap [] := va_S.rf
  obtain ⟨hHF, hHn, hHa⟩ := id hH
  refine x_iconst hx hb dX0_calendarEntry_0 (1) (by decide) (fun v0 e0 => ?_)
  refine lv_istore_n (lv' := [(3, .int v0), (0, .ref r0), (1, .int y), (2, .int tt)]) hx hb dX0_calendarEntry_1 rfl hl (by decide) rfl (fun ls hl => ?_)
  have loop2 : ∀ (fu : Nat) (i : Nat) (x : Int32) (FLi : Nat → Int32), (1 ≤ i) → (i ≤ n ∨ i = 1) → (x.toInt = (i : Int)) → (∀ j : Nat, 1 ≤ j → j < i → (FLi j).toInt = er h v tt.toInt a j) → (25 - i < fu) → ∀ (H : Heap) (locs : List Loc), va_P (dC, dI) vwCl [(r0, .inr (0, [.ref q0, .ref r1, .ref r2, .ref r3, .int F, .long E, .long X])), (r1, .inl (cI, 24, .inl PB)), (r2, .inl (cI, 24, .inl PL)), (r3, .inl (cI, 24, .inl FLi)), (q0, .inr (2, [.ref q1, .ref q2, .ref q3, .int N])), (q1, .inl (cZ, 24, .inl T)), (q2, .inl (cJ, 24, .inr (.inl G))), (q3, .inl (cI, 24, .inl V))] H → va_D A [(r0, .inr (0, [.ref q0, .ref r1, .ref r2, .ref r3, .int F, .long E, .long X])), (r1, .inl (cI, 24, .inl PB)), (r2, .inl (cI, 24, .inl PL)), (r3, .inl (cI, 24, .inl FLi)), (q0, .inr (2, [.ref q1, .ref q2, .ref q3, .int N])), (q1, .inl (cZ, 24, .inl T)), (q2, .inl (cJ, 24, .inr (.inl G))), (q3, .inl (cI, 24, .inl V))] → va_S A s.heap H locs → ∀ (ls : Array Slot), lv_has ls 4 [(0, .ref r0), (1, .int y), (2, .int tt), (3, .int x)] → W pg l e (headSpec wsX0_calendarEntry ({ frames := 5, cells := 0, slots := 0, locals := 121 })).room s mi args below meth co H locs 0 0 (MQ below (va_Qi (fun (r : Int32) (u : Nat → Int32) => (∃ k : Nat, CE (er h v tt.toInt a) n y.toInt k ∧ (∀ j : Nat, j < k → ¬ CE (er h v tt.toInt a) n y.toInt j) ∧ r.toInt = (k : Int)) ∨ (r.toInt = 0 ∧ ∀ k : Nat, ¬ CE (er h v tt.toInt a) n y.toInt k)) (fun (u : Nat → Int32) t => va_P (dC, dI) vwCl [(r0, .inr (0, [.ref q0, .ref r1, .ref r2, .ref r3, .int F, .long E, .long X])), (r1, .inl (cI, 24, .inl PB)), (r2, .inl (cI, 24, .inl PL)), (r3, .inl (cI, 24, .inl u)), (q0, .inr (2, [.ref q1, .ref q2, .ref q3, .int N])), (q1, .inl (cZ, 24, .inl T)), (q2, .inl (cJ, 24, .inr (.inl G))), (q3, .inl (cI, 24, .inl V))] t.heap) A) args s 0 0 A) (F0 mi 2 ls []) := by
    intro fu
    induction fu with
    | zero => intro i x FLi hi1 hi hxi hfl hn; exact absurd hn (Nat.not_lt_zero _)
    | succ fu ih2 =>
      intro i x FLi hi1 hi hxi hfl hn H locs hP hD hS ls hl
      refine lv_iload_n hx hb dX0_calendarEntry_2 rfl (lv_at hl 3 rfl) ?_
      refine lv_aload_n hx hb dX0_calendarEntry_3 rfl (lv_at hl 0 rfl) ?_
      refine va_get (D := (dC, dI)) (ci := 0) (v := .int F) (C := RX0) (T := TX0) (N := 7) hx hb hts (fun _ h => List.mem_cons_of_mem _ (List.mem_append_left _ (List.mem_append_right _ h))) hown hK hP 0 rfl rfl 4 (by decide) (hts (.fieldLink RX0 28 "MovingHeap$Heap" "filled" "I") (List.mem_of_getElem? (i := 1) rfl)) (fun _ h9 => h9) rfl dX0_calendarEntry_4 ?_
      refine x_icmp_ge (tgt := 34) hx hb dX0_calendarEntry_7 (by decide) (fun c7 => ?_) (fun c7 => ?_)
      · have hfn : ∀ j : Nat, 1 ≤ j → j < n → (FLi j).toInt = er h v tt.toInt a j := fun j h1 h2 => hfl j h1 (by omega)
        refine x_iconst hx hb dX0_calendarEntry_34 (1) (by decide) (fun v34 e34 => ?_)
        refine lv_istore_n (lv' := [(3, .int v34), (0, .ref r0), (1, .int y), (2, .int tt)]) hx hb dX0_calendarEntry_35 rfl hl (by decide) rfl (fun ls hl => ?_)
        have loop36 : ∀ (fu : Nat) (k : Nat) (z : Int32), (1 ≤ k) → (k ≤ n ∨ k = 1) → (z.toInt = (k : Int)) → (∀ j : Nat, j < k → ¬ CE (er h v tt.toInt a) n y.toInt j) → (25 - k < fu) → ∀ (H : Heap) (locs : List Loc), va_P (dC, dI) vwCl [(r0, .inr (0, [.ref q0, .ref r1, .ref r2, .ref r3, .int F, .long E, .long X])), (r1, .inl (cI, 24, .inl PB)), (r2, .inl (cI, 24, .inl PL)), (r3, .inl (cI, 24, .inl FLi)), (q0, .inr (2, [.ref q1, .ref q2, .ref q3, .int N])), (q1, .inl (cZ, 24, .inl T)), (q2, .inl (cJ, 24, .inr (.inl G))), (q3, .inl (cI, 24, .inl V))] H → va_D A [(r0, .inr (0, [.ref q0, .ref r1, .ref r2, .ref r3, .int F, .long E, .long X])), (r1, .inl (cI, 24, .inl PB)), (r2, .inl (cI, 24, .inl PL)), (r3, .inl (cI, 24, .inl FLi)), (q0, .inr (2, [.ref q1, .ref q2, .ref q3, .int N])), (q1, .inl (cZ, 24, .inl T)), (q2, .inl (cJ, 24, .inr (.inl G))), (q3, .inl (cI, 24, .inl V))] → va_S A s.heap H locs → ∀ (ls : Array Slot), lv_has ls 4 [(0, .ref r0), (1, .int y), (2, .int tt), (3, .int z)] → W pg l e (headSpec wsX0_calendarEntry ({ frames := 5, cells := 0, slots := 0, locals := 121 })).room s mi args below meth co H locs 0 0 (MQ below (va_Qi (fun (r : Int32) (u : Nat → Int32) => (∃ k : Nat, CE (er h v tt.toInt a) n y.toInt k ∧ (∀ j : Nat, j < k → ¬ CE (er h v tt.toInt a) n y.toInt j) ∧ r.toInt = (k : Int)) ∨ (r.toInt = 0 ∧ ∀ k : Nat, ¬ CE (er h v tt.toInt a) n y.toInt k)) (fun (u : Nat → Int32) t => va_P (dC, dI) vwCl [(r0, .inr (0, [.ref q0, .ref r1, .ref r2, .ref r3, .int F, .long E, .long X])), (r1, .inl (cI, 24, .inl PB)), (r2, .inl (cI, 24, .inl PL)), (r3, .inl (cI, 24, .inl u)), (q0, .inr (2, [.ref q1, .ref q2, .ref q3, .int N])), (q1, .inl (cZ, 24, .inl T)), (q2, .inl (cJ, 24, .inr (.inl G))), (q3, .inl (cI, 24, .inl V))] t.heap) A) args s 0 0 A) (F0 mi 36 ls []) := by
          intro fu
          induction fu with
          | zero => intro k z hk1 hk hzk hno hn; exact absurd hn (Nat.not_lt_zero _)
          | succ fu ih36 =>
            intro k z hk1 hk hzk hno hn H locs hP hD hS ls hl
            refine lv_iload_n hx hb dX0_calendarEntry_36 rfl (lv_at hl 3 rfl) ?_
            refine lv_aload_n hx hb dX0_calendarEntry_37 rfl (lv_at hl 0 rfl) ?_
            refine va_get (D := (dC, dI)) (ci := 0) (v := .int F) (C := RX0) (T := TX0) (N := 7) hx hb hts (fun _ h => List.mem_cons_of_mem _ (List.mem_append_left _ (List.mem_append_right _ h))) hown hK hP 0 rfl rfl 4 (by decide) (hts (.fieldLink RX0 28 "MovingHeap$Heap" "filled" "I") (List.mem_of_getElem? (i := 1) rfl)) (fun _ h9 => h9) rfl dX0_calendarEntry_38 ?_
            refine x_icmp_ge (tgt := 84) hx hb dX0_calendarEntry_41 (by decide) (fun c41 => ?_) (fun c41 => ?_)
            · refine x_iconst hx hb dX0_calendarEntry_84 (0) (by decide) (fun v84 e84 => ?_)
              exact x_iret hx hb hr hlocks hS FLi dX0_calendarEntry_85 (fun t ht => by rw [ht]; exact hP) (Or.inr ⟨by omega, fun j z => hno j (by have := z.2.1; omega) z⟩)
            · refine lv_iload_n hx hb dX0_calendarEntry_44 rfl (lv_at hl 3 rfl) ?_
              refine x_bipush hx hb dX0_calendarEntry_45 (24) (by decide) (fun v45 e45 => ?_)
              refine x_icmp_ge (tgt := 84) hx hb dX0_calendarEntry_47 (by decide) (fun c47 => ?_) (fun c47 => ?_)
              · exact absurd c47 (by omega)
              · have hfk := hfn k hk1 (by omega)
                refine lv_aload_n hx hb dX0_calendarEntry_50 rfl (lv_at hl 0 rfl) ?_
                refine va_get (D := (dC, dI)) (ci := 0) (v := .ref r3) (C := RX0) (T := TX0) (N := 7) hx hb hts (fun _ h => List.mem_cons_of_mem _ (List.mem_append_left _ (List.mem_append_right _ h))) hown hK hP 0 rfl rfl 3 (by decide) (hts (.fieldLink RX0 25 "MovingHeap$Heap" "failures" "[I") (List.mem_of_getElem? (i := 2) rfl)) (fun _ h9 => h9) rfl dX0_calendarEntry_51 ?_
                refine lv_iload_n hx hb dX0_calendarEntry_54 rfl (lv_at hl 3 rfl) ?_
                refine x_iald hx hb hK hP 3 0 rfl rfl (k) hzk (by omega) dX0_calendarEntry_55 ?_
                refine x_ldc hx hb hown (hts (.constant RX0 54 (1000001)) (List.mem_of_getElem? (i := 3) rfl)) dX0_calendarEntry_56 (1000001) (by decide) (fun v56 e56 => ?_)
                refine x_icmp_eq (tgt := 78) hx hb dX0_calendarEntry_58 (by decide) (fun c58 => ?_) (fun c58 => ?_)
                · refine x_iinc (k := 3) hx hb (1) (by decide) dX0_calendarEntry_78 hl rfl (by decide) (by omega) (by omega) (fun v78 ls e78 hl => ?_)
                  have hl : lv_has ls 4 [(3, .int v78), (0, .ref r0), (1, .int y), (2, .int tt)] := hl
                  refine lv_goto (tgt := 36) hx hb dX0_calendarEntry_81 (by decide) ?_
                  exact ih36 (k + 1) v78 (by omega) (by omega) (by omega) (fun j h2 => by rcases Nat.lt_or_eq_of_le (Nat.lt_succ_iff.mp h2) with q | q; exact hno j q; subst q; intro z; obtain ⟨z1, z2, z3, z4⟩ := z; first | (exact z3 (by omega)) | (rw [hfk] at h69; omega)) (by omega) _ _ hP hD hS ls (lv_sub hl [1, 2, 3, 0] rfl)
                · refine lv_aload_n hx hb dX0_calendarEntry_61 rfl (lv_at hl 0 rfl) ?_
                  refine lv_iload_n hx hb dX0_calendarEntry_62 rfl (lv_at hl 3 rfl) ?_
                  refine lv_aload_n hx hb dX0_calendarEntry_63 rfl (lv_at hl 0 rfl) ?_
                  refine va_get (D := (dC, dI)) (ci := 0) (v := .ref r3) (C := RX0) (T := TX0) (N := 7) hx hb hts (fun _ h => List.mem_cons_of_mem _ (List.mem_append_left _ (List.mem_append_right _ h))) hown hK hP 0 rfl rfl 3 (by decide) (hts (.fieldLink RX0 25 "MovingHeap$Heap" "failures" "[I") (List.mem_of_getElem? (i := 2) rfl)) (fun _ h9 => h9) rfl dX0_calendarEntry_64 ?_
                  refine lv_iload_n hx hb dX0_calendarEntry_67 rfl (lv_at hl 3 rfl) ?_
                  refine x_iald hx hb hK hP 3 0 rfl rfl (k) hzk (by omega) dX0_calendarEntry_68 ?_
                  have hPc := hP.sub (ws' := [(r0, .inr (0, [.ref q0, .ref r1, .ref r2, .ref r3, .int F, .long E, .long X])), (r1, .inl (cI, 24, .inl PB)), (r2, .inl (cI, 24, .inl PL)), (r3, .inl (cI, 24, .inl FLi))]) [0, 1, 2, 3] rfl
                  refine x_calli (va_runV (As := [.int z, .int (FLi k)]) (rest := []) ⟨hx, hb, hml, hown, hts⟩ (c_X0_earlierThan l dC dI cI cJ cZ r0 r1 r2 r3 q0 H.size PB PL FLi F E X a n hH (er h v tt.toInt a) hfn z (FLi k) k hzk) (cwV 2 hts gX0_calendarEntry_X0_earlierThan rfl rfl rfl (by decide +kernel) ⟨Nat.le_of_ble_eq_true rfl, Nat.le_of_ble_eq_true rfl⟩) ⟨x_Bb, va_recv hK hP (ci := 0) (q0 := 0) rfl rfl, (fun U hU hW => ⟨rfl, by rw [hU], by rw [hU]; exact hPc, va_K.moved hW.alike hK⟩)⟩ rfl rfl hl.1 rfl (lv_room (Nat.le_of_ble_eq_true rfl)) dX0_calendarEntry_69 ⟨Nat.zero_le _, Nat.zero_le _⟩) hS hA hP (fun v69 _ H locs h69 hP hS => ?_)
                  refine lv_iload_n hx hb dX0_calendarEntry_72 rfl (lv_at hl 1 rfl) ?_
                  refine x_icmp_ne (tgt := 78) hx hb dX0_calendarEntry_73 (by decide) (fun c73 => ?_) (fun c73 => ?_)
                  · refine x_iinc (k := 3) hx hb (1) (by decide) dX0_calendarEntry_78 hl rfl (by decide) (by omega) (by omega) (fun v78 ls e78 hl => ?_)
                    have hl : lv_has ls 4 [(3, .int v78), (0, .ref r0), (1, .int y), (2, .int tt)] := hl
                    refine lv_goto (tgt := 36) hx hb dX0_calendarEntry_81 (by decide) ?_
                    exact ih36 (k + 1) v78 (by omega) (by omega) (by omega) (fun j h2 => by rcases Nat.lt_or_eq_of_le (Nat.lt_succ_iff.mp h2) with q | q; exact hno j q; subst q; intro z; obtain ⟨z1, z2, z3, z4⟩ := z; first | (exact z3 (by omega)) | (rw [hfk] at h69; omega)) (by omega) _ _ hP hD hS ls (lv_sub hl [1, 2, 3, 0] rfl)
                  · refine lv_iload_n hx hb dX0_calendarEntry_76 rfl (lv_at hl 3 rfl) ?_
                    exact x_iret hx hb hr hlocks hS FLi dX0_calendarEntry_77 (fun t ht => by rw [ht]; exact hP) (Or.inl ⟨k, ⟨hk1, by omega, by omega, by rw [hfk] at h69; omega⟩, hno, hzk⟩)
        exact loop36 (_ + 1) 1 v34 (Nat.le_refl _) (Or.inr rfl) (by omega) (fun j h2 z => by have := z.1; omega) (Nat.lt_succ_self _) _ _ hP hD hS ls (lv_sub hl [1, 2, 3, 0] rfl)
      · refine lv_iload_n hx hb dX0_calendarEntry_10 rfl (lv_at hl 3 rfl) ?_
        refine x_bipush hx hb dX0_calendarEntry_11 (24) (by decide) (fun v11 e11 => ?_)
        refine x_icmp_ge (tgt := 34) hx hb dX0_calendarEntry_13 (by decide) (fun c13 => ?_) (fun c13 => ?_)
        · exact absurd c13 (by omega)
        · refine lv_aload_n hx hb dX0_calendarEntry_16 rfl (lv_at hl 0 rfl) ?_
          refine va_get (D := (dC, dI)) (ci := 0) (v := .ref r3) (C := RX0) (T := TX0) (N := 7) hx hb hts (fun _ h => List.mem_cons_of_mem _ (List.mem_append_left _ (List.mem_append_right _ h))) hown hK hP 0 rfl rfl 3 (by decide) (hts (.fieldLink RX0 25 "MovingHeap$Heap" "failures" "[I") (List.mem_of_getElem? (i := 2) rfl)) (fun _ h9 => h9) rfl dX0_calendarEntry_17 ?_
          refine lv_iload_n hx hb dX0_calendarEntry_20 rfl (lv_at hl 3 rfl) ?_
          refine lv_aload_n hx hb dX0_calendarEntry_21 rfl (lv_at hl 0 rfl) ?_
          refine lv_iload_n hx hb dX0_calendarEntry_22 rfl (lv_at hl 3 rfl) ?_
          refine lv_iload_n hx hb dX0_calendarEntry_23 rfl (lv_at hl 2 rfl) ?_
          have hPc := hP.sub (ws' := [(r0, .inr (0, [.ref q0, .ref r1, .ref r2, .ref r3, .int F, .long E, .long X])), (r1, .inl (cI, 24, .inl PB)), (r2, .inl (cI, 24, .inl PL)), (r3, .inl (cI, 24, .inl FLi)), (q0, .inr (2, [.ref q1, .ref q2, .ref q3, .int N])), (q1, .inl (cZ, 24, .inl T)), (q2, .inl (cJ, 24, .inr (.inl G))), (q3, .inl (cI, 24, .inl V))]) [0, 1, 2, 3, 4, 5, 6, 7] rfl
          refine x_calli (va_runV (As := [.int x, .int tt]) (rest := [.int x, .ref r3]) ⟨hx, hb, hml, hown, hts⟩ (c_X0_failureOf l dC dI cI cJ cZ r0 r1 r2 r3 q0 q1 q2 q3 H.size PB PL FLi F E X a n hH T G V N th h v hL hT tt ht0 ht1 x i hxi hi1 (by omega)) (cwV 2 hts gX0_calendarEntry_X0_failureOf rfl rfl rfl (by decide +kernel) ⟨Nat.le_of_ble_eq_true rfl, Nat.le_of_ble_eq_true rfl⟩) ⟨x_Bb, va_recv hK hP (ci := 0) (q0 := 0) rfl rfl, (fun U hU hW => ⟨rfl, by rw [hU], by rw [hU]; exact hPc, va_K.moved hW.alike hK⟩)⟩ rfl rfl hl.1 rfl (lv_room (Nat.le_of_ble_eq_true rfl)) dX0_calendarEntry_24 ⟨Nat.zero_le _, Nat.zero_le _⟩) hS hA hP (fun v24 _ H locs h24 hP hS => ?_)
          refine x_iast hx hb hK hP hD hS 3 0 rfl rfl (i) hxi (by omega) dX0_calendarEntry_27 (fun H locs hP hD hS => ?_)
          have hP : va_P (dC, dI) vwCl [(r0, .inr (0, [.ref q0, .ref r1, .ref r2, .ref r3, .int F, .long E, .long X])), (r1, .inl (cI, 24, .inl PB)), (r2, .inl (cI, 24, .inl PL)), (r3, .inl (cI, 24, .inl (upd FLi i v24))), (q0, .inr (2, [.ref q1, .ref q2, .ref q3, .int N])), (q1, .inl (cZ, 24, .inl T)), (q2, .inl (cJ, 24, .inr (.inl G))), (q3, .inl (cI, 24, .inl V))] H := hP
          have hD : va_D A [(r0, .inr (0, [.ref q0, .ref r1, .ref r2, .ref r3, .int F, .long E, .long X])), (r1, .inl (cI, 24, .inl PB)), (r2, .inl (cI, 24, .inl PL)), (r3, .inl (cI, 24, .inl (upd FLi i v24))), (q0, .inr (2, [.ref q1, .ref q2, .ref q3, .int N])), (q1, .inl (cZ, 24, .inl T)), (q2, .inl (cJ, 24, .inr (.inl G))), (q3, .inl (cI, 24, .inl V))] := hD
          refine x_iinc (k := 3) hx hb (1) (by decide) dX0_calendarEntry_28 hl rfl (by decide) (by omega) (by omega) (fun v28 ls e28 hl => ?_)
          have hl : lv_has ls 4 [(3, .int v28), (0, .ref r0), (1, .int y), (2, .int tt)] := hl
          refine lv_goto (tgt := 2) hx hb dX0_calendarEntry_31 (by decide) ?_
          exact ih2 (i + 1) v28 _ (by omega) (by omega) (by omega) (fun j h1 h2 => by by_cases q : j = i; (subst q; rw [pk_us]; exact h24); (rw [pk_un q]; exact hfl j h1 (by omega))) (by omega) _ _ hP hD hS ls (lv_sub hl [1, 2, 3, 0] rfl)
  exact loop2 (_ + 1) 1 v0 FL (Nat.le_refl _) (Or.inr rfl) (by omega) (fun j h1 h2 => absurd h2 (by omega)) (Nat.lt_succ_self _) _ _ hP hD hS ls (lv_sub hl [1, 2, 3, 0] rfl)
--== X0_calendarEntry
