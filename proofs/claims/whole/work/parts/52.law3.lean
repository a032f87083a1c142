/-! THE LAW, 3: its loop -/
section LV3
variable {p : Program} {l : Launch} {e : Env} {s : State} {mi : MethodId} {below : List Frame} {meth : Method} {co : Code} {dC : Nat → ClassId} {dI : Nat → Nat → Nat} {cI cJ cZ : ClassId} {b L : Nat} {xs : Nat → Int32} {A : Nat → Prop} {xa ya : Nat → Nat}
set_option maxHeartbeats 4000000 in
set_option maxRecDepth 100000 in
/-- one turn: the call that the first int names, the same on both sides -/
theorem l_turn (C : LwC p s mi co dC dI cI cJ cZ b L xs A) {i0 : Nat} {ii v : Int32} {ls : Array Slot} (hii : ii.toInt = (i0 : Int)) (hi0 : i0 + 3 ≤ L) (ss : MS) (u : CT) (um : MTt) (H : Heap) (locs : List Loc) (hR : RC u ss) (hM : RM um ss) (hI : Inv ss) (h : LwS s dC dI cI cJ cZ A xa ya u um H locs) (hl : lv_has ls 4 [(0, .ref b), (1, .ref (xa 0)), (2, .ref (ya 0)), (3, .int ii)]) (kk : ∀ (ss : MS) (u : CT) (um : MTt) (H : Heap) (locs : List Loc), RC u ss → RM um ss → Inv ss → LwS s dC dI cI cJ cZ A xa ya u um H locs → W p l e room_1 s mi #[Value.ref b] below meth co H locs 39 2706 (lw_Z below #[Value.ref b] s) (F0 mi 728 ls [])) : W p l e room_1 s mi #[Value.ref b] below meth co H locs 39 2706 (lw_Z below #[Value.ref b] s) (F0 mi 32 ls [.int v]) := by
  have hx := C.1
  have hb := C.2.1
  rcases (show (v.toInt < 0 ∨ 22 < v.toInt) ∨ v.toInt = 0 ∨ v.toInt = 1 ∨ v.toInt = 2 ∨ v.toInt = 3 ∨ v.toInt = 4 ∨ v.toInt = 5 ∨ v.toInt = 6 ∨ v.toInt = 7 ∨ v.toInt = 8 ∨ v.toInt = 9 ∨ v.toInt = 10 ∨ v.toInt = 11 ∨ v.toInt = 12 ∨ v.toInt = 13 ∨ v.toInt = 14 ∨ v.toInt = 15 ∨ v.toInt = 16 ∨ v.toInt = 17 ∨ v.toInt = 18 ∨ v.toInt = 19 ∨ v.toInt = 20 ∨ v.toInt = 21 ∨ v.toInt = 22 by omega) with c | c | c | c | c | c | c | c | c | c | c | c | c | c | c | c | c | c | c | c | c | c | c | c
  · exact lv_tableOut (tgt := 728) hx hb dL_law_32 c (by decide) (kk ss u um H locs hR hM hI h)
  · exact lv_tableIn (off := 108) (tgt := 140) hx hb dL_law_32 (by omega) (by omega) (by rw [c]; rfl) (by decide) (lc_140 C hii hi0 ss u um H locs hR hM hI h hl kk)
  · exact lv_tableIn (off := 142) (tgt := 174) hx hb dL_law_32 (by omega) (by omega) (by rw [c]; rfl) (by decide) (lc_174 C hii hi0 ss u um H locs hR hM hI h hl kk)
  · exact lv_tableIn (off := 166) (tgt := 198) hx hb dL_law_32 (by omega) (by omega) (by rw [c]; rfl) (by decide) (lc_198 C hii hi0 ss u um H locs hR hM hI h hl kk)
  · exact lv_tableIn (off := 200) (tgt := 232) hx hb dL_law_32 (by omega) (by omega) (by rw [c]; rfl) (by decide) (lc_232 C hii hi0 ss u um H locs hR hM hI h hl kk)
  · exact lv_tableIn (off := 234) (tgt := 266) hx hb dL_law_32 (by omega) (by omega) (by rw [c]; rfl) (by decide) (lc_266 C hii hi0 ss u um H locs hR hM hI h hl kk)
  · exact lv_tableIn (off := 247) (tgt := 279) hx hb dL_law_32 (by omega) (by omega) (by rw [c]; rfl) (by decide) (lc_279 C hii hi0 ss u um H locs hR hM hI h hl kk)
  · exact lv_tableIn (off := 281) (tgt := 313) hx hb dL_law_32 (by omega) (by omega) (by rw [c]; rfl) (by decide) (lc_313 C hii hi0 ss u um H locs hR hM hI h hl kk)
  · exact lv_tableIn (off := 305) (tgt := 337) hx hb dL_law_32 (by omega) (by omega) (by rw [c]; rfl) (by decide) (lc_337 C hii hi0 ss u um H locs hR hM hI h hl kk)
  · exact lv_tableIn (off := 329) (tgt := 361) hx hb dL_law_32 (by omega) (by omega) (by rw [c]; rfl) (by decide) (lc_361 C hii hi0 ss u um H locs hR hM hI h hl kk)
  · exact lv_tableIn (off := 343) (tgt := 375) hx hb dL_law_32 (by omega) (by omega) (by rw [c]; rfl) (by decide) (lc_375 C hii hi0 ss u um H locs hR hM hI h hl kk)
  · exact lv_tableIn (off := 356) (tgt := 388) hx hb dL_law_32 (by omega) (by omega) (by rw [c]; rfl) (by decide) (lc_388 C hii hi0 ss u um H locs hR hM hI h hl kk)
  · exact lv_tableIn (off := 380) (tgt := 412) hx hb dL_law_32 (by omega) (by omega) (by rw [c]; rfl) (by decide) (lc_412 C hii hi0 ss u um H locs hR hM hI h hl kk)
  · exact lv_tableIn (off := 404) (tgt := 436) hx hb dL_law_32 (by omega) (by omega) (by rw [c]; rfl) (by decide) (lc_436 C hii hi0 ss u um H locs hR hM hI h hl kk)
  · exact lv_tableIn (off := 438) (tgt := 470) hx hb dL_law_32 (by omega) (by omega) (by rw [c]; rfl) (by decide) (lc_470 C hii hi0 ss u um H locs hR hM hI h hl kk)
  · exact lv_tableIn (off := 451) (tgt := 483) hx hb dL_law_32 (by omega) (by omega) (by rw [c]; rfl) (by decide) (lc_483 C hii hi0 ss u um H locs hR hM hI h hl kk)
  · exact lv_tableIn (off := 465) (tgt := 497) hx hb dL_law_32 (by omega) (by omega) (by rw [c]; rfl) (by decide) (lc_497 C hii hi0 ss u um H locs hR hM hI h hl kk)
  · exact lv_tableIn (off := 499) (tgt := 531) hx hb dL_law_32 (by omega) (by omega) (by rw [c]; rfl) (by decide) (lc_531 C hii hi0 ss u um H locs hR hM hI h hl kk)
  · exact lv_tableIn (off := 523) (tgt := 555) hx hb dL_law_32 (by omega) (by omega) (by rw [c]; rfl) (by decide) (lc_555 C hii hi0 ss u um H locs hR hM hI h hl kk)
  · exact lv_tableIn (off := 557) (tgt := 589) hx hb dL_law_32 (by omega) (by omega) (by rw [c]; rfl) (by decide) (lc_589 C hii hi0 ss u um H locs hR hM hI h hl kk)
  · exact lv_tableIn (off := 591) (tgt := 623) hx hb dL_law_32 (by omega) (by omega) (by rw [c]; rfl) (by decide) (lc_623 C hii hi0 ss u um H locs hR hM hI h hl kk)
  · exact lv_tableIn (off := 615) (tgt := 647) hx hb dL_law_32 (by omega) (by omega) (by rw [c]; rfl) (by decide) (lc_647 C hii hi0 ss u um H locs hR hM hI h hl kk)
  · exact lv_tableIn (off := 649) (tgt := 681) hx hb dL_law_32 (by omega) (by omega) (by rw [c]; rfl) (by decide) (lc_681 C hii hi0 ss u um H locs hR hM hI h hl kk)
  · exact lv_tableIn (off := 683) (tgt := 715) hx hb dL_law_32 (by omega) (by omega) (by rw [c]; rfl) (by decide) (lc_715 C hii hi0 ss u um H locs hR hM hI h hl kk)
set_option maxHeartbeats 4000000 in
set_option maxRecDepth 100000 in
theorem law_loop (C : LwC p s mi co dC dI cI cJ cZ b L xs A) (hA2 : ∀ q : Nat, A q → s.heap.size ≤ q) (hr : meth.sig.returnType = ret) (hlocks : meth.locks = false) : ∀ (fu i0 : Nat) (ii : Int32), i0 ≤ L → L < fu + i0 → ii.toInt = (i0 : Int) → ∀ (ss : MS) (u : CT) (um : MTt) (H : Heap) (locs : List Loc), RC u ss → RM um ss → Inv ss → LwS s dC dI cI cJ cZ A xa ya u um H locs → ∀ ls : Array Slot, lv_has ls 4 [(0, .ref b), (1, .ref (xa 0)), (2, .ref (ya 0)), (3, .int ii)] → W p l e room_1 s mi #[Value.ref b] below meth co H locs 39 2706 (lw_Z below #[Value.ref b] s) (F0 mi 18 ls []) := by
  intro fu
  induction fu with
  | zero => intro i0 ii h1 h2; exact absurd h1 (by omega)
  | succ fu ih =>
    intro i0 ii hi hf hii ss u um H locs hR hM hI h ls hl
    obtain ⟨hx, hb, hml, hown, hts, hn1, hn2, hX, hbl, hbA, hA, hK, hL⟩ := id C
    have hLe : (Int32.ofNat L).toInt = (L : Int) := b_nI (n := L) (by omega)
    refine lv_iload_n hx hb dL_law_18 rfl (lv_at hl 3 rfl) ?_
    refine lv_aload_n hx hb dL_law_19 rfl (lv_at hl 0 rfl) ?_
    refine va_slen hx hb hX hbl hbA h.2.2.2 dL_law_20 ?_
    refine x_iconst hx hb dL_law_21 (3) (by decide) (fun v21 e21 => ?_)
    refine x_isub hx hb dL_law_22 (by omega) (by omega) (fun v22 e22 => ?_)
    refine x_icmp_gt (tgt := 734) hx hb dL_law_23 (by decide) (fun c23 => ?_) (fun c23 => ?_)
    · refine lv_iconst (v := 1) hx hb dL_law_734 (by decide) ?_
      refine va_forget (fun q hq => hA2 _ (h.2.2.2.2.2 q hq)) ?_
      exact lw_ret hx hb hr hlocks dL_law_735
    · refine lv_aload_n hx hb dL_law_26 rfl (lv_at hl 0 rfl) ?_
      refine lv_iload_n hx hb dL_law_27 rfl (lv_at hl 3 rfl) ?_
      refine b_in_sld C h i0 hii (by omega) dL_law_28 ?_
      refine x_bipush hx hb dL_law_29 (31) (by decide) (fun v29 e29 => ?_)
      refine lv_iand hx hb dL_law_31 ?_
      refine lv_topi (fun v31 e31 => ?_)
      refine l_turn C hii (by omega) ss u um H locs hR hM hI h hl (fun ss u um H locs hR hM hI h => ?_)
      refine x_iinc (k := 3) hx hb (3) (by decide) dL_law_728 hl rfl (by decide) (by omega) (by omega) (fun v728 ls e728 hl => ?_)
      have hl : lv_has ls 4 [(3, .int v728), (0, .ref b), (1, .ref (xa 0)), (2, .ref (ya 0))] := hl
      refine lv_goto (tgt := 18) hx hb dL_law_731 (by decide) ?_
      exact ih (i0 + 3) v728 (by omega) (by omega) (by omega) ss u um H locs hR hM hI h ls (lv_sub hl [1, 2, 3, 0] rfl)
end LV3
