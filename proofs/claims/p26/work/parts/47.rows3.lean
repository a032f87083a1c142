/-! p26: rows that the law wants -/
theorem b_rem {a b : Int32} (h1 : 0 ≤ a.toInt) (h2 : 0 < b.toInt) : (a - a / b * b).toInt = a.toInt % b.toInt := by
  have e1 := b_div h1 h2
  have q0 := Int.ediv_nonneg h1 (Int.le_of_lt h2)
  have q1 := Int.ediv_mul_le a.toInt (show b.toInt ≠ 0 by omega)
  have q2 := Int.mul_nonneg q0 (Int.le_of_lt h2)
  have ha := b_hi a
  have e2 : (a / b * b).toInt = a.toInt / b.toInt * b.toInt := by
    rw [Int32.toInt_mul, e1]; exact Int.bmod_eq_of_le (by omega) (by omega)
  rw [b_sub (by omega) (by omega), e2, Int.emod_def, Int.mul_comm]
theorem g_td {a N B : Int} (hN : 0 < N) (h0 : 0 ≤ B) (h1 : -B ≤ a) (h2 : a ≤ B) : -B ≤ a.tdiv N ∧ a.tdiv N ≤ B := by
  by_cases q : 0 ≤ a
  · rw [Int.tdiv_eq_ediv_of_nonneg q]
    have := d_bd q hN
    omega
  · have e : a.tdiv N = -((-a) / N) := by
      rw [← Int.tdiv_eq_ediv_of_nonneg (show 0 ≤ -a by omega), Int.neg_tdiv, Int.neg_neg]
    have := d_bd (show 0 ≤ -a by omega) hN
    rw [e]; omega
theorem g_mb {t x : Int} (h1 : 0 ≤ t) (h2 : t ≤ 100000) (h3 : -1000 ≤ x) (h4 : x ≤ 1000) : -100000000 ≤ t * x ∧ t * x ≤ 100000000 := by
  have := m_bd h3 h4 h1
  rw [Int.mul_comm]
  omega
theorem g_z {x : Int32} (h : x.toInt = 0) (a : Nat → Nat) (q : Nat) : g_bt x q = htF a q 0 := by
  rw [show x = 0 from b_eq (by rw [h]; rfl)]
  exact BitVec.getLsbD_zero
theorem g_tonp {x r : Int} (h : r = tonF x) (h0 : 0 < r) : x = r := by
  have aN : aNF = -1000000000004 := rfl
  unfold tonF at h
  split at h <;> omega
theorem g_tonn {x r : Int} (h : r = tonF x) (h0 : 0 < x) (h1 : r ≤ 0 ∨ 100000 < r) : 100000 < x ∧ (r = -1000000000004 ∨ 100000 < r) := by
  have aN : aNF = -1000000000004 := rfl
  unfold tonF at h
  split at h <;> omega
theorem gb_shr0 {x y : Int32} {n : Nat} (hy : y.toInt = (n : Int)) (hn : n < 32) (h0 : 0 ≤ x.toInt) : 0 ≤ (x >>> (y &&& 31)).toInt := by
  rw [gb_nI hy (by omega)]
  show 0 ≤ (x >>> (nI n &&& 31)).toBitVec.toInt
  rw [Int32.toBitVec_shiftRight]
  show 0 ≤ (x.toBitVec.sshiftRight ((nI n &&& 31).toBitVec.smod 32).toNat).toInt
  rw [gb_sm n hn, BitVec.toInt_sshiftRight, Int.shiftRight_eq_div_pow]
  exact Int.ediv_nonneg h0 (Int.natCast_nonneg _)
theorem gb_msk (x m : Int32) (hm : m.toInt = 2147483647) : 0 ≤ (x &&& m).toInt := by
  rw [show m = 2147483647 from b_eq (by rw [hm]; rfl)]
  show 0 ≤ (x &&& 2147483647).toBitVec.toInt
  rw [Int32.toBitVec_and, BitVec.toInt_eq_toNat_of_msb (by rw [BitVec.msb_and, show (2147483647 : Int32).toBitVec.msb = false by decide, Bool.and_false])]
  exact Int.natCast_nonneg _
section XR7
variable {p : Program} {l : Launch} {e : Env} {R : Room} {s : State} {m : MethodId} {args : Array Value} {below : List Frame} {meth : Method} {c : Code} {H : Heap} {locs : List Loc} {cells slots : Nat} {Q : State → Prop} {cc : ByteArray} {pc : Nat} {ls : Array Slot} {rest : List Value}
theorem x_irem (hx : p.tables.exec = Jvm.exec) (hb : c.code = cc) {x y : Int32} (hd : decode cc pc = .ok (.irem, 1)) (N : Int) (hN : y.toInt = N) (h1 : 0 ≤ x.toInt) (h2 : 0 < N) (k : ∀ z : Int32, z.toInt = x.toInt % N → W p l e R s m args below meth c H locs cells slots Q (F0 m (pc + 1) ls (.int z :: rest))) : W p l e R s m args below meth c H locs cells slots Q (F0 m pc ls (.int y :: .int x :: rest)) := lv_irem hx hb hd (fun e => by subst e; rw [← hN] at h2; exact absurd h2 (by decide)) (k _ (by rw [← hN]; exact b_rem h1 (by omega)))
theorem x_idivT (hx : p.tables.exec = Jvm.exec) (hb : c.code = cc) {x y : Int32} (hd : decode cc pc = .ok (.idiv, 1)) (N B : Int) (hN : y.toInt = N) (h2 : 0 < N) (h0 : 0 ≤ B) (h3 : -B ≤ x.toInt) (h4 : x.toInt ≤ B) (k : ∀ z : Int32, z.toInt = x.toInt.tdiv N → -B ≤ z.toInt ∧ z.toInt ≤ B → W p l e R s m args below meth c H locs cells slots Q (F0 m (pc + 1) ls (.int z :: rest))) : W p l e R s m args below meth c H locs cells slots Q (F0 m pc ls (.int y :: .int x :: rest)) := by
  have hne : ¬ y = 0 := fun e => by subst e; rw [← hN] at h2; exact absurd h2 (by decide)
  have e : (x / y).toInt = x.toInt.tdiv N := by rw [Int32.toInt_div_of_ne_right _ _ (fun e => by subst e; rw [← hN] at h2; exact absurd h2 (by decide)), hN]
  exact lv_idiv hx hb hd hne (k _ e (by rw [e]; exact g_td h2 h0 h3 h4))
theorem x_ishr0 (hx : p.tables.exec = Jvm.exec) (hb : c.code = cc) {x y : Int32} (hd : decode cc pc = .ok (.ishr, 1)) (N : Nat) (hN : y.toInt = (N : Int)) (hn : N < 32) (h1 : 0 ≤ x.toInt) (k : ∀ z : Int32, 0 ≤ z.toInt → W p l e R s m args below meth c H locs cells slots Q (F0 m (pc + 1) ls (.int z :: rest))) : W p l e R s m args below meth c H locs cells slots Q (F0 m pc ls (.int y :: .int x :: rest)) := lv_ishr hx hb hd (k _ (gb_shr0 hN hn h1))
end XR7
/-- the script's cell, for one who only reads it -/
abbrev x_C (b L : Nat) (xs : Nat → Int32) (sz : Nat) (U : State) : Prop := U.heap.size = sz ∧ va_X b L xs U U.heap ∧ b < sz
theorem x_Cb {b L : Nat} {xs : Nat → Int32} {sz : Nat} {av : List Value} : FrameBlind (va_Pc av (x_C b L xs sz)) := fun a U g mk q => by
  obtain ⟨q0, q1, qX, q2⟩ := q
  exact ⟨q0, q1, va_X.moved (u := U) (U := U.calling g mk a) (Vm.Alike.refl U.vm) qX, q2⟩
/-- three links to a nest mate's fields, and no cells -/
abbrev x_N3 (D : va_G) (cl : List vw_C) (tys : List (ClassId × FieldType)) (sz : Nat) (w1 w2 w3 : Cond) (U : State) : Prop := U.heap.size = sz ∧ va_K D cl tys U ∧ va_Nw w1 U ∧ va_Nw w2 U ∧ va_Nw w3 U
theorem x_N3b {D : va_G} {cl : List vw_C} {tys : List (ClassId × FieldType)} {sz : Nat} {av : List Value} {w1 w2 w3 : Cond} (h1 : w1.onTables = true) (h2 : w2.onTables = true) (h3 : w3.onTables = true) : FrameBlind (va_Pc av (x_N3 D cl tys sz w1 w2 w3)) := fun a U g mk q => by
  obtain ⟨q0, q1, qK, q5, q6, q7⟩ := q
  exact ⟨q0, q1, va_K.moved (u := U) (U := U.calling g mk a) (Vm.Alike.refl U.vm) qK, va_Nw.same (u := U) h1 rfl q5, va_Nw.same (u := U) h2 rfl q6, va_Nw.same (u := U) h3 rfl q7⟩
section XE7
variable {l : Launch} {y : MethodName} {ws ws' : List Cond} {rm : Room} {Qc : Array Value → State → Outcome → State → Prop} {mc ms : Nat} {cc : ByteArray} {maxL : Nat} {ret : Option FieldType} {avs : List Value} {lvs : List (Nat × Value)} {D : va_G} {cl : List vw_C} {tys : List (ClassId × FieldType)} {sz : Nat} {own : String} {A : Nat → Prop}
theorem x_ofC {b L : Nat} {xs : Nat → Int32} (hy : plainName y.cls = true) (hw : ws = Cond.code y cc maxL ret :: ws') (hyo : y.cls = own) (hlen : (lg_sl avs).length ≤ maxL) (hlv : lv_args 0 avs = lvs)
    (body : ∀ (p : Program) (e : Env) (s : State) (m : MethodId) (args : Array Value) (below : List Frame) (meth : Method) (c : Code), p.tables.exec = Jvm.exec → c.code = cc → meth.sig.returnType = ret → c.maxLocals = maxL → s.vm.findClass own = some m.cls → (∀ w ∈ ws, w.before args s = true) → meth.locks = false → s.heap.size = sz → va_X b L xs s s.heap → b < sz → ∀ ls : Array Slot, lv_has ls maxL lvs → W p l e (headSpec ws rm).room s m args below meth c s.heap [] 0 0 (MQ below Qc args s mc ms A) (F0 m 0 ls [])) : Met l y ws rm (va_Pc avs (x_C b L xs sz)) Qc mc ms A := by
  refine Met.ofW (cc := cc) (maxL := maxL) (ret := ret) hy hw ?_
  intro p e s m args below meth c s₁ B hml hv
  obtain ⟨rfl, hsz, hX, hbl⟩ := hv
  have hl := lv_entry avs (n := maxL) hlen
  rw [hlv] at hl
  rw [lg_entry_eq]
  exact body p e s m _ below meth c B.exec B.bytes B.returns hml (by rw [← hyo]; exact findClass_of_methodNamed B.named) (atoms_spec (ws := ws) B.pre) B.notSynchronized hsz hX hbl _ hl
theorem x_ofN3 {w1 w2 w3 : Cond} (hy : plainName y.cls = true) (hw : ws = Cond.code y cc maxL ret :: ws') (hyo : y.cls = own) (hlen : (lg_sl avs).length ≤ maxL) (hlv : lv_args 0 avs = lvs)
    (body : ∀ (p : Program) (e : Env) (s : State) (m : MethodId) (args : Array Value) (below : List Frame) (meth : Method) (c : Code), p.tables.exec = Jvm.exec → c.code = cc → meth.sig.returnType = ret → c.maxLocals = maxL → s.vm.findClass own = some m.cls → (∀ w ∈ ws, w.before args s = true) → meth.locks = false → s.heap.size = sz → va_K D cl tys s → va_Nw w1 s → va_Nw w2 s → va_Nw w3 s → ∀ ls : Array Slot, lv_has ls maxL lvs → W p l e (headSpec ws rm).room s m args below meth c s.heap [] 0 0 (MQ below Qc args s mc ms A) (F0 m 0 ls [])) : Met l y ws rm (va_Pc avs (x_N3 D cl tys sz w1 w2 w3)) Qc mc ms A := by
  refine Met.ofW (cc := cc) (maxL := maxL) (ret := ret) hy hw ?_
  intro p e s m args below meth c s₁ B hml hv
  obtain ⟨rfl, hsz, hK, hN1, hN2, hN3⟩ := hv
  have hl := lv_entry avs (n := maxL) hlen
  rw [hlv] at hl
  rw [lg_entry_eq]
  exact body p e s m _ below meth c B.exec B.bytes B.returns hml (by rw [← hyo]; exact findClass_of_methodNamed B.named) (atoms_spec (ws := ws) B.pre) B.notSynchronized hsz hK hN1 hN2 hN3 _ hl
end XE7
