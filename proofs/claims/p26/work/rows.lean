section
/-! BASE: whole numbers of ints and longs, rows over them, entries, ends and calls in the form that this claim's contracts have. -/
theorem b_add {a b : Int32} (h1 : -2147483648 ≤ a.toInt + b.toInt) (h2 : a.toInt + b.toInt ≤ 2147483647) : (a + b).toInt = a.toInt + b.toInt := by
  rw [Int32.toInt_add]; exact Int.bmod_eq_of_le (by omega) (by omega)
theorem b_sub {a b : Int32} (h1 : -2147483648 ≤ a.toInt - b.toInt) (h2 : a.toInt - b.toInt ≤ 2147483647) : (a - b).toInt = a.toInt - b.toInt := by
  rw [Int32.toInt_sub]; exact Int.bmod_eq_of_le (by omega) (by omega)
theorem b_ladd {a b : Int64} (h1 : -9223372036854775808 ≤ a.toInt + b.toInt) (h2 : a.toInt + b.toInt ≤ 9223372036854775807) : (a + b).toInt = a.toInt + b.toInt := by
  rw [Int64.toInt_add]; exact Int.bmod_eq_of_le (by omega) (by omega)
theorem b_lsub {a b : Int64} (h1 : -9223372036854775808 ≤ a.toInt - b.toInt) (h2 : a.toInt - b.toInt ≤ 9223372036854775807) : (a - b).toInt = a.toInt - b.toInt := by
  rw [Int64.toInt_sub]; exact Int.bmod_eq_of_le (by omega) (by omega)
theorem b_lmul {a b : Int64} (h1 : -9223372036854775808 ≤ a.toInt * b.toInt) (h2 : a.toInt * b.toInt ≤ 9223372036854775807) : (a * b).toInt = a.toInt * b.toInt := by
  rw [Int64.toInt_mul]; exact Int.bmod_eq_of_le (by omega) (by omega)
theorem b_div {a b : Int32} (h1 : 0 ≤ a.toInt) (h2 : 0 < b.toInt) : (a / b).toInt = a.toInt / b.toInt := by
  rw [Int32.toInt_div_of_ne_right _ _ (fun e => by subst e; exact absurd h2 (by decide))]
  exact Int.tdiv_eq_ediv_of_nonneg h1
theorem b_ldiv {a b : Int64} (h1 : 0 ≤ a.toInt) (h2 : 0 < b.toInt) : (a / b).toInt = a.toInt / b.toInt := by
  rw [Int64.toInt_div_of_ne_right _ _ (fun e => by subst e; exact absurd h2 (by decide))]
  exact Int.tdiv_eq_ediv_of_nonneg h1
theorem b_l2i {a : Int64} (h1 : -2147483648 ≤ a.toInt) (h2 : a.toInt ≤ 2147483647) : a.toInt32.toInt = a.toInt := by
  rw [Int64.toInt_toInt32]; exact Int.bmod_eq_of_le (by omega) (by omega)
theorem b_lo (x : Int32) : -2147483648 ≤ x.toInt := by have := Int32.le_toInt x; omega
theorem b_hi (x : Int32) : x.toInt ≤ 2147483647 := by have := Int32.toInt_lt x; omega
theorem b_llo (x : Int64) : -9223372036854775808 ≤ x.toInt := by have := Int64.le_toInt x; omega
theorem b_lhi (x : Int64) : x.toInt ≤ 9223372036854775807 := by have := Int64.toInt_lt x; omega
theorem b_clamp {x : Int32} {k : Nat} (h : x.toInt = (k : Int)) : x.toNatClampNeg = k := by
  rw [← Int32.toNat_toInt, h]; rfl
theorem b_in {x : Int32} {k n : Nat} (h : x.toInt = (k : Int)) (hk : k < n) : vp_in x n := by
  intro q
  rcases q with q | q
  · rw [Int32.lt_iff_toInt_lt] at q
    have : (0 : Int32).toInt = 0 := rfl
    omega
  · rw [b_clamp h] at q; omega
theorem b_0 : (0 : Int32).toInt = 0 := rfl
theorem b_1 : (1 : Int32).toInt = 1 := rfl
theorem b_eq {x y : Int32} (h : x.toInt = y.toInt) : x = y := Int32.toInt_inj.mp h
theorem b_leq {x y : Int64} (h : x.toInt = y.toInt) : x = y := Int64.toInt_inj.mp h
theorem b_nI {n : Nat} (h : n < 2147483648) : (nI n).toInt = (n : Int) := nI_toInt (by omega)
theorem b_upd {f : Nat → Int32} {k : Nat} {x : Int32} : upd f k x k = x := pk_us
theorem b_updn {f : Nat → Int32} {k j : Nat} {x : Int32} (h : j ≠ k) : upd f k x j = f j := pk_un h
section XR
variable {p : Program} {l : Launch} {e : Env} {R : Room} {s : State} {m : MethodId} {args : Array Value} {below : List Frame} {meth : Method} {c : Code} {H : Heap} {locs : List Loc} {cells slots : Nat} {Q : State → Prop} {cc : ByteArray} {pc : Nat} {ls : Array Slot} {rest : List Value}
theorem x_iconst (hx : p.tables.exec = Jvm.exec) (hb : c.code = cc) {n : Int} (hd : decode cc pc = .ok (.iconst n, 1)) (v : Int) (hv : (Int32.ofInt n).toInt = v) (k : ∀ x : Int32, x.toInt = v → W p l e R s m args below meth c H locs cells slots Q (F0 m (pc + 1) ls (.int x :: rest))) : W p l e R s m args below meth c H locs cells slots Q (F0 m pc ls rest) := lv_iconst hx hb hd rfl (k _ hv)
theorem x_bipush (hx : p.tables.exec = Jvm.exec) (hb : c.code = cc) {n : Int} (hd : decode cc pc = .ok (.bipush n, 2)) (v : Int) (hv : (Int8.ofInt n).toInt32.toInt = v) (k : ∀ x : Int32, x.toInt = v → W p l e R s m args below meth c H locs cells slots Q (F0 m (pc + 2) ls (.int x :: rest))) : W p l e R s m args below meth c H locs cells slots Q (F0 m pc ls rest) := lv_bipush hx hb hd rfl (k _ hv)
theorem x_sipush (hx : p.tables.exec = Jvm.exec) (hb : c.code = cc) {n : Int} (hd : decode cc pc = .ok (.sipush n, 3)) (v : Int) (hv : (Int16.ofInt n).toInt32.toInt = v) (k : ∀ x : Int32, x.toInt = v → W p l e R s m args below meth c H locs cells slots Q (F0 m (pc + 3) ls (.int x :: rest))) : W p l e R s m args below meth c H locs cells slots Q (F0 m pc ls rest) := lv_sipush hx hb hd rfl (k _ hv)
theorem x_ldc (hx : p.tables.exec = Jvm.exec) (hb : c.code = cc) {own : String} {index : Nat} {n : Int32} (hown : s.vm.findClass own = some m.cls) (hc : (Jvm.Cond.constant own index n).before args s = true) (hd : decode cc pc = .ok (.ldc index, 2)) (v : Int) (hv : n.toInt = v) (k : ∀ x : Int32, x.toInt = v → W p l e R s m args below meth c H locs cells slots Q (F0 m (pc + 2) ls (.int x :: rest))) : W p l e R s m args below meth c H locs cells slots Q (F0 m pc ls rest) := lv_ldc hx hb hown hc hd (k _ hv)
theorem x_ldc2 (hx : p.tables.exec = Jvm.exec) (hb : c.code = cc) {own : String} {index : Nat} {n : Int64} (hown : s.vm.findClass own = some m.cls) (hc : (Jvm.Cond.constantLong own index n).before args s = true) (hd : decode cc pc = .ok (.ldc2_w index, 3)) (v : Int) (hv : n.toInt = v) (k : ∀ x : Int64, x.toInt = v → W p l e R s m args below meth c H locs cells slots Q (F0 m (pc + 3) ls (.long x :: rest))) : W p l e R s m args below meth c H locs cells slots Q (F0 m pc ls rest) := lv_ldc2 hx hb hown hc hd (k _ hv)
theorem x_lconst (hx : p.tables.exec = Jvm.exec) (hb : c.code = cc) {n : Fin 2} (hd : decode cc pc = .ok (.lconst n, 1)) (v : Int) (hv : (Int64.ofNat (n : Nat)).toInt = v) (k : ∀ x : Int64, x.toInt = v → W p l e R s m args below meth c H locs cells slots Q (F0 m (pc + 1) ls (.long x :: rest))) : W p l e R s m args below meth c H locs cells slots Q (F0 m pc ls rest) := lv_lconst hx hb hd rfl (k _ hv)
theorem x_iadd (hx : p.tables.exec = Jvm.exec) (hb : c.code = cc) {x y : Int32} (hd : decode cc pc = .ok (.iadd, 1)) (h1 : -2147483648 ≤ x.toInt + y.toInt) (h2 : x.toInt + y.toInt ≤ 2147483647) (k : ∀ z : Int32, z.toInt = x.toInt + y.toInt → W p l e R s m args below meth c H locs cells slots Q (F0 m (pc + 1) ls (.int z :: rest))) : W p l e R s m args below meth c H locs cells slots Q (F0 m pc ls (.int y :: .int x :: rest)) := lv_iadd hx hb hd (k _ (b_add h1 h2))
theorem x_isub (hx : p.tables.exec = Jvm.exec) (hb : c.code = cc) {x y : Int32} (hd : decode cc pc = .ok (.isub, 1)) (h1 : -2147483648 ≤ x.toInt - y.toInt) (h2 : x.toInt - y.toInt ≤ 2147483647) (k : ∀ z : Int32, z.toInt = x.toInt - y.toInt → W p l e R s m args below meth c H locs cells slots Q (F0 m (pc + 1) ls (.int z :: rest))) : W p l e R s m args below meth c H locs cells slots Q (F0 m pc ls (.int y :: .int x :: rest)) := lv_isub hx hb hd (k _ (b_sub h1 h2))
theorem x_idiv (hx : p.tables.exec = Jvm.exec) (hb : c.code = cc) {x y : Int32} (hd : decode cc pc = .ok (.idiv, 1)) (h1 : 0 ≤ x.toInt) (h2 : 0 < y.toInt) (k : ∀ z : Int32, z.toInt = x.toInt / y.toInt → W p l e R s m args below meth c H locs cells slots Q (F0 m (pc + 1) ls (.int z :: rest))) : W p l e R s m args below meth c H locs cells slots Q (F0 m pc ls (.int y :: .int x :: rest)) := lv_idiv hx hb hd (fun e => by subst e; exact absurd h2 (by decide)) (k _ (b_div h1 h2))
theorem x_ladd (hx : p.tables.exec = Jvm.exec) (hb : c.code = cc) {x y : Int64} (hd : decode cc pc = .ok (.ladd, 1)) (h1 : -9223372036854775808 ≤ x.toInt + y.toInt) (h2 : x.toInt + y.toInt ≤ 9223372036854775807) (k : ∀ z : Int64, z.toInt = x.toInt + y.toInt → W p l e R s m args below meth c H locs cells slots Q (F0 m (pc + 1) ls (.long z :: rest))) : W p l e R s m args below meth c H locs cells slots Q (F0 m pc ls (.long y :: .long x :: rest)) := lv_ladd hx hb hd (k _ (b_ladd h1 h2))
theorem x_lsub (hx : p.tables.exec = Jvm.exec) (hb : c.code = cc) {x y : Int64} (hd : decode cc pc = .ok (.lsub, 1)) (h1 : -9223372036854775808 ≤ x.toInt - y.toInt) (h2 : x.toInt - y.toInt ≤ 9223372036854775807) (k : ∀ z : Int64, z.toInt = x.toInt - y.toInt → W p l e R s m args below meth c H locs cells slots Q (F0 m (pc + 1) ls (.long z :: rest))) : W p l e R s m args below meth c H locs cells slots Q (F0 m pc ls (.long y :: .long x :: rest)) := lv_lsub hx hb hd (k _ (b_lsub h1 h2))
theorem x_lmul (hx : p.tables.exec = Jvm.exec) (hb : c.code = cc) {x y : Int64} (hd : decode cc pc = .ok (.lmul, 1)) (h1 : -9223372036854775808 ≤ x.toInt * y.toInt) (h2 : x.toInt * y.toInt ≤ 9223372036854775807) (k : ∀ z : Int64, z.toInt = x.toInt * y.toInt → W p l e R s m args below meth c H locs cells slots Q (F0 m (pc + 1) ls (.long z :: rest))) : W p l e R s m args below meth c H locs cells slots Q (F0 m pc ls (.long y :: .long x :: rest)) := lv_lmul hx hb hd (k _ (b_lmul h1 h2))
theorem x_ldiv (hx : p.tables.exec = Jvm.exec) (hb : c.code = cc) {x y : Int64} (hd : decode cc pc = .ok (.ldiv, 1)) (h1 : 0 ≤ x.toInt) (h2 : 0 < y.toInt) (k : ∀ z : Int64, z.toInt = x.toInt / y.toInt → W p l e R s m args below meth c H locs cells slots Q (F0 m (pc + 1) ls (.long z :: rest))) : W p l e R s m args below meth c H locs cells slots Q (F0 m pc ls (.long y :: .long x :: rest)) := lv_ldiv hx hb hd (fun e => by subst e; exact absurd h2 (by decide)) (k _ (b_ldiv h1 h2))
theorem x_i2l (hx : p.tables.exec = Jvm.exec) (hb : c.code = cc) {x : Int32} (hd : decode cc pc = .ok (.i2l, 1)) (k : ∀ z : Int64, z.toInt = x.toInt → W p l e R s m args below meth c H locs cells slots Q (F0 m (pc + 1) ls (.long z :: rest))) : W p l e R s m args below meth c H locs cells slots Q (F0 m pc ls (.int x :: rest)) := lv_i2l hx hb hd rfl (k _ (Int32.toInt_toInt64 x))
theorem x_l2i (hx : p.tables.exec = Jvm.exec) (hb : c.code = cc) {x : Int64} (hd : decode cc pc = .ok (.l2i, 1)) (h1 : -2147483648 ≤ x.toInt) (h2 : x.toInt ≤ 2147483647) (k : ∀ z : Int32, z.toInt = x.toInt → W p l e R s m args below meth c H locs cells slots Q (F0 m (pc + 1) ls (.int z :: rest))) : W p l e R s m args below meth c H locs cells slots Q (F0 m pc ls (.long x :: rest)) := lv_l2i hx hb hd rfl (k _ (b_l2i h1 h2))
theorem x_iinc (hx : p.tables.exec = Jvm.exec) (hb : c.code = cc) {i nL k : Nat} {n : Int} {x : Int32} {lv : List (Nat × Value)} (d : Int) (hd0 : (Int32.ofInt n).toInt = d) (hd : decode cc pc = .ok (.iinc i n, 3)) (h : lv_has ls nL lv) (hk : lv[k]? = some (i, .int x)) (hn : i < nL) (h1 : -2147483648 ≤ x.toInt + d) (h2 : x.toInt + d ≤ 2147483647)
    (kk : ∀ (v : Int32) (ls' : Array Slot), v.toInt = x.toInt + d → lv_has ls' nL ((i, Value.int v) :: lv.filter (fun q => !(q.1 == i) && !(q.1 + 1 == i && q.2.category == 2))) → W p l e R s m args below meth c H locs cells slots Q (F0 m (pc + 3) ls' rest)) : W p l e R s m args below meth c H locs cells slots Q (F0 m pc ls rest) := lv_iinc hx hb hd h hk rfl hn rfl (fun ls' h' => kk _ ls' (by rw [b_add (by omega) (by omega), hd0]) h')
end XR
end
section
/-! THE MATHEMATICAL STATE: points 0 .. 23 (th: is there one), each on a line of height h p and velocity v p; what is asked of them at a time t. -/
def LOK (T : Nat → Int32) (G : Nat → Int64) (V : Nat → Int32) (th : Nat → Bool) (h v : Nat → Int) : Prop :=
  ∀ p : Nat, p < 24 → (th p = true → (T p).toInt = 1 ∧ (G p).toInt = h p ∧ (V p).toInt = v p ∧ -1000 ≤ v p ∧ v p ≤ 1000 ∧ -300000000 ≤ h p ∧ h p ≤ 300000000) ∧ (th p = false → (T p).toInt = 0)
/-- a is before b at t -/
abbrev bef (h v : Nat → Int) (t : Int) (a b : Nat) : Prop := h a + v a * t < h b + v b * t ∨ (h a + v a * t = h b + v b * t ∧ a < b)
/-- the time at which a gap is closed, 1000001 for never -/
def cro (t g c : Int) : Int := if t + (g + c - 1) / c > 1000000 then 1000001 else t + (g + c - 1) / c
/-- the least time from t on at which a is not before b -/
def eoo (h v : Nat → Int) (t : Int) (a b : Nat) : Int := if bef h v t a b then (if v a ≤ v b then 1000001 else cro t ((h b + v b * t) - (h a + v a * t) + (if a < b then 1 else 0)) (v a - v b)) else t
/-- the first point of those below n, or -1 -/
def tpF (th : Nat → Bool) (h v : Nat → Int) (t : Int) : Nat → Int
  | 0 => -1
  | n + 1 => if th n = true ∧ (tpF th h v t n = -1 ∨ bef h v t n (tpF th h v t n).toNat) then (n : Int) else tpF th h v t n
/-- the least end of the order of f and another point below n -/
def nxF (th : Nat → Bool) (h v : Nat → Int) (t : Int) (f : Int) : Nat → Int
  | 0 => 1000001
  | n + 1 => if th n = true ∧ (n : Int) ≠ f then min (nxF th h v t f n) (eoo h v t f.toNat n) else nxF th h v t f n
/-- how many points below n are before p -/
def rkF (th : Nat → Bool) (h v : Nat → Int) (t : Int) (p : Nat) : Nat → Nat
  | 0 => 0
  | n + 1 => rkF th h v t p n + (if th n = true ∧ bef h v t n p then 1 else 0)
def cntF (th : Nat → Bool) : Nat → Nat
  | 0 => 0
  | n + 1 => cntF th n + (if th n = true then 1 else 0)
def updB (f : Nat → Bool) (k : Nat) (x : Bool) : Nat → Bool := fun j => if j = k then x else f j
def updN (f : Nat → Int) (k : Nat) (x : Int) : Nat → Int := fun j => if j = k then x else f j
theorem tp_rng (th : Nat → Bool) (h v : Nat → Int) (t : Int) : ∀ n : Nat, tpF th h v t n = -1 ∨ (0 ≤ tpF th h v t n ∧ tpF th h v t n < n ∧ th (tpF th h v t n).toNat = true) := by
  intro n
  induction n with
  | zero => exact Or.inl rfl
  | succ n ih =>
    unfold tpF
    by_cases hc : th n = true ∧ (tpF th h v t n = -1 ∨ bef h v t n (tpF th h v t n).toNat)
    · rw [if_pos hc]
      refine Or.inr ⟨by omega, by omega, ?_⟩
      rw [show ((n : Int)).toNat = n from rfl]
      exact hc.1
    · rw [if_neg hc]
      rcases ih with q | ⟨q1, q2, q3⟩
      · exact Or.inl q
      · exact Or.inr ⟨q1, by omega, q3⟩
theorem cnt_le (th : Nat → Bool) : ∀ n : Nat, cntF th n ≤ n := by
  intro n
  induction n with
  | zero => exact Nat.le_refl _
  | succ n ih => unfold cntF; split <;> omega
theorem rk_le (th : Nat → Bool) (h v : Nat → Int) (t : Int) (p : Nat) : ∀ n : Nat, rkF th h v t p n ≤ n := by
  intro n
  induction n with
  | zero => exact Nat.le_refl _
  | succ n ih => unfold rkF; split <;> omega
theorem cnt_set (th : Nat → Bool) (k : Nat) (x : Bool) : ∀ n : Nat, (cntF (updB th k x) n : Int) = cntF th n + (if k < n then (if x = true then 1 else 0) - (if th k = true then 1 else 0) else 0) := by
  intro n
  induction n with
  | zero => simp [cntF]
  | succ n ih =>
    by_cases e : n = k
    · subst e
      have e1 : cntF (updB th n x) (n + 1) = cntF (updB th n x) n + (if x = true then 1 else 0) := by
        show cntF (updB th n x) n + (if updB th n x n = true then 1 else 0) = _
        simp [updB]
      have e2 : cntF th (n + 1) = cntF th n + (if th n = true then 1 else 0) := rfl
      rw [if_neg (Nat.lt_irrefl n)] at ih
      rw [e1, e2, if_pos (Nat.lt_succ_self n)]
      clear e1 e2
      cases x <;> cases hh : th n <;> simp <;> omega
    · have e1 : cntF (updB th k x) (n + 1) = cntF (updB th k x) n + (if th n = true then 1 else 0) := by
        show cntF (updB th k x) n + (if updB th k x n = true then 1 else 0) = _
        simp [updB, e]
      have e2 : cntF th (n + 1) = cntF th n + (if th n = true then 1 else 0) := rfl
      rw [e1, e2]
      by_cases hk : k < n
      · have hk2 : k < n + 1 := by omega
        rw [if_pos hk] at ih
        rw [if_pos hk2]; omega
      · have hk2 : ¬ k < n + 1 := by omega
        rw [if_neg hk] at ih
        rw [if_neg hk2]; omega
theorem m_bd {x t : Int} (h1 : -1000 ≤ x) (h2 : x ≤ 1000) (h3 : 0 ≤ t) : -1000 * t ≤ x * t ∧ x * t ≤ 1000 * t := by
  constructor
  · exact Int.mul_le_mul_of_nonneg_right h1 h3
  · exact Int.mul_le_mul_of_nonneg_right h2 h3
theorem d_bd {x y : Int} (h1 : 0 ≤ x) (h2 : 0 < y) : 0 ≤ x / y ∧ x / y ≤ x := ⟨Int.ediv_nonneg h1 (Int.le_of_lt h2), Int.ediv_le_self _ h1⟩
theorem tp_none (th : Nat → Bool) (h v : Nat → Int) (t : Int) : ∀ n : Nat, tpF th h v t n = -1 → ∀ i, i < n → th i = false := by
  intro n
  induction n with
  | zero => intro _ i hi; exact absurd hi (Nat.not_lt_zero _)
  | succ n ih =>
    intro hn i hi
    unfold tpF at hn
    by_cases hc : th n = true ∧ (tpF th h v t n = -1 ∨ bef h v t n (tpF th h v t n).toNat)
    · rw [if_pos hc] at hn; omega
    · rw [if_neg hc] at hn
      rcases Nat.lt_or_eq_of_le (Nat.lt_succ_iff.mp hi) with q | q
      · exact ih hn i q
      · subst q
        cases q : th i with
        | false => rfl
        | true => exact absurd ⟨q, Or.inl hn⟩ hc
theorem lok_set {T T' : Nat → Int32} {G : Nat → Int64} {V : Nat → Int32} {th : Nat → Bool} {h v : Nat → Int} {p : Nat} {y : Int64} {z : Int32} (hL : LOK T G V th h v) (hp : p < 24) (hT : (T' = T ∧ (T p).toInt = 1) ∨ (∃ o : Int32, T' = upd T p o ∧ o.toInt = 1)) (hy1 : -300000000 ≤ y.toInt) (hy2 : y.toInt ≤ 300000000) (hz1 : -1000 ≤ z.toInt) (hz2 : z.toInt ≤ 1000) : LOK T' (vp_updL G p y) (upd V p z) (updB th p true) (updN h p y.toInt) (updN v p z.toInt) := by
  intro k hk
  by_cases e : k = p
  · subst e
    have e1 : (T' k).toInt = 1 := by
      rcases hT with ⟨h1, h2⟩ | ⟨o, h1, h2⟩
      · rw [h1]; exact h2
      · rw [h1, pk_us]; exact h2
    refine ⟨fun _ => ?_, fun q => ?_⟩
    · rw [pk_uLs, pk_us]
      have u1 : updN h k y.toInt k = y.toInt := by simp [updN]
      have u2 : updN v k z.toInt k = z.toInt := by simp [updN]
      rw [u1, u2]
      exact ⟨e1, rfl, rfl, hz1, hz2, hy1, hy2⟩
    · simp [updB] at q
  · have e1 : T' k = T k := by
      rcases hT with ⟨h1, h2⟩ | ⟨o, h1, h2⟩
      · rw [h1]
      · rw [h1, pk_un e]
    have := hL k hk
    simp only [updB, updN, if_neg e]
    rw [pk_uLn e, pk_un e, e1]
    exact this
theorem lok_drop {T : Nat → Int32} {G : Nat → Int64} {V : Nat → Int32} {th : Nat → Bool} {h v : Nat → Int} {p : Nat} {o : Int32} (hL : LOK T G V th h v) (ho : o.toInt = 0) : LOK (upd T p o) G V (updB th p false) h v := by
  intro k hk
  by_cases e : k = p
  · subst e
    refine ⟨fun q => ?_, fun q => ?_⟩
    · simp [updB] at q
    · rw [pk_us]; exact ho
  · simp only [updB, if_neg e]
    rw [pk_un e]
    exact hL k hk
theorem lok_cp {T T' : Nat → Int32} {G G' : Nat → Int64} {V V' : Nat → Int32} {th : Nat → Bool} {h v : Nat → Int} (hL : LOK T' G' V' th h v) (hc : ∀ p : Nat, p < 24 → T p = T' p ∧ G p = G' p ∧ V p = V' p) : LOK T G V th h v := by
  intro k hk
  obtain ⟨h1, h2, h3⟩ := hc k hk
  rw [h1, h2, h3]
  exact hL k hk
theorem cp_step {T T' : Nat → Int32} {G G' : Nat → Int64} {V V' : Nat → Int32} {i : Nat} (hc : ∀ p : Nat, p < i → T p = T' p ∧ G p = G' p ∧ V p = V' p) : ∀ p : Nat, p < i + 1 → upd T i (T' i) p = T' p ∧ vp_updL G i (G' i) p = G' p ∧ upd V i (V' i) p = V' p := by
  intro p hp
  by_cases e : p = i
  · subst e; exact ⟨pk_us, pk_uLs, pk_us⟩
  · rw [pk_un e, pk_uLn e, pk_un e]; exact hc p (by omega)
end
section
/-! the heap's places (a k: the point at place k, n of them), failures, settling -/
def HK (PB PL : Nat → Int32) (F : Int32) (a : Nat → Nat) (n : Nat) : Prop := F.toInt = (n : Int) ∧ n ≤ 24 ∧ ∀ k : Nat, k < n → (PB k).toInt = (a k : Int) ∧ a k < 24 ∧ (PL (a k)).toInt = (k : Int)
def updA (f : Nat → Nat) (k : Nat) (x : Nat) : Nat → Nat := fun j => if j = k then x else f j
def er (h v : Nat → Int) (t : Int) (a : Nat → Nat) (k : Nat) : Int := eoo h v t (a ((k - 1) / 2)) (a k)
/-- the least failure of the certificates below k -/
def nfF (h v : Nat → Int) (t : Int) (a : Nat → Nat) : Nat → Int
  | 0 => 1000001
  | k + 1 => if 1 ≤ k then min (nfF h v t a k) (er h v t a k) else 1000001
/-- the first broken certificate below k, or 0 -/
def bkF (h v : Nat → Int) (t : Int) (a : Nat → Nat) : Nat → Nat
  | 0 => 0
  | k + 1 => if bkF h v t a k ≠ 0 then bkF h v t a k else if 1 ≤ k ∧ ¬ bef h v t (a ((k - 1) / 2)) (a k) then k else 0
def sw (a : Nat → Nat) (i j : Nat) : Nat → Nat := fun k => if k = i then a j else if k = j then a i else a k
def xch (s : (Nat → Nat) × Int64 × Int64) (k : Nat) : (Nat → Nat) × Int64 × Int64 := (sw s.1 ((k - 1) / 2) k, s.2.1 + 1, if (k - 1) / 2 = 0 then s.2.2 + 1 else s.2.2)
def stl (h v : Nat → Int) (t : Int) (n : Nat) : Nat → (Nat → Nat) × Int64 × Int64 → (Nat → Nat) × Int64 × Int64
  | 0, s => s
  | f + 1, s => if bkF h v t s.1 n = 0 then s else stl h v t n f (xch s (bkF h v t s.1 n))
theorem hk_inj {PB PL : Nat → Int32} {F : Int32} {a : Nat → Nat} {n : Nat} (hH : HK PB PL F a n) {i j : Nat} (hi : i < n) (hj : j < n) (e : a i = a j) : i = j := by
  have h1 := (hH.2.2 i hi).2.2
  have h2 := (hH.2.2 j hj).2.2
  rw [e] at h1
  omega
theorem hk_app {PB PL : Nat → Int32} {F F' : Int32} {a : Nat → Nat} {n : Nat} (hH : HK PB PL F a n) (hF : F.toInt = (n : Int)) {x : Int32} {p : Nat} (hxp : x.toInt = (p : Int)) (hp : p < 24) (hn : n < 24) (hF' : F'.toInt = ((n + 1 : Nat) : Int)) (hno : ∀ k : Nat, k < n → a k ≠ p) : HK (upd PB n x) (upd PL p F) F' (updA a n p) (n + 1) := by
  refine ⟨hF', by omega, fun k hk => ?_⟩
  by_cases e : k = n
  · subst e
    have e1 : updA a k p k = p := by simp [updA]
    rw [e1, pk_us, pk_us]
    exact ⟨hxp, hp, hF⟩
  · have e1 : updA a n p k = a k := by simp [updA, e]
    have hk2 : k < n := by omega
    rw [e1, pk_un e, pk_un (hno k hk2)]
    exact hH.2.2 k hk2
theorem hk_take {PB PL : Nat → Int32} {F F' : Int32} {a : Nat → Nat} {n k : Nat} (hH : HK PB PL F a n) {x y : Int32} (hx : x.toInt = (k : Int)) (hy : y.toInt = (a (n - 1) : Int)) (hk : k < n) (hF' : F'.toInt = ((n - 1 : Nat) : Int)) : HK (upd PB k y) (upd PL (a (n - 1)) x) F' (updA a k (a (n - 1))) (n - 1) := by
  refine ⟨hF', by have := hH.2.1; omega, fun j hj => ?_⟩
  by_cases e : j = k
  · subst e
    have e1 : updA a j (a (n - 1)) j = a (n - 1) := by simp [updA]
    rw [e1, pk_us, pk_us]
    exact ⟨hy, (hH.2.2 (n - 1) (by omega)).2.1, hx⟩
  · have e1 : updA a k (a (n - 1)) j = a j := by simp [updA, e]
    have e2 : a j ≠ a (n - 1) := fun q => by
      have := hk_inj hH (show j < n by omega) (show n - 1 < n by omega) q
      omega
    rw [e1, pk_un e, pk_un e2]
    exact hH.2.2 j (by omega)
theorem hk_sw {PB PL : Nat → Int32} {F : Int32} {a : Nat → Nat} {n k : Nat} (hH : HK PB PL F a n) {x v1 v7 v15 : Int32} (h1 : v1.toInt = (((k - 1) / 2 : Nat) : Int)) (hxk : x.toInt = (k : Int)) (h7 : v7.toInt = (a ((k - 1) / 2) : Int)) (h15 : v15.toInt = (a k : Int)) (hkn : k < n) (hk1 : 1 ≤ k) : HK (upd (upd PB ((k - 1) / 2) v15) k v7) (upd (upd PL (a k) v1) (a ((k - 1) / 2)) x) F (sw a ((k - 1) / 2) k) n := by
  obtain ⟨i, hi⟩ : ∃ i, i = (k - 1) / 2 := ⟨_, rfl⟩
  rw [← hi] at h1 h7 ⊢
  have hik : i < k := by omega
  have hpi := hH.2.2 i (by omega)
  have hpk := hH.2.2 k hkn
  refine ⟨hH.1, hH.2.1, fun j hj => ?_⟩
  by_cases e : j = k
  · subst e
    have e1 : sw a i j j = a i := by show (if j = i then a j else if j = j then a i else a j) = a i; rw [if_neg (by omega), if_pos rfl]
    rw [e1, pk_us, pk_us]
    exact ⟨h7, hpi.2.1, hxk⟩
  · by_cases e2 : j = i
    · subst e2
      have e1 : sw a j k j = a k := by show (if j = j then a k else if j = k then a j else a j) = a k; rw [if_pos rfl]
      have e3 : a k ≠ a j := fun q => by have := hk_inj hH hkn hj q; omega
      rw [e1, pk_un e, pk_us, pk_un e3, pk_us]
      exact ⟨h15, hpk.2.1, h1⟩
    · have e1 : sw a i k j = a j := by simp only [sw]; rw [if_neg e2, if_neg e]
      have e3 : a j ≠ a k := fun q => by have := hk_inj hH hj hkn q; omega
      have e4 : a j ≠ a i := fun q => by have := hk_inj hH hj (show i < n by omega) q; omega
      rw [e1, pk_un e, pk_un e2, pk_un e4, pk_un e3]
      exact hH.2.2 j hj
theorem sw_in {P : Nat → Prop} {a : Nat → Nat} {n i k : Nat} (hP : ∀ j : Nat, j < n → P (a j)) (hi : i < n) (hk : k < n) : ∀ j : Nat, j < n → P (sw a i k j) := by
  intro j hj
  simp only [sw]
  split
  · exact hP k hk
  · split
    · exact hP i hi
    · exact hP j hj
theorem ht_sw {th : Nat → Bool} {a : Nat → Nat} {n k : Nat} (hT : ∀ j : Nat, j < n → th (a j) = true) (hk : k < n) (hk1 : 1 ≤ k) : ∀ j : Nat, j < n → th (sw a ((k - 1) / 2) k j) = true   := sw_in (P := fun x => th x = true) hT (show (k - 1) / 2 < n by omega) hk
theorem bk_lt (h v : Nat → Int) (t : Int) (a : Nat → Nat) : ∀ n : Nat, bkF h v t a n = 0 ∨ (1 ≤ bkF h v t a n ∧ bkF h v t a n < n) := by
  intro n
  induction n with
  | zero => exact Or.inl rfl
  | succ n ih =>
    unfold bkF
    split
    · omega
    · split <;> omega
theorem bk_mono {h v : Nat → Int} {t : Int} {a : Nat → Nat} {k : Nat} : ∀ n : Nat, k ≤ n → bkF h v t a k ≠ 0 → bkF h v t a n = bkF h v t a k := by
  intro n
  induction n with
  | zero => intro h1 h2; rw [show k = 0 by omega]
  | succ n ih =>
    intro h1 h2
    rcases Nat.lt_or_eq_of_le h1 with q | q
    · have e := ih (by omega) h2
      show (if bkF h v t a n ≠ 0 then bkF h v t a n else _) = _
      rw [if_pos (by rw [e]; exact h2), e]
    · rw [q]
theorem bk_at {h v : Nat → Int} {t : Int} {a : Nat → Nat} {i n : Nat} (h0 : bkF h v t a i = 0) (h1 : 1 ≤ i) (hn : i < n) (hb : ¬ bef h v t (a ((i - 1) / 2)) (a i)) : bkF h v t a n = i := by
  have e : bkF h v t a (i + 1) = i := by
    show (if bkF h v t a i ≠ 0 then bkF h v t a i else if 1 ≤ i ∧ ¬ bef h v t (a ((i - 1) / 2)) (a i) then i else 0) = i
    rw [if_neg (by omega), if_pos ⟨h1, hb⟩]
  rw [bk_mono (k := i + 1) n (by omega) (by omega), e]
/-- none is broken below n -/
theorem bk_none {h v : Nat → Int} {t : Int} {a : Nat → Nat} : ∀ n : Nat, bkF h v t a n = 0 → ∀ k : Nat, 1 ≤ k → k < n → bef h v t (a ((k - 1) / 2)) (a k) := by
  intro n
  induction n with
  | zero => intro _ k _ hk; exact absurd hk (Nat.not_lt_zero _)
  | succ n ih =>
    intro h0 k h1 hk
    have h0' : (if bkF h v t a n ≠ 0 then bkF h v t a n else if 1 ≤ n ∧ ¬ bef h v t (a ((n - 1) / 2)) (a n) then n else 0) = 0 := h0
    by_cases q : bkF h v t a n = 0
    · rw [if_neg (by omega)] at h0'
      rcases Nat.lt_or_eq_of_le (Nat.lt_succ_iff.mp hk) with z | z
      · exact ih q k h1 z
      · subst z
        by_cases y : bef h v t (a ((k - 1) / 2)) (a k)
        · exact y
        · rw [if_pos ⟨h1, y⟩] at h0'; omega
    · rw [if_pos q] at h0'; omega
/-- the one found is broken, and those below it are not -/
theorem bk_spec {h v : Nat → Int} {t : Int} {a : Nat → Nat} : ∀ n : Nat, bkF h v t a n ≠ 0 → ¬ bef h v t (a ((bkF h v t a n - 1) / 2)) (a (bkF h v t a n)) := by
  intro n
  induction n with
  | zero => intro h0; exact absurd rfl h0
  | succ n ih =>
    intro h0
    by_cases q : bkF h v t a n = 0
    · by_cases y : 1 ≤ n ∧ ¬ bef h v t (a ((n - 1) / 2)) (a n)
      · have e : bkF h v t a (n + 1) = n := by
          show (if bkF h v t a n ≠ 0 then bkF h v t a n else if 1 ≤ n ∧ ¬ bef h v t (a ((n - 1) / 2)) (a n) then n else 0) = n
          rw [if_neg (by omega), if_pos y]
        rw [e]; exact y.2
      · have e : bkF h v t a (n + 1) = 0 := by
          show (if bkF h v t a n ≠ 0 then bkF h v t a n else if 1 ≤ n ∧ ¬ bef h v t (a ((n - 1) / 2)) (a n) then n else 0) = 0
          rw [if_neg (by omega), if_neg y]
        exact absurd e h0
    · have e : bkF h v t a (n + 1) = bkF h v t a n := by
        show (if bkF h v t a n ≠ 0 then bkF h v t a n else _) = _
        rw [if_pos q]
      rw [e]; exact ih q
theorem stl_step {h v : Nat → Int} {t : Int} {n i : Nat} {b : Nat → Nat} {E X : Int64} (hi : i < 276) (hb : bkF h v t b n ≠ 0) : stl h v t n (276 - i) (b, E, X) = stl h v t n (276 - (i + 1)) (sw b ((bkF h v t b n - 1) / 2) (bkF h v t b n), E + 1, if (bkF h v t b n - 1) / 2 = 0 then X + 1 else X) := by
  rw [show 276 - i = (276 - (i + 1)) + 1 by omega]
  show (if bkF h v t b n = 0 then _ else _) = _
  rw [if_neg hb]
  rfl
theorem stl_stop {h v : Nat → Int} {t : Int} {n f : Nat} {b : Nat → Nat} {E X : Int64} (hb : bkF h v t b n = 0) : stl h v t n f (b, E, X) = (b, E, X) := by
  cases f with
  | zero => rfl
  | succ f =>
    show (if bkF h v t b n = 0 then _ else _) = _
    rw [if_pos hb]
end
section
/-! the calendar, and the log of operations: O i = (time, point, does it stay, height, velocity) -/
def clF (h v : Nat → Int) (t : Int) (a : Nat → Nat) : Nat → Nat
  | 0 => 0
  | k + 1 => clF h v t a k + (if 1 ≤ k ∧ er h v t a k ≠ 1000001 then 1 else 0)
/-- how many certificates below j fail before f, or at f with a lower number than k -/
def etF (g : Nat → Int) (k : Nat) (f : Int) : Nat → Nat
  | 0 => 0
  | j + 1 => etF g k f j + (if 1 ≤ j ∧ (g j < f ∨ (g j = f ∧ j < k)) then 1 else 0)
theorem cl_le (h v : Nat → Int) (t : Int) (a : Nat → Nat) : ∀ n : Nat, clF h v t a n ≤ n := by
  intro n
  induction n with
  | zero => exact Nat.le_refl _
  | succ n ih => unfold clF; split <;> omega
theorem et_le (g : Nat → Int) (k : Nat) (f : Int) : ∀ n : Nat, etF g k f n ≤ n := by
  intro n
  induction n with
  | zero => exact Nat.le_refl _
  | succ n ih => unfold etF; split <;> omega
def CE (g : Nat → Int) (n : Nat) (x : Int) (k : Nat) : Prop := 1 ≤ k ∧ k < n ∧ g k ≠ 1000001 ∧ (etF g k (g k) n : Int) = x
theorem et_congr {g g' : Nat → Int} {k : Nat} {f : Int} : ∀ n : Nat, (∀ j : Nat, 1 ≤ j → j < n → g j = g' j) → etF g k f n = etF g' k f n := by
  intro n
  induction n with
  | zero => intro _; rfl
  | succ n ih =>
    intro hg
    unfold etF
    rw [ih (fun j h1 h2 => hg j h1 (by omega))]
    by_cases q : 1 ≤ n
    · rw [hg n q (by omega)]
    · rw [if_neg (fun z => q z.1), if_neg (fun z => q z.1)]
abbrev OpT : Type := Int × Nat × Bool × Int × Int
abbrev LinT : Type := (Nat → Bool) × (Nat → Int) × (Nat → Int)
def apO (s : LinT) (o : OpT) : LinT := if o.2.2.1 = true then (updB s.1 o.2.1 true, updN s.2.1 o.2.1 o.2.2.2.1, updN s.2.2 o.2.1 o.2.2.2.2) else (updB s.1 o.2.1 false, s.2.1, s.2.2)
def rp (B : LinT) (O : Nat → OpT) : Nat → LinT
  | 0 => B
  | i + 1 => apO (rp B O i) (O i)
def OPK (wh wi sy : Nat → Int32) (hh : Nat → Int64) (vv : Nat → Int32) (M : Int32) (O : Nat → OpT) (m : Nat) : Prop := M.toInt = (m : Int) ∧ m ≤ 200 ∧ ∀ i : Nat, i < m → (wh i).toInt = (O i).1 ∧ 0 ≤ (O i).1 ∧ (O i).1 ≤ 100000 ∧ (wi i).toInt = ((O i).2.1 : Int) ∧ (O i).2.1 < 24 ∧ ((O i).2.2.1 = true → (sy i).toInt = 1 ∧ (hh i).toInt = (O i).2.2.2.1 ∧ (vv i).toInt = (O i).2.2.2.2 ∧ -300000000 ≤ (O i).2.2.2.1 ∧ (O i).2.2.2.1 ≤ 300000000 ∧ -1000 ≤ (O i).2.2.2.2 ∧ (O i).2.2.2.2 ≤ 1000) ∧ ((O i).2.2.1 = false → (sy i).toInt = 0)
/-- r operations are those up to t -/
def IsC (O : Nat → OpT) (m : Nat) (t : Int) (r : Nat) : Prop := r ≤ m ∧ (∀ i : Nat, i < r → (O i).1 ≤ t) ∧ (r < m → t < (O r).1)
def updO (O : Nat → OpT) (m : Nat) (o : OpT) : Nat → OpT := fun i => if i = m then o else O i
theorem rp_t {B : LinT} {O : Nat → OpT} {i : Nat} (ho : (O i).2.2.1 = true) : rp B O (i + 1) = (updB (rp B O i).1 (O i).2.1 true, updN (rp B O i).2.1 (O i).2.1 (O i).2.2.2.1, updN (rp B O i).2.2 (O i).2.1 (O i).2.2.2.2) := by
  show apO (rp B O i) (O i) = _
  unfold apO; rw [if_pos ho]
theorem rp_f {B : LinT} {O : Nat → OpT} {i : Nat} (ho : (O i).2.2.1 = false) : rp B O (i + 1) = (updB (rp B O i).1 (O i).2.1 false, (rp B O i).2.1, (rp B O i).2.2) := by
  show apO (rp B O i) (O i) = _
  unfold apO; rw [if_neg (by rw [ho]; decide)]
theorem lok_nodrop {T : Nat → Int32} {G : Nat → Int64} {V : Nat → Int32} {th : Nat → Bool} {h v : Nat → Int} {p : Nat} (hL : LOK T G V th h v) (ht : th p = false) : LOK T G V (updB th p false) h v := by
  have e : updB th p false = th := by
    funext j
    by_cases e : j = p
    · subst e; simp [updB, ht]
    · simp [updB, e]
  rw [e]; exact hL
theorem opk_add {wh wi sy : Nat → Int32} {hh : Nat → Int64} {vv : Nat → Int32} {M M' : Int32} {O : Nat → OpT} {m : Nat} (hO : OPK wh wi sy hh vv M O m) (hm : m < 200) {tt x s w : Int32} {y : Int64} {p : Nat} {b : Bool} {hv vl : Int} (ht0 : 0 ≤ tt.toInt) (ht1 : tt.toInt ≤ 100000) (hxp : x.toInt = (p : Int)) (hp : p < 24) (hM : M'.toInt = ((m + 1 : Nat) : Int)) (h1 : b = true → s.toInt = 1 ∧ y.toInt = hv ∧ w.toInt = vl ∧ -300000000 ≤ hv ∧ hv ≤ 300000000 ∧ -1000 ≤ vl ∧ vl ≤ 1000) (h0 : b = false → s.toInt = 0) : OPK (upd wh m tt) (upd wi m x) (upd sy m s) (vp_updL hh m y) (upd vv m w) M' (updO O m (tt.toInt, p, b, hv, vl)) (m + 1) := by
  refine ⟨hM, by omega, fun i hi => ?_⟩
  by_cases e : i = m
  · subst e
    have e1 : updO O i (tt.toInt, p, b, hv, vl) i = (tt.toInt, p, b, hv, vl) := by simp [updO]
    rw [e1, pk_us, pk_us, pk_us, pk_uLs, pk_us]
    exact ⟨rfl, ht0, ht1, hxp, hp, h1, h0⟩
  · have e1 : updO O m (tt.toInt, p, b, hv, vl) i = O i := by simp [updO, e]
    rw [e1, pk_un e, pk_un e, pk_un e, pk_uLn e, pk_un e]
    exact hO.2.2 i (by omega)
end
section
/-! THE SYSTEM: its mathematical state, and what each call answers and does -/
abbrev MS : Type := Int × LinT × (Nat → Nat) × Nat × (Nat → Int) × Int64 × Int64 × Int64 × LinT × (Nat → OpT) × Nat × Int
abbrev mt (s : MS) : Int := s.1
abbrev mL (s : MS) : LinT := s.2.1
abbrev ma (s : MS) : Nat → Nat := s.2.2.1
abbrev mn (s : MS) : Nat := s.2.2.2.1
abbrev mb (s : MS) : Nat → Int := s.2.2.2.2.1
abbrev mE (s : MS) : Int64 := s.2.2.2.2.2.1
abbrev mX (s : MS) : Int64 := s.2.2.2.2.2.2.1
abbrev mS (s : MS) : Int64 := s.2.2.2.2.2.2.2.1
abbrev mB (s : MS) : LinT := s.2.2.2.2.2.2.2.2.1
abbrev mO (s : MS) : Nat → OpT := s.2.2.2.2.2.2.2.2.2.1
abbrev mm (s : MS) : Nat := s.2.2.2.2.2.2.2.2.2.2.1
abbrev mk (s : MS) : Int := s.2.2.2.2.2.2.2.2.2.2.2
/-- the class's numbers: points, heap, history, its beginning, its state, the object's own -/
abbrev LT : Type := (Nat → Int32) × (Nat → Int64) × (Nat → Int32) × Int32
abbrev HT : Type := (Nat → Int32) × (Nat → Int32) × (Nat → Int32) × Int32 × Int64 × Int64
abbrev ST : Type := (Nat → Int32) × (Nat → Int32) × (Nat → Int32) × (Nat → Int64) × (Nat → Int32) × Int32 × Int32 × Int32
abbrev CT : Type := LT × HT × ST × LT × LT × ((Nat → Int32) × Int32 × Int64)
def RLn (q : LT) (L : LinT) : Prop := LOK q.1 q.2.1 q.2.2.1 L.1 L.2.1 L.2.2 ∧ q.2.2.2.toInt = (cntF L.1 24 : Int)
def RH (q : HT) (s : MS) : Prop := HK q.1 q.2.1 q.2.2.2.1 (ma s) (mn s) ∧ q.2.2.2.2.1 = mE s ∧ q.2.2.2.2.2 = mX s
def RS (q : ST) (s : MS) : Prop := OPK q.1 q.2.1 q.2.2.1 q.2.2.2.1 q.2.2.2.2.1 q.2.2.2.2.2.1 (mO s) (mm s) ∧ q.2.2.2.2.2.2.2.toInt = mk s
/-- the class's cells hold the state s -/
def RC (u : CT) (s : MS) : Prop := RLn u.1 (mL s) ∧ RH u.2.1 s ∧ RS u.2.2.1 s ∧ RLn u.2.2.2.1 (mB s) ∧ (∀ p : Nat, p < 24 → (u.2.2.2.2.2.1 p).toInt = mb s p) ∧ u.2.2.2.2.2.2.1.toInt = mt s ∧ u.2.2.2.2.2.2.2 = mS s
/-- what always holds -/
def Inv (s : MS) : Prop := (0 ≤ mt s ∧ mt s ≤ 100000) ∧ mn s ≤ 24 ∧ (∀ k : Nat, k < mn s → ma s k < 24 ∧ (mL s).1 (ma s k) = true) ∧ (∀ i j : Nat, i < mn s → j < mn s → ma s i = ma s j → i = j) ∧ (∀ p : Nat, p < 24 → (mL s).1 p = true → ∃ k : Nat, k < mn s ∧ ma s k = p) ∧ cntF (mL s).1 24 = mn s
  ∧ (∀ p : Nat, p < 24 → (mL s).1 p = true → -1000 ≤ (mL s).2.2 p ∧ (mL s).2.2 p ≤ 1000 ∧ -(1000000 + 1000 * mt s) ≤ (mL s).2.1 p + (mL s).2.2 p * mt s ∧ (mL s).2.1 p + (mL s).2.2 p * mt s ≤ 1000000 + 1000 * mt s)
  ∧ (∀ k : Nat, 1 ≤ k → k < mn s → bef (mL s).2.1 (mL s).2.2 (mt s) (ma s ((k - 1) / 2)) (ma s k))
  ∧ mm s ≤ 200 ∧ (0 ≤ mk s ∧ mk s ≤ mt s) ∧ (∀ i : Nat, i < mm s → mk s ≤ (mO s i).1 ∧ (mO s i).1 ≤ mt s ∧ (mO s i).2.1 < 24) ∧ (∀ i j : Nat, i < j → j < mm s → (mO s i).1 ≤ (mO s j).1)
  ∧ (∀ p : Nat, p < 24 → (rp (mB s) (mO s) (mm s)).1 p = (mL s).1 p ∧ ((mL s).1 p = true → (rp (mB s) (mO s) (mm s)).2.1 p = (mL s).2.1 p ∧ (rp (mB s) (mO s) (mm s)).2.2 p = (mL s).2.2 p))
-- answers
abbrev aINV : Int := -1000000000001
abbrev aNP : Int := -1000000000002
abbrev aLIM : Int := -1000000000003
abbrev aNF : Int := -1000000000004
abbrev okV (x : Int) : Prop := -1000000 ≤ x ∧ x ≤ 1000000
abbrev okW (x : Int) : Prop := -1000 ≤ x ∧ x ≤ 1000
/-- is there a point of that number -/
abbrev isP (L : LinT) (x : Int) : Prop := 0 ≤ x ∧ x < 24 ∧ L.1 x.toNat = true
def tonF (x : Int) : Int := if x = 1000001 then aNF else x
def ponF (x : Int) : Int := if x = -1 then aNF else x
/-- the first number below n that is free, or n -/
def lowF (th : Nat → Bool) : Nat → Nat
  | 0 => 0
  | n + 1 => if lowF th n < n then lowF th n else if th n = false then n else n + 1
/-- the first place below n at which p is, or n -/
def plF (a : Nat → Nat) (p : Nat) : Nat → Nat
  | 0 => 0
  | n + 1 => if plF a p n < n then plF a p n else if a n = p then n else n + 1
def setL (L : LinT) (p : Nat) (y w t : Int) : LinT := (updB L.1 p true, updN L.2.1 p (y - w * t), updN L.2.2 p w)
/-- an operation on p: new points, places; the heap is settled, it is written down -/
def opF (s : MS) (L : LinT) (a : Nat → Nat) (n : Nat) (b : Nat → Int) (p : Nat) : MS :=
  (mt s, L, (stl L.2.1 L.2.2 (mt s) n 276 (a, mE s, mX s)).1, n, b, (stl L.2.1 L.2.2 (mt s) n 276 (a, mE s, mX s)).2.1, (stl L.2.1 L.2.2 (mt s) n 276 (a, mE s, mX s)).2.2, mS s, mB s, updO (mO s) (mm s) (mt s, p, L.1 p, L.2.1 p, L.2.2 p), mm s + 1, mk s)
def valP (s : MS) (p : Nat) : Int := (mL s).2.1 p + (mL s).2.2 p * mt s
def insF (s : MS) (y w : Int) : Int × MS :=
  if ¬ (okV y ∧ okW w) then (aINV, s) else if lowF (mL s).1 24 = 24 ∨ 200 ≤ mm s then (aLIM, s)
  else (lowF (mL s).1 24, opF s (setL (mL s) (lowF (mL s).1 24) y w (mt s)) (updA (ma s) (mn s) (lowF (mL s).1 24)) (mn s + 1) (updN (mb s) (lowF (mL s).1 24) (mt s)) (lowF (mL s).1 24))
def remF (s : MS) (x : Int) : Int × MS :=
  if ¬ isP (mL s) x then (aINV, s) else if 200 ≤ mm s then (aLIM, s)
  else (valP s x.toNat, opF s (updB (mL s).1 x.toNat false, (mL s).2.1, (mL s).2.2) (updA (ma s) (plF (ma s) x.toNat (mn s)) (ma s (mn s - 1))) (mn s - 1) (mb s) x.toNat)
def velF (s : MS) (x w : Int) : Int × MS :=
  if ¬ (isP (mL s) x ∧ okW w) then (aINV, s) else if 200 ≤ mm s then (aLIM, s)
  else ((mL s).2.2 x.toNat, opF s (setL (mL s) x.toNat (valP s x.toNat) w (mt s)) (ma s) (mn s) (mb s) x.toNat)
def jmpF (s : MS) (x y : Int) : Int × MS :=
  if ¬ (isP (mL s) x ∧ okV y) then (aINV, s) else if 200 ≤ mm s then (aLIM, s)
  else (valP s x.toNat, opF s (setL (mL s) x.toNat y ((mL s).2.2 x.toNat) (mt s)) (ma s) (mn s) (mb s) x.toNat)
def ptF (s : MS) (x w : Int) : Int :=
  if ¬ isP (mL s) x then aINV else if w = 0 then valP s x.toNat else if w = 1 then (mL s).2.2 x.toNat else if w = 2 then plF (ma s) x.toNat (mn s) else if w = 3 then mb s x.toNat
  else if w = 4 then rkF (mL s).1 (mL s).2.1 (mL s).2.2 (mt s) x.toNat 24 else aINV
def atF (s : MS) (x : Int) : Int := if x < 0 then aINV else if x < mn s then ma s x.toNat else aNF
def nfS (s : MS) : Int := nfF (mL s).2.1 (mL s).2.2 (mt s) (ma s) (mn s)
/-- a stop at time f -/
def stpF (s : MS) (f : Int) : MS :=
  (f, mL s, (stl (mL s).2.1 (mL s).2.2 f (mn s) 276 (ma s, mE s, mX s)).1, mn s, mb s, (stl (mL s).2.1 (mL s).2.2 f (mn s) 276 (ma s, mE s, mX s)).2.1, (stl (mL s).2.1 (mL s).2.2 f (mn s) 276 (ma s, mE s, mX s)).2.2, mS s + 1, mB s, mO s, mm s, mk s)
def psF (x : Int) : Nat → MS → Nat × MS
  | 0, s => (0, s)
  | f + 1, s => if nfS s ≤ x then ((psF x f (stpF s (nfS s))).1 + 1, (psF x f (stpF s (nfS s))).2) else (0, s)
def setT (s : MS) (x : Int) : MS := (x, s.2)
def pasF (s : MS) (x : Int) : Int × MS := if x < mt s ∨ 100000 < x then (aINV, s) else ((psF x 276 s).1, setT (psF x 276 s).2 x)
def steF (s : MS) : Int × MS := if nfS s ≤ 100000 then (nfS s, stpF s (nfS s)) else (aNF, s)
def couF (s : MS) (w : Int) : Int64 := if w = 0 then mE s else if w = 1 then mS s else if w = 2 then mX s else -1000000000001
def erS (s : MS) (k : Nat) : Int := er (mL s).2.1 (mL s).2.2 (mt s) (ma s) k
def faiF (s : MS) (x : Int) : Int := if 1 ≤ x ∧ x < mn s then tonF (erS s x.toNat) else aINV
/-- the first certificate below n that stands at index x of the calendar, or 0 -/
def ceF (g : Nat → Int) (N : Nat) (x : Int) : Nat → Nat
  | 0 => 0
  | n + 1 => if ceF g N x n ≠ 0 then ceF g N x n else if 1 ≤ n ∧ g n ≠ 1000001 ∧ (etF g n (g n) N : Int) = x then n else 0
def calF (s : MS) (x w : Int) : Int := if x < 0 ∨ w < 0 ∨ 1 < w then aINV else if ceF (erS s) (mn s) x (mn s) = 0 then aNF else if w = 0 then erS s (ceF (erS s) (mn s) x (mn s)) else ceF (erS s) (mn s) x (mn s)
def casF (s : MS) : Int := clF (mL s).2.1 (mL s).2.2 (mt s) (ma s) (mn s)
def topS (s : MS) : Int := tpF (mL s).1 (mL s).2.1 (mL s).2.2 (mt s) 24
def tocF (s : MS) : Int := if mn s = 0 then aNP else tonF (nxF (mL s).1 (mL s).2.1 (mL s).2.2 (mt s) (topS s) 24)
def metF (s : MS) (x y : Int) : Int := if ¬ (isP (mL s) x ∧ isP (mL s) y ∧ x ≠ y) then aINV else if bef (mL s).2.1 (mL s).2.2 (mt s) x.toNat y.toNat then tonF (eoo (mL s).2.1 (mL s).2.2 (mt s) x.toNat y.toNat) else tonF (eoo (mL s).2.1 (mL s).2.2 (mt s) y.toNat x.toNat)
-- other moments
def cO (O : Nat → OpT) (x : Int) : Nat → Nat
  | 0 => 0
  | i + 1 => cO O x i + (if (O i).1 ≤ x then 1 else 0)
def stA (s : MS) (x : Int) : LinT := rp (mB s) (mO s) (cO (mO s) x (mm s))
def momF (s : MS) (x : Int) : Int := if x < 0 ∨ mt s < x then aINV else if mk s ≤ x then 0 else aNP
def topI (s : MS) (x : Int) : Int := tpF (stA s x).1 (stA s x).2.1 (stA s x).2.2 x 24
def toaF (s : MS) (x : Int) : Int := if momF s x = 0 then ponF (topI s x) else momF s x
def vaaF (s : MS) (p x : Int) : Int := if p < 0 ∨ 24 ≤ p then aINV else if momF s x = 0 then (if (stA s x).1 p.toNat = true then (stA s x).2.1 p.toNat + (stA s x).2.2 p.toNat * x else aNF) else momF s x
/-- the first point below n of rank k, or -1 -/
def orF (L : LinT) (x k : Int) : Nat → Int
  | 0 => -1
  | n + 1 => if orF L x k n ≠ -1 then orF L x k n else if L.1 n = true ∧ (rkF L.1 L.2.1 L.2.2 x n 24 : Int) = k then (n : Int) else -1
def oraF (s : MS) (k x : Int) : Int := if k < 0 then aINV else if momF s x = 0 then ponF (orF (stA s x) x k 24) else momF s x
def szaF (s : MS) (x : Int) : Int := if momF s x = 0 then cntF (stA s x).1 24 else momF s x
def spaF (s : MS) (x y b : Int) : Int := if x < b ∨ mt s < x ∨ y < x ∨ mt s < y ∨ 500 < y - x then aINV else momF s (x - b)
def tchF (s : MS) (x : Int) : Nat → Nat
  | 0 => 0
  | j + 1 => tchF s x j + (if topI s (x + j) ≠ topI s (x + j - 1) then 1 else 0)
def tcsF (s : MS) (x y : Int) : Int := if spaF s x y 1 = 0 then tchF s x (y - x + 1).toNat else spaF s x y 1
def lsI (s : MS) (x : Int) : Int := if topI s x = -1 then 1000000000000 else (stA s x).2.1 (topI s x).toNat + (stA s x).2.2 (topI s x).toNat * x
def lbF (s : MS) (x : Int) : Nat → Int
  | 0 => 1000000000000
  | j + 1 => min (lbF s x j) (lsI s (x + j))
def lebF (s : MS) (x y : Int) : Int := if spaF s x y 0 = 0 then (if lbF s x (y - x + 1).toNat = 1000000000000 then aNF else lbF s x (y - x + 1).toNat) else spaF s x y 0
def fogF (s : MS) : Int × MS := (mm s, (mt s, mL s, ma s, mn s, mb s, mE s, mX s, mS s, mL s, mO s, 0, mt s))
-- small facts
theorem low_all {th : Nat → Bool} : ∀ n : Nat, (∀ p : Nat, p < n → th p = true) → lowF th n = n := by
  intro n
  induction n with
  | zero => intro _; rfl
  | succ n ih =>
    intro h0
    have e := ih (fun p hp => h0 p (by omega))
    show (if lowF th n < n then lowF th n else if th n = false then n else n + 1) = n + 1
    rw [e, if_neg (Nat.lt_irrefl n), if_neg (by rw [h0 n (Nat.lt_succ_self n)]; decide)]
theorem low_at {th : Nat → Bool} {p : Nat} (hp : th p = false) (hq : ∀ q : Nat, q < p → th q = true) : ∀ n : Nat, p < n → lowF th n = p := by
  intro n
  induction n with
  | zero => intro h0; exact absurd h0 (Nat.not_lt_zero _)
  | succ n ih =>
    intro h0
    show (if lowF th n < n then lowF th n else if th n = false then n else n + 1) = p
    rcases Nat.lt_or_eq_of_le (Nat.lt_succ_iff.mp h0) with q | q
    · rw [ih q, if_pos q]
    · subst q
      rw [low_all p hq, if_neg (Nat.lt_irrefl p), if_pos hp]
theorem low_spec {th : Nat → Bool} {r : Int} (h0 : (∃ p : Nat, p < 24 ∧ r = (p : Int) ∧ th p = false ∧ ∀ q : Nat, q < p → th q = true) ∨ (r = -1 ∧ ∀ p : Nat, p < 24 → th p = true)) : (r = (lowF th 24 : Int) ∧ lowF th 24 < 24 ∧ th (lowF th 24) = false) ∨ (r = -1 ∧ lowF th 24 = 24) := by
  rcases h0 with ⟨p, h1, h2, h3, h4⟩ | ⟨h1, h2⟩
  · left
    rw [low_at h3 h4 24 h1]
    exact ⟨h2, h1, h3⟩
  · right
    exact ⟨h1, low_all 24 h2⟩
theorem pl_none {a : Nat → Nat} {p : Nat} : ∀ n : Nat, (∀ k : Nat, k < n → a k ≠ p) → plF a p n = n := by
  intro n
  induction n with
  | zero => intro _; rfl
  | succ n ih =>
    intro h0
    show (if plF a p n < n then plF a p n else if a n = p then n else n + 1) = n + 1
    rw [ih (fun k hk => h0 k (by omega)), if_neg (Nat.lt_irrefl n), if_neg (h0 n (Nat.lt_succ_self n))]
theorem pl_at {a : Nat → Nat} {p k : Nat} (hk : a k = p) (hu : ∀ j : Nat, j < k → a j ≠ p) : ∀ n : Nat, k < n → plF a p n = k := by
  intro n
  induction n with
  | zero => intro h0; exact absurd h0 (Nat.not_lt_zero _)
  | succ n ih =>
    intro h0
    show (if plF a p n < n then plF a p n else if a n = p then n else n + 1) = k
    rcases Nat.lt_or_eq_of_le (Nat.lt_succ_iff.mp h0) with q | q
    · rw [ih q, if_pos q]
    · subst q
      rw [pl_none k hu, if_neg (Nat.lt_irrefl k), if_pos hk]
theorem cnt_lt {th : Nat → Bool} {p : Nat} (hp : th p = false) : ∀ n : Nat, p < n → cntF th n < n := by
  intro n
  induction n with
  | zero => intro h0; exact absurd h0 (Nat.not_lt_zero _)
  | succ n ih =>
    intro h0
    have hl := cnt_le th n
    show cntF th n + (if th n = true then 1 else 0) < n + 1
    rcases Nat.lt_or_eq_of_le (Nat.lt_succ_iff.mp h0) with q | q
    · have := ih q
      split <;> omega
    · subst q
      rw [if_neg (by rw [hp]; decide)]; omega
/-- a point's place in the heap -/
theorem inv_pl {s : MS} (hI : Inv s) {p : Nat} (hp : p < 24) (ht : (mL s).1 p = true) : plF (ma s) p (mn s) < mn s ∧ ma s (plF (ma s) p (mn s)) = p := by
  obtain ⟨k, hk, hak⟩ := hI.2.2.2.2.1 p hp ht
  have e : plF (ma s) p (mn s) = k := pl_at hak (fun j hj q => by have := hI.2.2.2.1 j k (by omega) hk (q.trans hak.symm); omega) (mn s) hk
  rw [e]; exact ⟨hk, hak⟩
theorem inv_h {s : MS} (hI : Inv s) {p : Nat} (hp : p < 24) (ht : (mL s).1 p = true) : -101000000 ≤ valP s p ∧ valP s p ≤ 101000000 ∧ -1000 ≤ (mL s).2.2 p ∧ (mL s).2.2 p ≤ 1000 := by
  have h1 := hI.2.2.2.2.2.2.1 p hp ht
  have h2 := hI.1
  unfold valP
  omega
theorem ht_app {th : Nat → Bool} {a : Nat → Nat} {n p : Nat} (hT : ∀ k : Nat, k < n → th (a k) = true) : ∀ k : Nat, k < n + 1 → updB th p true (updA a n p k) = true := by
  intro k hk
  by_cases e : k = n
  · simp [updB, updA, e]
  · have := hT k (by omega)
    by_cases e2 : a k = p
    · simp [updB, updA, e, e2]
    · simp [updB, updA, e, e2, this]
theorem ht_take {th : Nat → Bool} {a : Nat → Nat} {n p k : Nat} (hT : ∀ j : Nat, j < n → th (a j) = true) (hi : ∀ i j : Nat, i < n → j < n → a i = a j → i = j) (hk : k < n) (hak : a k = p) : ∀ j : Nat, j < n - 1 → updB th p false (updA a k (a (n - 1)) j) = true := by
  intro j hj
  by_cases e : j = k
  · subst e
    have e1 : updA a j (a (n - 1)) j = a (n - 1) := by simp [updA]
    have e2 : a (n - 1) ≠ p := fun q => by have := hi (n - 1) j (by omega) hk (q.trans hak.symm); omega
    rw [e1]; simp [updB, e2, hT (n - 1) (by omega)]
  · have e1 : updA a k (a (n - 1)) j = a j := by simp [updA, e]
    have e2 : a j ≠ p := fun q => e (hi j k (by omega) hk (q.trans hak.symm))
    rw [e1]; simp [updB, e2, hT j (by omega)]
theorem ht_set {th : Nat → Bool} {a : Nat → Nat} {n p : Nat} (hT : ∀ k : Nat, k < n → th (a k) = true) : ∀ k : Nat, k < n → updB th p true (a k) = true := by
  intro k hk
  by_cases e2 : a k = p
  · simp [updB, e2]
  · simp [updB, e2, hT k hk]
theorem bi_set {BI : Nat → Int32} {bi : Nat → Int} {p : Nat} {x : Int32} {t : Int} (hB : ∀ q : Nat, q < 24 → (BI q).toInt = bi q) (hx : x.toInt = t) : ∀ q : Nat, q < 24 → (upd BI p x q).toInt = updN bi p t q := by
  intro q hq
  by_cases e : q = p
  · subst e; rw [pk_us]; simp [updN, hx]
  · rw [pk_un e]; simp [updN, e, hB q hq]
end
section
/-! pure facts that the queries want -/
theorem ce_lt (g : Nat → Int) (N : Nat) (x : Int) : ∀ n : Nat, ceF g N x n = 0 ∨ (1 ≤ ceF g N x n ∧ ceF g N x n < n) := by
  intro n
  induction n with
  | zero => exact Or.inl rfl
  | succ n ih =>
    unfold ceF
    split
    · omega
    · split <;> omega
theorem ce_none {g : Nat → Int} {N : Nat} {x : Int} : ∀ n : Nat, n ≤ N → (∀ k : Nat, k < n → ¬ CE g N x k) → ceF g N x n = 0 := by
  intro n
  induction n with
  | zero => intro _ _; rfl
  | succ n ih =>
    intro hn h0
    show (if ceF g N x n ≠ 0 then ceF g N x n else if 1 ≤ n ∧ g n ≠ 1000001 ∧ (etF g n (g n) N : Int) = x then n else 0) = 0
    rw [ih (by omega) (fun k hk => h0 k (by omega)), if_neg (by omega), if_neg (fun z => h0 n (Nat.lt_succ_self n) ⟨z.1, by omega, z.2.1, z.2.2⟩)]
theorem ce_at {g : Nat → Int} {N : Nat} {x : Int} {k : Nat} (hk : CE g N x k) (hj : ∀ j : Nat, j < k → ¬ CE g N x j) : ∀ n : Nat, n ≤ N → k < n → ceF g N x n = k := by
  intro n
  induction n with
  | zero => intro _ h0; exact absurd h0 (Nat.not_lt_zero _)
  | succ n ih =>
    intro hn h0
    have h1 := hk.1
    show (if ceF g N x n ≠ 0 then ceF g N x n else if 1 ≤ n ∧ g n ≠ 1000001 ∧ (etF g n (g n) N : Int) = x then n else 0) = k
    rcases Nat.lt_or_eq_of_le (Nat.lt_succ_iff.mp h0) with q | q
    · have e := ih (by omega) q
      rw [e, if_pos (by omega)]
    · subst q
      rw [ce_none k (by omega) hj, if_neg (by omega), if_pos ⟨hk.1, hk.2.2.1, hk.2.2.2⟩]
theorem ce_spec {g : Nat → Int} {n : Nat} {x r : Int} (h0 : (∃ k : Nat, CE g n x k ∧ (∀ j : Nat, j < k → ¬ CE g n x j) ∧ r = (k : Int)) ∨ (r = 0 ∧ ∀ k : Nat, ¬ CE g n x k)) : r = (ceF g n x n : Int) := by
  rcases h0 with ⟨k, h1, h2, h3⟩ | ⟨h1, h2⟩
  · rw [ce_at h1 h2 n (Nat.le_refl n) h1.2.1]; exact h3
  · rw [ce_none n (Nat.le_refl n) (fun k _ => h2 k)]; exact h1
theorem mom_rng (s : MS) (x : Int) : (momF s x = 0 ∧ 0 ≤ x ∧ x ≤ mt s ∧ mk s ≤ x) ∨ momF s x < 0 := by
  unfold momF
  split
  · right; decide
  · split
    · left; omega
    · right; decide
theorem or_none {L : LinT} {x k : Int} : ∀ n : Nat, (∀ p : Nat, p < n → ¬ (L.1 p = true ∧ (rkF L.1 L.2.1 L.2.2 x p 24 : Int) = k)) → orF L x k n = -1 := by
  intro n
  induction n with
  | zero => intro _; rfl
  | succ n ih =>
    intro h0
    have e := ih (fun p hp => h0 p (by omega))
    show (if orF L x k n ≠ -1 then orF L x k n else if L.1 n = true ∧ (rkF L.1 L.2.1 L.2.2 x n 24 : Int) = k then (n : Int) else -1) = -1
    rw [e, if_neg (by omega), if_neg (h0 n (Nat.lt_succ_self n))]
theorem or_at {L : LinT} {x k : Int} {p : Nat} (hp : L.1 p = true ∧ (rkF L.1 L.2.1 L.2.2 x p 24 : Int) = k) (hq : ∀ q : Nat, q < p → ¬ (L.1 q = true ∧ (rkF L.1 L.2.1 L.2.2 x q 24 : Int) = k)) : ∀ n : Nat, p < n → orF L x k n = (p : Int) := by
  intro n
  induction n with
  | zero => intro h0; exact absurd h0 (Nat.not_lt_zero _)
  | succ n ih =>
    intro h0
    show (if orF L x k n ≠ -1 then orF L x k n else if L.1 n = true ∧ (rkF L.1 L.2.1 L.2.2 x n 24 : Int) = k then (n : Int) else -1) = (p : Int)
    rcases Nat.lt_or_eq_of_le (Nat.lt_succ_iff.mp h0) with q | q
    · have e := ih q
      rw [e, if_pos (by omega)]
    · subst q
      rw [or_none p hq, if_neg (by omega), if_pos hp]
theorem or_spec {L : LinT} {x k r : Int} (h0 : (∃ p : Nat, p < 24 ∧ r = (p : Int) ∧ L.1 p = true ∧ (rkF L.1 L.2.1 L.2.2 x p 24 : Int) = k ∧ ∀ q : Nat, q < p → ¬ (L.1 q = true ∧ (rkF L.1 L.2.1 L.2.2 x q 24 : Int) = k)) ∨ (r = -1 ∧ ∀ p : Nat, p < 24 → ¬ (L.1 p = true ∧ (rkF L.1 L.2.1 L.2.2 x p 24 : Int) = k))) : r = orF L x k 24 := by
  rcases h0 with ⟨p, h1, h2, h3, h4, h5⟩ | ⟨h1, h2⟩
  · rw [or_at ⟨h3, h4⟩ h5 24 h1]; exact h2
  · rw [or_none 24 h2]; exact h1
theorem co_is {O : Nat → OpT} {m r : Nat} {x : Int} (hM : ∀ i j : Nat, i < j → j < m → (O i).1 ≤ (O j).1) (hC : IsC O m x r) : ∀ i : Nat, i ≤ m → cO O x i = min i r := by
  intro i
  induction i with
  | zero => intro _; show 0 = min 0 r; omega
  | succ i ih =>
    intro hi
    show cO O x i + (if (O i).1 ≤ x then 1 else 0) = min (i + 1) r
    rw [ih (by omega)]
    by_cases q : i < r
    · rw [if_pos (hC.2.1 i q)]; omega
    · have h1 := hC.2.2 (by omega)
      have h2 : x < (O i).1 := by
        rcases Nat.lt_or_eq_of_le (Nat.not_lt.mp q) with z | z
        · have := hM r i z (by omega); omega
        · subst z; exact h1
      rw [if_neg (by omega)]; omega
theorem isC_eq {s : MS} (hI : Inv s) {x : Int} {r : Nat} (hC : IsC (mO s) (mm s) x r) : r = cO (mO s) x (mm s) := by
  have h1 := co_is hI.2.2.2.2.2.2.2.2.2.2.2.1 hC (mm s) (Nat.le_refl _)
  have h2 := hC.1
  omega
theorem cro_ge {t g c : Int} (ht : t ≤ 1000001) (hg : 0 ≤ g) (hc : 0 < c) : t ≤ cro t g c := by
  have h1 := Int.ediv_nonneg (show 0 ≤ g + c - 1 by omega) (Int.le_of_lt hc)
  unfold cro
  split <;> omega
theorem eoo_ge (h v : Nat → Int) {t : Int} (ht : t ≤ 1000001) (a b : Nat) : t ≤ eoo h v t a b := by
  unfold eoo
  by_cases hb : bef h v t a b
  · rw [if_pos hb]
    split
    · exact ht
    · exact cro_ge ht (by rcases hb with q | q <;> split <;> omega) (by omega)
  · rw [if_neg hb]; exact Int.le_refl _
theorem nfF_ge (h v : Nat → Int) {t : Int} (ht : t ≤ 1000001) (a : Nat → Nat) : ∀ n : Nat, t ≤ nfF h v t a n := by
  intro n
  induction n with
  | zero => exact ht
  | succ n ih =>
    have h1 : t ≤ er h v t a n := eoo_ge h v ht _ _
    show t ≤ (if 1 ≤ n then min (nfF h v t a n) (er h v t a n) else 1000001)
    split <;> omega
theorem nf_ge {s : MS} (hI : Inv s) : mt s ≤ nfS s := nfF_ge _ _ (by have := hI.1; omega) _ _
end
section
/-! THE ORDER at a time; sums; settling ends -/
theorem bf_tr {h v : Nat → Int} {t : Int} {a b c : Nat} (h1 : bef h v t a b) (h2 : bef h v t b c) : bef h v t a c := by
  rcases h1 with q | q <;> rcases h2 with z | z <;> first | exact Or.inl (by omega) | exact Or.inr ⟨by omega, by omega⟩
theorem bf_as {h v : Nat → Int} {t : Int} {a b : Nat} (h1 : bef h v t a b) : ¬ bef h v t b a := by
  intro h2
  rcases h1 with q | q <;> rcases h2 with z | z <;> omega
theorem bf_ir {h v : Nat → Int} {t : Int} {a : Nat} : ¬ bef h v t a a := fun h1 => bf_as h1 h1
theorem bf_to {h v : Nat → Int} {t : Int} {a b : Nat} (hne : a ≠ b) (h1 : ¬ bef h v t a b) : bef h v t b a := by
  by_cases q : h b + v b * t < h a + v a * t
  · exact Or.inl q
  · by_cases z : h a + v a * t < h b + v b * t
    · exact absurd (Or.inl z) h1
    · refine Or.inr ⟨by omega, ?_⟩
      by_cases y : a < b
      · exact absurd (Or.inr ⟨by omega, y⟩) h1
      · omega
-- sums
def smF (f : Nat → Nat) : Nat → Nat
  | 0 => 0
  | n + 1 => smF f n + f n
theorem sm_le {f g : Nat → Nat} : ∀ n : Nat, (∀ i : Nat, i < n → f i ≤ g i) → smF f n ≤ smF g n := by
  intro n
  induction n with
  | zero => intro _; exact Nat.le_refl _
  | succ n ih =>
    intro h0
    have h1 := ih (fun i hi => h0 i (by omega))
    have h2 := h0 n (Nat.lt_succ_self n)
    show smF f n + f n ≤ smF g n + g n
    omega
theorem sm_lt {f g : Nat → Nat} : ∀ n : Nat, (∀ i : Nat, i < n → f i ≤ g i) → (∃ i : Nat, i < n ∧ f i < g i) → smF f n < smF g n := by
  intro n
  induction n with
  | zero => intro _ h1; obtain ⟨i, hi, _⟩ := h1; exact absurd hi (Nat.not_lt_zero _)
  | succ n ih =>
    intro h0 h1
    obtain ⟨i, hi, hlt⟩ := h1
    show smF f n + f n < smF g n + g n
    rcases Nat.lt_or_eq_of_le (Nat.lt_succ_iff.mp hi) with q | q
    · have h2 := ih (fun j hj => h0 j (by omega)) ⟨i, q, hlt⟩
      have h3 := h0 n (Nat.lt_succ_self n)
      omega
    · subst q
      have h2 := sm_le (f := f) (g := g) i (fun j hj => h0 j (by omega))
      omega
theorem sm_add (f g : Nat → Nat) : ∀ n : Nat, smF (fun i => f i + g i) n = smF f n + smF g n := by
  intro n
  induction n with
  | zero => rfl
  | succ n ih => show smF (fun i => f i + g i) n + (f n + g n) = (smF f n + f n) + (smF g n + g n); omega
theorem sm_eq {f g : Nat → Nat} : ∀ n : Nat, (∀ i : Nat, i < n → f i = g i) → smF f n = smF g n := by
  intro n h0
  exact Nat.le_antisymm (sm_le n (fun i hi => Nat.le_of_eq (h0 i hi))) (sm_le n (fun i hi => Nat.le_of_eq (h0 i hi).symm))
def mk1 (i0 : Nat) (f : Nat → Nat) : Nat → Nat := fun i => if i = i0 then 0 else f i
theorem sm_sp {f : Nat → Nat} {i0 : Nat} : ∀ n : Nat, i0 < n → smF f n = f i0 + smF (mk1 i0 f) n := by
  intro n
  induction n with
  | zero => intro h0; exact absurd h0 (Nat.not_lt_zero _)
  | succ n ih =>
    intro h0
    show smF f n + f n = f i0 + (smF (mk1 i0 f) n + mk1 i0 f n)
    rcases Nat.lt_or_eq_of_le (Nat.lt_succ_iff.mp h0) with q | q
    · have e : mk1 i0 f n = f n := by unfold mk1; rw [if_neg (by omega)]
      rw [ih q, e]; omega
    · subst q
      have e : mk1 i0 f i0 = 0 := by unfold mk1; rw [if_pos rfl]
      have e2 : smF (mk1 i0 f) i0 = smF f i0 := sm_eq i0 (fun i hi => by unfold mk1; rw [if_neg (by omega)])
      rw [e, e2]; omega
def mk2 (i0 j0 : Nat) (f : Nat → Nat) : Nat → Nat := fun i => if i = i0 ∨ i = j0 then 0 else f i
theorem sm_sp2 {f : Nat → Nat} {i0 j0 n : Nat} (hi : i0 < n) (hj : j0 < n) (hne : i0 ≠ j0) : smF f n = f i0 + f j0 + smF (mk2 i0 j0 f) n := by
  rw [sm_sp n hi, sm_sp (f := mk1 i0 f) n hj]
  have e1 : mk1 i0 f j0 = f j0 := by unfold mk1; rw [if_neg (fun q => hne q.symm)]
  have e2 : smF (mk1 j0 (mk1 i0 f)) n = smF (mk2 i0 j0 f) n := sm_eq n (fun i _ => by
    unfold mk1 mk2
    by_cases q : i = j0
    · rw [if_pos q, if_pos (Or.inr q)]
    · rw [if_neg q]
      by_cases z : i = i0
      · rw [if_pos z, if_pos (Or.inl z)]
      · rw [if_neg z, if_neg (fun y => y.elim z q)])
  rw [e1, e2]; omega
/-- the sum over a square, two rows and columns apart -/
theorem sq_sp {f : Nat → Nat → Nat} {i0 j0 n : Nat} (hi : i0 < n) (hj : j0 < n) (hne : i0 ≠ j0) : smF (fun i => smF (f i) n) n = (f i0 i0 + f i0 j0 + f j0 i0 + f j0 j0) + smF (mk2 i0 j0 (fun m => f i0 m + f j0 m + f m i0 + f m j0)) n + smF (mk2 i0 j0 (fun i => smF (mk2 i0 j0 (f i)) n)) n := by
  rw [sm_sp2 (f := fun i => smF (f i) n) hi hj hne]
  rw [sm_sp2 (f := f i0) hi hj hne, sm_sp2 (f := f j0) hi hj hne]
  have e1 : smF (mk2 i0 j0 (fun i => smF (f i) n)) n = smF (mk2 i0 j0 (fun m => f m i0 + f m j0)) n + smF (mk2 i0 j0 (fun i => smF (mk2 i0 j0 (f i)) n)) n := by
    rw [← sm_add]
    refine sm_eq n (fun i _ => ?_)
    unfold mk2
    by_cases q : i = i0 ∨ i = j0
    · rw [if_pos q, if_pos q, if_pos q]
    · rw [if_neg q, if_neg q, if_neg q]
      have := sm_sp2 (f := f i) hi hj hne
      unfold mk2 at this
      exact this
  have e2 : smF (mk2 i0 j0 (fun m => f i0 m + f j0 m + f m i0 + f m j0)) n = smF (mk2 i0 j0 (f i0)) n + smF (mk2 i0 j0 (f j0)) n + smF (mk2 i0 j0 (fun m => f m i0 + f m j0)) n := by
    rw [← sm_add, ← sm_add]
    refine sm_eq n (fun i _ => ?_)
    unfold mk2
    by_cases q : i = i0 ∨ i = j0
    · rw [if_pos q, if_pos q, if_pos q, if_pos q]
    · rw [if_neg q, if_neg q, if_neg q, if_neg q]
      show f i0 i + f j0 i + f i i0 + f i j0 = (f i0 i + f j0 i) + (f i i0 + f i j0)
      omega
  rw [e1, e2]; omega
theorem sw_a {a : Nat → Nat} {i0 j0 : Nat} : sw a i0 j0 i0 = a j0 := by show (if i0 = i0 then a j0 else if i0 = j0 then a i0 else a i0) = a j0; rw [if_pos rfl]
theorem sw_b {a : Nat → Nat} {i0 j0 : Nat} (hne : i0 ≠ j0) : sw a i0 j0 j0 = a i0 := by show (if j0 = i0 then a j0 else if j0 = j0 then a i0 else a j0) = a i0; rw [if_neg (fun q => hne q.symm), if_pos rfl]
theorem sw_c {a : Nat → Nat} {i0 j0 m : Nat} (h1 : m ≠ i0) (h2 : m ≠ j0) : sw a i0 j0 m = a m := by show (if m = i0 then a j0 else if m = j0 then a i0 else a m) = a m; rw [if_neg h1, if_neg h2]
theorem sw_inj {a : Nat → Nat} {n i0 j0 : Nat} (hne : i0 ≠ j0) (hi : ∀ i j : Nat, i < n → j < n → a i = a j → i = j) (h1 : i0 < n) (h2 : j0 < n) : ∀ i j : Nat, i < n → j < n → sw a i0 j0 i = sw a i0 j0 j → i = j := by
  intro i j hi' hj' e
  rcases (show i = i0 ∨ i = j0 ∨ (i ≠ i0 ∧ i ≠ j0) by omega) with q | q | q <;> rcases (show j = i0 ∨ j = j0 ∨ (j ≠ i0 ∧ j ≠ j0) by omega) with z | z | z
  · omega
  · subst q; subst z; rw [sw_a, sw_b hne] at e; exact (hi _ _ h2 h1 e).symm
  · subst q; rw [sw_a, sw_c z.1 z.2] at e; have := hi _ _ h2 hj' e; omega
  · subst q; subst z; rw [sw_a, sw_b hne] at e; exact (hi _ _ h1 h2 e).symm
  · omega
  · subst q; rw [sw_b hne, sw_c z.1 z.2] at e; have := hi _ _ h1 hj' e; omega
  · subst z; rw [sw_a, sw_c q.1 q.2] at e; have := hi _ _ hi' h2 e; omega
  · subst z; rw [sw_b hne, sw_c q.1 q.2] at e; have := hi _ _ hi' h1 e; omega
  · rw [sw_c q.1 q.2, sw_c z.1 z.2] at e; exact hi _ _ hi' hj' e
theorem sw_on {a : Nat → Nat} {n i0 j0 : Nat} (h1 : i0 < n) (h2 : j0 < n) {k : Nat} (hk : k < n) : ∃ j : Nat, j < n ∧ sw a i0 j0 j = a k := by
  by_cases q : k = j0
  · refine ⟨i0, h1, ?_⟩
    show (if i0 = i0 then a j0 else if i0 = j0 then a i0 else a i0) = a k
    rw [if_pos rfl, q]
  · by_cases q2 : k = i0
    · refine ⟨j0, h2, ?_⟩
      show (if j0 = i0 then a j0 else if j0 = j0 then a i0 else a j0) = a k
      by_cases q3 : j0 = i0
      · rw [if_pos q3, q2, q3]
      · rw [if_neg q3, if_pos rfl, q2]
    · refine ⟨k, hk, ?_⟩
      show (if k = i0 then a j0 else if k = j0 then a i0 else a k) = a k
      rw [if_neg q2, if_neg q]
-- inversions
def ivT (h v : Nat → Int) (t : Int) (a : Nat → Nat) (i j : Nat) : Nat := if i < j ∧ bef h v t (a j) (a i) then 1 else 0
def ivS (h v : Nat → Int) (t : Int) (a : Nat → Nat) (n : Nat) : Nat := smF (fun i => smF (ivT h v t a i) n) n
theorem iv_lt {h v : Nat → Int} {t : Int} {a : Nat → Nat} {n i0 j0 : Nat} (hij : i0 < j0) (hj : j0 < n) (hb : bef h v t (a j0) (a i0)) : ivS h v t (sw a i0 j0) n < ivS h v t a n := by
  have hne : i0 ≠ j0 := by omega
  have hi : i0 < n := by omega
  have ei : sw a i0 j0 i0 = a j0 := by show (if i0 = i0 then a j0 else if i0 = j0 then a i0 else a i0) = a j0; rw [if_pos rfl]
  have ej : sw a i0 j0 j0 = a i0 := by show (if j0 = i0 then a j0 else if j0 = j0 then a i0 else a j0) = a i0; rw [if_neg (by omega), if_pos rfl]
  have eo : ∀ m : Nat, m ≠ i0 → m ≠ j0 → sw a i0 j0 m = a m := fun m h1 h2 => by show (if m = i0 then a j0 else if m = j0 then a i0 else a m) = a m; rw [if_neg h1, if_neg h2]
  unfold ivS
  rw [sq_sp (f := ivT h v t (sw a i0 j0)) hi hj hne, sq_sp (f := ivT h v t a) hi hj hne]
  have c1 : ivT h v t (sw a i0 j0) i0 i0 + ivT h v t (sw a i0 j0) i0 j0 + ivT h v t (sw a i0 j0) j0 i0 + ivT h v t (sw a i0 j0) j0 j0 = 0 := by
    unfold ivT
    rw [ei, ej, if_neg (fun q => by omega), if_neg (fun q => bf_as hb q.2), if_neg (fun q => by omega), if_neg (fun q => by omega)]
  have c2 : 1 ≤ ivT h v t a i0 i0 + ivT h v t a i0 j0 + ivT h v t a j0 i0 + ivT h v t a j0 j0 := by
    have : ivT h v t a i0 j0 = 1 := by unfold ivT; rw [if_pos ⟨hij, hb⟩]
    omega
  have c3 : smF (mk2 i0 j0 (fun i => smF (mk2 i0 j0 (ivT h v t (sw a i0 j0) i)) n)) n = smF (mk2 i0 j0 (fun i => smF (mk2 i0 j0 (ivT h v t a i)) n)) n := by
    refine sm_eq n (fun i _ => ?_)
    unfold mk2
    by_cases q : i = i0 ∨ i = j0
    · rw [if_pos q, if_pos q]
    · rw [if_neg q, if_neg q]
      refine sm_eq n (fun j _ => ?_)
      by_cases z : j = i0 ∨ j = j0
      · rw [if_pos z, if_pos z]
      · rw [if_neg z, if_neg z]
        unfold ivT
        rw [eo i (fun y => q (Or.inl y)) (fun y => q (Or.inr y)), eo j (fun y => z (Or.inl y)) (fun y => z (Or.inr y))]
  have c4 : smF (mk2 i0 j0 (fun m => ivT h v t (sw a i0 j0) i0 m + ivT h v t (sw a i0 j0) j0 m + ivT h v t (sw a i0 j0) m i0 + ivT h v t (sw a i0 j0) m j0)) n ≤ smF (mk2 i0 j0 (fun m => ivT h v t a i0 m + ivT h v t a j0 m + ivT h v t a m i0 + ivT h v t a m j0)) n := by
    refine sm_le n (fun m _ => ?_)
    unfold mk2
    by_cases q : m = i0 ∨ m = j0
    · rw [if_pos q, if_pos q]; exact Nat.le_refl _
    · rw [if_neg q, if_neg q]
      have q1 : m ≠ i0 := fun y => q (Or.inl y)
      have q2 : m ≠ j0 := fun y => q (Or.inr y)
      unfold ivT
      dsimp only
      rw [ei, ej, eo m q1 q2]
      obtain ⟨x, hx⟩ : ∃ x, x = a i0 := ⟨_, rfl⟩
      obtain ⟨y, hy⟩ : ∃ y, y = a j0 := ⟨_, rfl⟩
      obtain ⟨z, hz⟩ : ∃ z, z = a m := ⟨_, rfl⟩
      rw [← hx, ← hy, ← hz]
      rw [← hx, ← hy] at hb
      by_cases b1 : bef h v t z x <;> by_cases b2 : bef h v t z y <;> by_cases b3 : bef h v t x z <;> by_cases b4 : bef h v t y z <;>
        first
        | exact absurd b3 (bf_as b1)
        | exact absurd b4 (bf_as b2)
        | exact absurd (bf_tr b2 hb) b1
        | exact absurd (bf_tr hb b3) b4
        | (rcases (show m < i0 ∨ (i0 < m ∧ m < j0) ∨ j0 < m by omega) with c | c | c <;>
           simp [b1, b2, b3, b4, show (i0 < m) = (i0 < m) from rfl] <;> (repeat' split) <;> omega)
  omega
theorem iv_276 (h v : Nat → Int) (t : Int) (a : Nat → Nat) {n : Nat} (hn : n ≤ 24) : ivS h v t a n ≤ 276 := by
  have h1 : ivS h v t a n ≤ smF (fun i => smF (fun j => if i < j then 1 else 0) n) n := sm_le n (fun i _ => sm_le n (fun j _ => by unfold ivT; split <;> split <;> omega))
  have h2 : ∀ k : Nat, k < 25 → smF (fun i => smF (fun j => if i < j then 1 else 0) k) k ≤ 276 := by decide +kernel
  have h3 := h2 n (by omega)
  omega
theorem stl_end {h v : Nat → Int} {t : Int} {n : Nat} : ∀ (f : Nat) (s : (Nat → Nat) × Int64 × Int64), (∀ i j : Nat, i < n → j < n → s.1 i = s.1 j → i = j) → ivS h v t s.1 n ≤ f → bkF h v t (stl h v t n f s).1 n = 0 := by
  intro f
  induction f with
  | zero =>
    intro s hi h0
    show bkF h v t s.1 n = 0
    rcases bk_lt h v t s.1 n with q | q
    · exact q
    · have hb := bk_spec (h := h) (v := v) (t := t) (a := s.1) n (by omega)
      have hne : s.1 ((bkF h v t s.1 n - 1) / 2) ≠ s.1 (bkF h v t s.1 n) := fun e => by have := hi _ _ (by omega) q.2 e; omega
      have := iv_lt (h := h) (v := v) (t := t) (a := s.1) (n := n) (i0 := (bkF h v t s.1 n - 1) / 2) (j0 := bkF h v t s.1 n) (by omega) q.2 (bf_to hne hb)
      omega
  | succ f ih =>
    intro s hi h0
    show bkF h v t (if bkF h v t s.1 n = 0 then s else stl h v t n f (xch s (bkF h v t s.1 n))).1 n = 0
    by_cases q : bkF h v t s.1 n = 0
    · rw [if_pos q]; exact q
    · rw [if_neg q]
      have q2 := bk_lt h v t s.1 n
      have hb := bk_spec (h := h) (v := v) (t := t) (a := s.1) n q
      have hne : s.1 ((bkF h v t s.1 n - 1) / 2) ≠ s.1 (bkF h v t s.1 n) := fun e => by have := hi _ _ (by omega) (by omega) e; omega
      have hlt := iv_lt (h := h) (v := v) (t := t) (a := s.1) (n := n) (i0 := (bkF h v t s.1 n - 1) / 2) (j0 := bkF h v t s.1 n) (by omega) (by omega) (bf_to hne hb)
      exact ih (xch s (bkF h v t s.1 n)) (sw_inj (by omega) hi (by omega) (by omega)) (by show ivS h v t (sw s.1 ((bkF h v t s.1 n - 1) / 2) (bkF h v t s.1 n)) n ≤ f; omega)
end
section
/-! what always holds, holds behind each call -/
theorem xch_a (s : (Nat → Nat) × Int64 × Int64) (k : Nat) : (xch s k).1 = sw s.1 ((k - 1) / 2) k := rfl
theorem stl_pr {h v : Nat → Int} {t : Int} {n : Nat} : ∀ (f : Nat) (s : (Nat → Nat) × Int64 × Int64), (∀ i j : Nat, i < n → j < n → s.1 i = s.1 j → i = j) → (∀ k : Nat, k < n → ∃ j : Nat, j < n ∧ (stl h v t n f s).1 k = s.1 j) ∧ (∀ k : Nat, k < n → ∃ j : Nat, j < n ∧ (stl h v t n f s).1 j = s.1 k) ∧ (∀ i j : Nat, i < n → j < n → (stl h v t n f s).1 i = (stl h v t n f s).1 j → i = j) := by
  intro f
  induction f with
  | zero => intro s hi; exact ⟨fun k hk => ⟨k, hk, rfl⟩, fun k hk => ⟨k, hk, rfl⟩, hi⟩
  | succ f ih =>
    intro s hi
    show (∀ k : Nat, k < n → ∃ j : Nat, j < n ∧ (if bkF h v t s.1 n = 0 then s else stl h v t n f (xch s (bkF h v t s.1 n))).1 k = s.1 j) ∧ (∀ k : Nat, k < n → ∃ j : Nat, j < n ∧ (if bkF h v t s.1 n = 0 then s else stl h v t n f (xch s (bkF h v t s.1 n))).1 j = s.1 k) ∧ (∀ i j : Nat, i < n → j < n → (if bkF h v t s.1 n = 0 then s else stl h v t n f (xch s (bkF h v t s.1 n))).1 i = (if bkF h v t s.1 n = 0 then s else stl h v t n f (xch s (bkF h v t s.1 n))).1 j → i = j)
    by_cases q : bkF h v t s.1 n = 0
    · rw [if_pos q]; exact ⟨fun k hk => ⟨k, hk, rfl⟩, fun k hk => ⟨k, hk, rfl⟩, hi⟩
    · rw [if_neg q]
      have q2 := bk_lt h v t s.1 n
      obtain ⟨b, hb⟩ : ∃ b, b = bkF h v t s.1 n := ⟨_, rfl⟩
      rw [← hb] at q q2 ⊢
      have hp : (b - 1) / 2 < n := by omega
      have hbn : b < n := by omega
      obtain ⟨i1, i2, i3⟩ := ih (xch s b) (sw_inj (by omega) hi hp hbn)
      refine ⟨fun k hk => ?_, fun k hk => ?_, i3⟩
      · obtain ⟨j, hj, e⟩ := i1 k hk
        have hw := sw_in (P := fun x => ∃ j : Nat, j < n ∧ x = s.1 j) (a := s.1) (n := n) (i := (b - 1) / 2) (k := b) (fun j hj => ⟨j, hj, rfl⟩) hp hbn j hj
        obtain ⟨j2, hj2, e2⟩ := hw
        exact ⟨j2, hj2, e.trans e2⟩
      · obtain ⟨j, hj, e⟩ := sw_on (a := s.1) hp hbn hk
        obtain ⟨j2, hj2, e2⟩ := i2 j hj
        exact ⟨j2, hj2, e2.trans e⟩
theorem mx {a t x : Int} : a * x = a * t + a * (x - t) := by rw [← Int.mul_add]; congr 1; omega
/-- until its end the order stands -/
theorem eoo_in {h v : Nat → Int} {t x : Int} {a b : Nat} (h0 : bef h v t a b) (htx : t ≤ x) (hx : x < eoo h v t a b) (hx6 : x ≤ 1000000) : bef h v x a b := by
  have ea : v a * x = v a * t + v a * (x - t) := mx
  have eb : v b * x = v b * t + v b * (x - t) := mx
  obtain ⟨d, hd⟩ : ∃ d, d = x - t := ⟨_, rfl⟩
  rw [← hd] at ea eb
  have hd0 : 0 ≤ d := by omega
  unfold eoo at hx
  rw [if_pos h0] at hx
  by_cases hv : v a ≤ v b
  · have hm := Int.mul_le_mul_of_nonneg_right hv hd0
    rcases h0 with q | q
    · exact Or.inl (by omega)
    · by_cases z : v a * d = v b * d
      · exact Or.inr ⟨by omega, q.2⟩
      · exact Or.inl (by omega)
  · rw [if_neg hv] at hx
    obtain ⟨c, hc⟩ : ∃ c, c = v a - v b := ⟨_, rfl⟩
    obtain ⟨g, hg⟩ : ∃ g, g = h b + v b * t - (h a + v a * t) + (if a < b then 1 else 0) := ⟨_, rfl⟩
    rw [← hc, ← hg] at hx
    have hc0 : 0 < c := by omega
    have hq := Int.ediv_mul_le (g + c - 1) (show c ≠ 0 by omega)
    have hdq : d ≤ (g + c - 1) / c - 1 := by
      unfold cro at hx
      split at hx <;> omega
    have hm := Int.mul_le_mul_of_nonneg_right hdq (Int.le_of_lt hc0)
    have e1 : ((g + c - 1) / c - 1) * c = (g + c - 1) / c * c - c := by rw [Int.sub_mul, Int.one_mul]
    have e2 : d * c = v a * d - v b * d := by rw [hc, Int.mul_sub, Int.mul_comm d, Int.mul_comm d]
    rw [e1, e2] at hm
    by_cases hab : a < b
    · rw [if_pos hab] at hg
      by_cases z : h a + v a * x = h b + v b * x
      · exact Or.inr ⟨z, hab⟩
      · exact Or.inl (by omega)
    · rw [if_neg hab] at hg
      exact Or.inl (by omega)
/-- at its end it doesn't stand any more, for the first is the faster -/
theorem eoo_out {h v : Nat → Int} {t : Int} {a b : Nat} (h0 : bef h v t a b) (he : eoo h v t a b ≤ 1000000) : v b < v a ∧ ¬ bef h v (eoo h v t a b) a b := by
  have he2 := he
  unfold eoo at he2
  rw [if_pos h0] at he2
  by_cases hv : v a ≤ v b
  · rw [if_pos hv] at he2; omega
  · refine ⟨by omega, ?_⟩
    have e0 : eoo h v t a b = cro t (h b + v b * t - (h a + v a * t) + (if a < b then 1 else 0)) (v a - v b) := by unfold eoo; rw [if_pos h0, if_neg hv]
    rw [e0] at he ⊢
    obtain ⟨c, hc⟩ : ∃ c, c = v a - v b := ⟨_, rfl⟩
    obtain ⟨g, hg⟩ : ∃ g, g = h b + v b * t - (h a + v a * t) + (if a < b then 1 else 0) := ⟨_, rfl⟩
    rw [← hc, ← hg] at he ⊢
    have hc0 : 0 < c := by omega
    have e1 : cro t g c = t + (g + c - 1) / c := by
      unfold cro at he ⊢
      split
      · rename_i q; rw [if_pos q] at he; omega
      · rfl
    rw [e1]
    obtain ⟨q, hq⟩ : ∃ q, q = (g + c - 1) / c := ⟨_, rfl⟩
    rw [← hq]
    have hm := Int.lt_ediv_add_one_mul_self (g + c - 1) hc0
    rw [← hq] at hm
    have e2 : (q + 1) * c = q * c + c := by rw [Int.add_mul, Int.one_mul]
    have e3 : q * c = v a * q - v b * q := by rw [hc, Int.mul_sub, Int.mul_comm q, Int.mul_comm q]
    have ea : v a * (t + q) = v a * t + v a * q := Int.mul_add _ _ _
    have eb : v b * (t + q) = v b * t + v b * q := Int.mul_add _ _ _
    rw [e2, e3] at hm
    intro hb
    by_cases hab : a < b
    · rw [if_pos hab] at hg
      rcases hb with z | z <;> omega
    · rw [if_neg hab] at hg
      rcases hb with z | z <;> omega
theorem bf_back {h v : Nat → Int} {t x : Int} {a b : Nat} (h0 : bef h v x a b) (hv : v b ≤ v a) (htx : t ≤ x) : bef h v t a b := by
  have ea : v a * x = v a * t + v a * (x - t) := mx
  have eb : v b * x = v b * t + v b * (x - t) := mx
  have hm := Int.mul_le_mul_of_nonneg_right hv (show 0 ≤ x - t by omega)
  rcases h0 with q | q
  · exact Or.inl (by omega)
  · by_cases z : v b * (x - t) = v a * (x - t)
    · exact Or.inr ⟨by omega, q.2⟩
    · exact Or.inl (by omega)
theorem nfF_le (h v : Nat → Int) (t : Int) (a : Nat → Nat) : ∀ n : Nat, nfF h v t a n ≤ 1000001 ∧ ∀ k : Nat, 1 ≤ k → k < n → nfF h v t a n ≤ er h v t a k := by
  intro n
  induction n with
  | zero => exact ⟨Int.le_refl _, fun k _ hk => absurd hk (Nat.not_lt_zero _)⟩
  | succ n ih =>
    have e : nfF h v t a (n + 1) = if 1 ≤ n then min (nfF h v t a n) (er h v t a n) else 1000001 := rfl
    rw [e]
    by_cases q : 1 ≤ n
    · rw [if_pos q]
      refine ⟨by omega, fun k h1 hk => ?_⟩
      rcases Nat.lt_or_eq_of_le (Nat.lt_succ_iff.mp hk) with z | z
      · have := ih.2 k h1 z; omega
      · subst z; omega
    · rw [if_neg q]
      exact ⟨Int.le_refl _, fun k h1 hk => absurd hk (by omega)⟩
theorem nfF_at (h v : Nat → Int) (t : Int) (a : Nat → Nat) : ∀ n : Nat, nfF h v t a n = 1000001 ∨ ∃ k : Nat, 1 ≤ k ∧ k < n ∧ nfF h v t a n = er h v t a k := by
  intro n
  induction n with
  | zero => exact Or.inl rfl
  | succ n ih =>
    have e : nfF h v t a (n + 1) = if 1 ≤ n then min (nfF h v t a n) (er h v t a n) else 1000001 := rfl
    rw [e]
    by_cases q : 1 ≤ n
    · rw [if_pos q]
      rcases (show min (nfF h v t a n) (er h v t a n) = er h v t a n ∨ min (nfF h v t a n) (er h v t a n) = nfF h v t a n by omega) with z | z
      · exact Or.inr ⟨n, q, Nat.lt_succ_self n, z⟩
      · rw [z]
        rcases ih with y | ⟨k, h1, h2, h3⟩
        · exact Or.inl y
        · exact Or.inr ⟨k, h1, by omega, h3⟩
    · rw [if_neg q]; exact Or.inl rfl
theorem b_time {x y t u B : Int} (h1 : -1000 ≤ y) (h2 : y ≤ 1000) (htu : t ≤ u) (h3 : -(B + 1000 * t) ≤ x + y * t) (h4 : x + y * t ≤ B + 1000 * t) : -(B + 1000 * u) ≤ x + y * u ∧ x + y * u ≤ B + 1000 * u := by
  have e : y * u = y * t + y * (u - t) := mx
  have hm := m_bd h1 h2 (show 0 ≤ u - t by omega)
  omega
/-- the same points later, the heap in order there -/
theorem inv_later {s s' : MS} (hI : Inv s) (ht : mt s ≤ mt s' ∧ mt s' ≤ 100000) (eL : mL s' = mL s) (en : mn s' = mn s) (eB : mB s' = mB s) (eO : mO s' = mO s) (em : mm s' = mm s) (ek : mk s' = mk s)
    (p1 : ∀ k : Nat, k < mn s → ∃ j : Nat, j < mn s ∧ ma s' k = ma s j) (p2 : ∀ k : Nat, k < mn s → ∃ j : Nat, j < mn s ∧ ma s' j = ma s k) (p3 : ∀ i j : Nat, i < mn s → j < mn s → ma s' i = ma s' j → i = j)
    (hc : ∀ k : Nat, 1 ≤ k → k < mn s → bef (mL s).2.1 (mL s).2.2 (mt s') (ma s' ((k - 1) / 2)) (ma s' k)) : Inv s' := by
  obtain ⟨i1, i2, i3, i4, i5, i6, i7, i8, i9, i10, i11, i12, i13⟩ := hI
  unfold Inv
  rw [eL, en, eB, eO, em, ek]
  refine ⟨⟨by omega, ht.2⟩, i2, fun k hk => ?_, p3, fun p hp hth => ?_, i6, fun p hp hth => ?_, hc, i9, ⟨i10.1, by omega⟩, fun i hi => ?_, i12, i13⟩
  · obtain ⟨j, hj, e⟩ := p1 k hk
    rw [e]; exact i3 j hj
  · obtain ⟨k, hk, e⟩ := i5 p hp hth
    obtain ⟨j, hj, e2⟩ := p2 k hk
    exact ⟨j, hj, e2.trans e⟩
  · obtain ⟨q1, q2, q3, q4⟩ := i7 p hp hth
    exact ⟨q1, q2, b_time q1 q2 ht.1 q3 q4⟩
  · have := i11 i hi
    exact ⟨this.1, by omega, this.2.2⟩
theorem inv_stp {s : MS} (hI : Inv s) {f : Int} (h1 : mt s ≤ f) (h2 : f ≤ 100000) : Inv (stpF s f) := by
  have hp := stl_pr (h := (mL s).2.1) (v := (mL s).2.2) (t := f) (n := mn s) 276 (ma s, mE s, mX s) hI.2.2.2.1
  have hz := stl_end (h := (mL s).2.1) (v := (mL s).2.2) (t := f) (n := mn s) 276 (ma s, mE s, mX s) hI.2.2.2.1 (iv_276 _ _ _ _ hI.2.1)
  exact inv_later (s' := stpF s f) hI ⟨h1, h2⟩ rfl rfl rfl rfl rfl rfl hp.1 hp.2.1 hp.2.2 (fun k q1 q2 => bk_none (mn s) hz k q1 q2)
theorem inv_setT {s : MS} (hI : Inv s) {x : Int} (h1 : mt s ≤ x) (h2 : x ≤ 100000) (hn : x < nfS s) : Inv (setT s x) :=
  inv_later (s' := setT s x) hI ⟨h1, h2⟩ rfl rfl rfl rfl rfl rfl (fun k hk => ⟨k, hk, rfl⟩) (fun k hk => ⟨k, hk, rfl⟩) hI.2.2.2.1 (fun k q1 q2 => by
    have h3 := (nfF_le (mL s).2.1 (mL s).2.2 (mt s) (ma s) (mn s)).2 k q1 q2
    exact eoo_in (hI.2.2.2.2.2.2.2.1 k q1 q2) h1 (show x < er (mL s).2.1 (mL s).2.2 (mt s) (ma s) k from Int.lt_of_lt_of_le hn h3) (Int.le_trans h2 (by decide)))
-- how often it can stop
def phT (L : LinT) (t : Int) (p q : Nat) : Nat := if p < q ∧ L.1 p = true ∧ L.1 q = true ∧ ((bef L.2.1 L.2.2 t p q ∧ L.2.2 q < L.2.2 p) ∨ (bef L.2.1 L.2.2 t q p ∧ L.2.2 p < L.2.2 q)) then 1 else 0
def phS (L : LinT) (t : Int) : Nat := smF (fun p => smF (phT L t p) 24) 24
theorem ph_276 (L : LinT) (t : Int) : phS L t ≤ 276 := by
  have h1 : phS L t ≤ smF (fun p => smF (fun q => if p < q then 1 else 0) 24) 24 := sm_le 24 (fun i _ => sm_le 24 (fun j _ => by unfold phT; split <;> split <;> omega))
  have h2 : smF (fun p => smF (fun q => if p < q then 1 else 0) 24) 24 ≤ 276 := by decide +kernel
  omega
theorem phT_le {L : LinT} {t u : Int} (htu : t ≤ u) (p q : Nat) : phT L u p q ≤ phT L t p q := by
  unfold phT
  by_cases h0 : p < q ∧ L.1 p = true ∧ L.1 q = true ∧ ((bef L.2.1 L.2.2 u p q ∧ L.2.2 q < L.2.2 p) ∨ (bef L.2.1 L.2.2 u q p ∧ L.2.2 p < L.2.2 q))
  · have h1 : p < q ∧ L.1 p = true ∧ L.1 q = true ∧ ((bef L.2.1 L.2.2 t p q ∧ L.2.2 q < L.2.2 p) ∨ (bef L.2.1 L.2.2 t q p ∧ L.2.2 p < L.2.2 q)) := by
      obtain ⟨z1, z2, z3, z4⟩ := h0
      refine ⟨z1, z2, z3, ?_⟩
      rcases z4 with y | y
      · exact Or.inl ⟨bf_back y.1 (Int.le_of_lt y.2) htu, y.2⟩
      · exact Or.inr ⟨bf_back y.1 (Int.le_of_lt y.2) htu, y.2⟩
    rw [if_pos h0, if_pos h1]; exact Nat.le_refl _
  · rw [if_neg h0]; exact Nat.zero_le _
theorem ph_lt {L : LinT} {t u : Int} (htu : t ≤ u) {a b : Nat} (ha : a < 24) (hb : b < 24) (hta : L.1 a = true) (htb : L.1 b = true) (h0 : bef L.2.1 L.2.2 t a b) (hv : L.2.2 b < L.2.2 a) (h1 : ¬ bef L.2.1 L.2.2 u a b) : phS L u < phS L t := by
  have hne : a ≠ b := fun e => by subst e; exact bf_ir h0
  unfold phS
  rcases (show a < b ∨ b < a by omega) with q | q
  · refine sm_lt 24 (fun p _ => sm_le 24 (fun q _ => phT_le htu p q)) ⟨a, ha, sm_lt 24 (fun q _ => phT_le htu a q) ⟨b, hb, ?_⟩⟩
    unfold phT
    rw [if_neg (fun z => z.2.2.2.elim (fun y => h1 y.1) (fun y => by omega)), if_pos ⟨q, hta, htb, Or.inl ⟨h0, hv⟩⟩]
    exact Nat.lt_succ_self 0
  · refine sm_lt 24 (fun p _ => sm_le 24 (fun q _ => phT_le htu p q)) ⟨b, hb, sm_lt 24 (fun q _ => phT_le htu b q) ⟨a, ha, ?_⟩⟩
    unfold phT
    rw [if_neg (fun z => z.2.2.2.elim (fun y => by omega) (fun y => h1 y.1)), if_pos ⟨q, htb, hta, Or.inr ⟨h0, hv⟩⟩]
    exact Nat.lt_succ_self 0
/-- a stop uses up a pair -/
theorem ph_stp {s : MS} (hI : Inv s) (hf : nfS s ≤ 100000) : phS (mL s) (nfS s) < phS (mL s) (mt s) := by
  rcases nfF_at (mL s).2.1 (mL s).2.2 (mt s) (ma s) (mn s) with q | ⟨k, h1, h2, h3⟩
  · unfold nfS at hf; omega
  · have hb := hI.2.2.2.2.2.2.2.1 k h1 h2
    have hk := hI.2.2.1 k h2
    have hp := hI.2.2.1 ((k - 1) / 2) (by omega)
    have e : nfS s = eoo (mL s).2.1 (mL s).2.2 (mt s) (ma s ((k - 1) / 2)) (ma s k) := h3
    have ho := eoo_out hb (by rw [← e]; omega)
    rw [← e] at ho
    exact ph_lt (nf_ge hI) hp.1 hk.1 hp.2 hk.2 hb ho.1 ho.2
theorem ps_inv {x : Int} (hx : x ≤ 100000) : ∀ (f : Nat) (s : MS), Inv s → mt s ≤ x → Inv (psF x f s).2 ∧ mt (psF x f s).2 ≤ x := by
  intro f
  induction f with
  | zero => intro s hI hs; exact ⟨hI, hs⟩
  | succ f ih =>
    intro s hI hs
    have e : psF x (f + 1) s = if nfS s ≤ x then ((psF x f (stpF s (nfS s))).1 + 1, (psF x f (stpF s (nfS s))).2) else (0, s) := rfl
    rw [e]
    by_cases q : nfS s ≤ x
    · rw [if_pos q]
      exact ih (stpF s (nfS s)) (inv_stp hI (nf_ge hI) (by omega)) q
    · rw [if_neg q]; exact ⟨hI, hs⟩
theorem ps_end {x : Int} (hx : x ≤ 100000) : ∀ (f : Nat) (s : MS), Inv s → phS (mL s) (mt s) ≤ f → x < nfS (psF x f s).2 := by
  intro f
  induction f with
  | zero =>
    intro s hI h0
    show x < nfS s
    by_cases q : nfS s ≤ x
    · have := ph_stp hI (by omega); omega
    · omega
  | succ f ih =>
    intro s hI h0
    have e : psF x (f + 1) s = if nfS s ≤ x then ((psF x f (stpF s (nfS s))).1 + 1, (psF x f (stpF s (nfS s))).2) else (0, s) := rfl
    rw [e]
    by_cases q : nfS s ≤ x
    · rw [if_pos q]
      have hlt := ph_stp hI (by omega)
      exact ih (stpF s (nfS s)) (inv_stp hI (nf_ge hI) (by omega)) (by show phS (mL s) (nfS s) ≤ f; omega)
    · rw [if_neg q]; show x < nfS s; omega
end
section
/-! what always holds, holds behind the operations -/
theorem ps_stop {x : Int} {s : MS} (hn : x < nfS s) : ∀ f : Nat, psF x f s = (0, s) := by
  intro f
  cases f with
  | zero => rfl
  | succ f =>
    show (if nfS s ≤ x then _ else _) = _
    rw [if_neg (by omega)]
theorem ps_step {x : Int} {s : MS} {i : Nat} (hi : i < 276) (hn : nfS s ≤ x) : psF x (276 - i) s = ((psF x (276 - (i + 1)) (stpF s (nfS s))).1 + 1, (psF x (276 - (i + 1)) (stpF s (nfS s))).2) := by
  rw [show 276 - i = (276 - (i + 1)) + 1 by omega]
  show (if nfS s ≤ x then _ else _) = _
  rw [if_pos hn]
theorem rp_congr {B : LinT} {O O' : Nat → OpT} : ∀ m : Nat, (∀ i : Nat, i < m → O i = O' i) → rp B O m = rp B O' m := by
  intro m
  induction m with
  | zero => intro _; rfl
  | succ m ih =>
    intro h0
    show apO (rp B O m) (O m) = apO (rp B O' m) (O' m)
    rw [ih (fun i hi => h0 i (by omega)), h0 m (Nat.lt_succ_self m)]
theorem inv_op {s : MS} (hI : Inv s) {L : LinT} {a : Nat → Nat} {n : Nat} {b : Nat → Int} {p : Nat} (hm : mm s < 200) (hp : p < 24) (hn : n ≤ 24) (ha : ∀ k : Nat, k < n → a k < 24 ∧ L.1 (a k) = true) (hinj : ∀ i j : Nat, i < n → j < n → a i = a j → i = j) (hon : ∀ q : Nat, q < 24 → L.1 q = true → ∃ k : Nat, k < n ∧ a k = q) (hcnt : cntF L.1 24 = n)
    (hbd : ∀ q : Nat, q < 24 → L.1 q = true → -1000 ≤ L.2.2 q ∧ L.2.2 q ≤ 1000 ∧ -(1000000 + 1000 * mt s) ≤ L.2.1 q + L.2.2 q * mt s ∧ L.2.1 q + L.2.2 q * mt s ≤ 1000000 + 1000 * mt s)
    (hoth : ∀ q : Nat, q < 24 → q ≠ p → L.1 q = (mL s).1 q ∧ (L.1 q = true → L.2.1 q = (mL s).2.1 q ∧ L.2.2 q = (mL s).2.2 q)) : Inv (opF s L a n b p) := by
  obtain ⟨i1, i2, i3, i4, i5, i6, i7, i8, i9, i10, i11, i12, i13⟩ := hI
  have hz := stl_end (h := L.2.1) (v := L.2.2) (t := mt s) (n := n) 276 (a, mE s, mX s) hinj (iv_276 _ _ _ _ hn)
  obtain ⟨p1, p2, p3⟩ := stl_pr (h := L.2.1) (v := L.2.2) (t := mt s) (n := n) 276 (a, mE s, mX s) hinj
  have eO : ∀ i : Nat, i < mm s → updO (mO s) (mm s) (mt s, p, L.1 p, L.2.1 p, L.2.2 p) i = mO s i := fun i hi => by unfold updO; rw [if_neg (by omega)]
  have eM : updO (mO s) (mm s) (mt s, p, L.1 p, L.2.1 p, L.2.2 p) (mm s) = (mt s, p, L.1 p, L.2.1 p, L.2.2 p) := by unfold updO; rw [if_pos rfl]
  refine ⟨i1, hn, fun k hk => ?_, p3, fun q hq hth => ?_, hcnt, hbd, fun k q1 q2 => bk_none n hz k q1 q2, by show mm s + 1 ≤ 200; omega, i10, fun i hi => ?_, fun i j hij hj => ?_, fun q hq => ?_⟩
  · obtain ⟨j, hj, e⟩ := p1 k hk
    show (stl L.2.1 L.2.2 (mt s) n 276 (a, mE s, mX s)).1 k < 24 ∧ L.1 ((stl L.2.1 L.2.2 (mt s) n 276 (a, mE s, mX s)).1 k) = true
    rw [e]; exact ha j hj
  · obtain ⟨k, hk, e⟩ := hon q hq hth
    obtain ⟨j, hj, e2⟩ := p2 k hk
    exact ⟨j, hj, e2.trans e⟩
  · have hi' : i < mm s + 1 := hi
    show mk s ≤ (updO (mO s) (mm s) (mt s, p, L.1 p, L.2.1 p, L.2.2 p) i).1 ∧ (updO (mO s) (mm s) (mt s, p, L.1 p, L.2.1 p, L.2.2 p) i).1 ≤ mt s ∧ (updO (mO s) (mm s) (mt s, p, L.1 p, L.2.1 p, L.2.2 p) i).2.1 < 24
    rcases Nat.lt_or_eq_of_le (Nat.lt_succ_iff.mp hi') with z | z
    · rw [eO i z]; exact i11 i z
    · rw [z, eM]; exact ⟨i10.2, Int.le_refl _, hp⟩
  · have hj' : j < mm s + 1 := hj
    show (updO (mO s) (mm s) (mt s, p, L.1 p, L.2.1 p, L.2.2 p) i).1 ≤ (updO (mO s) (mm s) (mt s, p, L.1 p, L.2.1 p, L.2.2 p) j).1
    rw [eO i (by omega)]
    rcases Nat.lt_or_eq_of_le (Nat.lt_succ_iff.mp hj') with z | z
    · rw [eO j z]; exact i12 i j hij z
    · rw [z, eM]; exact (i11 i (by omega)).2.1
  · show (rp (mB s) (updO (mO s) (mm s) (mt s, p, L.1 p, L.2.1 p, L.2.2 p)) (mm s + 1)).1 q = L.1 q ∧ (L.1 q = true → (rp (mB s) (updO (mO s) (mm s) (mt s, p, L.1 p, L.2.1 p, L.2.2 p)) (mm s + 1)).2.1 q = L.2.1 q ∧ (rp (mB s) (updO (mO s) (mm s) (mt s, p, L.1 p, L.2.1 p, L.2.2 p)) (mm s + 1)).2.2 q = L.2.2 q)
    have er : rp (mB s) (updO (mO s) (mm s) (mt s, p, L.1 p, L.2.1 p, L.2.2 p)) (mm s + 1) = apO (rp (mB s) (mO s) (mm s)) (mt s, p, L.1 p, L.2.1 p, L.2.2 p) := by
      show apO (rp (mB s) (updO (mO s) (mm s) (mt s, p, L.1 p, L.2.1 p, L.2.2 p)) (mm s)) (updO (mO s) (mm s) (mt s, p, L.1 p, L.2.1 p, L.2.2 p) (mm s)) = _
      rw [eM, rp_congr (mm s) eO]
    rw [er]
    unfold apO
    dsimp only
    by_cases hL : L.1 p = true
    · rw [if_pos hL]
      by_cases e : q = p
      · subst e
        refine ⟨by simp [updB, hL], fun _ => ⟨by simp [updN], by simp [updN]⟩⟩
      · have h1 := hoth q hq e
        have h2 := i13 q hq
        refine ⟨by simp only [updB, if_neg e]; rw [h2.1, h1.1], fun hth => ?_⟩
        simp only [updN, if_neg e]
        have h3 := h2.2 (by rw [← h1.1]; exact hth)
        have h4 := h1.2 hth
        exact ⟨h3.1.trans h4.1.symm, h3.2.trans h4.2.symm⟩
    · rw [if_neg hL]
      by_cases e : q = p
      · subst e
        refine ⟨by simp only [updB, if_true]; exact (Bool.not_eq_true _ ▸ hL).symm, fun hth => absurd hth hL⟩
      · have h1 := hoth q hq e
        have h2 := i13 q hq
        refine ⟨by simp only [updB, if_neg e]; rw [h2.1, h1.1], fun hth => ?_⟩
        have h3 := h2.2 (by rw [← h1.1]; exact hth)
        have h4 := h1.2 hth
        exact ⟨h3.1.trans h4.1.symm, h3.2.trans h4.2.symm⟩
theorem set_val {y w t : Int} : (y - w * t) + w * t = y := by omega
theorem inv_ins {s : MS} (hI : Inv s) (y w : Int) : Inv (insF s y w).2 := by
  unfold insF
  by_cases h1 : ¬ (okV y ∧ okW w)
  · rw [if_pos h1]; exact hI
  · rw [if_neg h1]
    by_cases h2 : lowF (mL s).1 24 = 24 ∨ 200 ≤ mm s
    · rw [if_pos h2]; exact hI
    · rw [if_neg h2]
      obtain ⟨p, hp⟩ : ∃ p, p = lowF (mL s).1 24 := ⟨_, rfl⟩
      have hok : okV y ∧ okW w := Classical.byContradiction h1
      have hlow : p < 24 ∧ (mL s).1 p = false := by
        have h0 : (∃ q : Nat, q < 24 ∧ (mL s).1 q = false) ∨ ∀ q : Nat, q < 24 → (mL s).1 q = true := by
          by_cases z : ∀ q : Nat, q < 24 → (mL s).1 q = true
          · exact Or.inr z
          · refine Or.inl (Classical.byContradiction (fun c => z (fun q hq => ?_)))
            cases hc : (mL s).1 q with
            | true => rfl
            | false => exact absurd ⟨q, hq, hc⟩ c
        rcases h0 with ⟨q, hq, hf⟩ | h0
        · obtain ⟨r, hr1, hr2⟩ := pk_least (fun k => k < 24 ∧ (mL s).1 k = false) ⟨q, hq, hf⟩
          have := low_at hr1.2 (fun j hj => by
            cases hc : (mL s).1 j with
            | true => rfl
            | false => exact absurd ⟨by omega, hc⟩ (hr2 j hj)) 24 hr1.1
          rw [hp, this]; exact hr1
        · exact absurd (Or.inl (low_all 24 h0)) h2
      rw [← hp]
      obtain ⟨hp24, hpf⟩ := hlow
      have hn24 : mn s < 24 := by rw [← hI.2.2.2.2.2.1]; exact cnt_lt hpf 24 hp24
      have hno : ∀ k : Nat, k < mn s → ma s k ≠ p := fun k hk q => by have := (hI.2.2.1 k hk).2; rw [q, hpf] at this; exact absurd this (by decide)
      have hcs := cnt_set (mL s).1 p true 24
      rw [if_pos hp24, hpf, hI.2.2.2.2.2.1] at hcs
      simp at hcs
      refine inv_op hI (by omega) hp24 (by omega) (fun k hk => ?_) (fun i j hi hj e => ?_) (fun q hq hth => ?_) (by show cntF (updB (mL s).1 p true) 24 = mn s + 1; omega) (fun q hq hth => ?_) (fun q hq hne => ?_)
      · refine ⟨?_, ht_app (fun k hk => (hI.2.2.1 k hk).2) k hk⟩
        unfold updA
        split
        · exact hp24
        · exact (hI.2.2.1 k (by omega)).1
      · unfold updA at e
        by_cases z1 : i = mn s <;> by_cases z2 : j = mn s
        · omega
        · rw [if_pos z1, if_neg z2] at e; exact absurd e.symm (hno j (by omega))
        · rw [if_neg z1, if_pos z2] at e; exact absurd e (hno i (by omega))
        · rw [if_neg z1, if_neg z2] at e; exact hI.2.2.2.1 i j (by omega) (by omega) e
      · by_cases z : q = p
        · exact ⟨mn s, by omega, by unfold updA; rw [if_pos rfl, z]⟩
        · have hth2 : (mL s).1 q = true := by
            have h5 : updB (mL s).1 p true q = true := hth
            unfold updB at h5; rw [if_neg z] at h5; exact h5
          obtain ⟨k, hk, e⟩ := hI.2.2.2.2.1 q hq hth2
          exact ⟨k, by omega, by unfold updA; rw [if_neg (by omega), e]⟩
      · show -1000 ≤ updN (mL s).2.2 p w q ∧ updN (mL s).2.2 p w q ≤ 1000 ∧ -(1000000 + 1000 * mt s) ≤ updN (mL s).2.1 p (y - w * mt s) q + updN (mL s).2.2 p w q * mt s ∧ updN (mL s).2.1 p (y - w * mt s) q + updN (mL s).2.2 p w q * mt s ≤ 1000000 + 1000 * mt s
        by_cases z : q = p
        · have e1 : updN (mL s).2.2 p w q = w := by unfold updN; rw [if_pos z]
          have e2 : updN (mL s).2.1 p (y - w * mt s) q = y - w * mt s := by unfold updN; rw [if_pos z]
          have h3 := hI.1
          obtain ⟨⟨o1, o2⟩, o3, o4⟩ := hok
          rw [e1, e2, set_val]; omega
        · have hth2 : (mL s).1 q = true := by
            have h5 : updB (mL s).1 p true q = true := hth
            unfold updB at h5; rw [if_neg z] at h5; exact h5
          have e1 : updN (mL s).2.2 p w q = (mL s).2.2 q := by unfold updN; rw [if_neg z]
          have e2 : updN (mL s).2.1 p (y - w * mt s) q = (mL s).2.1 q := by unfold updN; rw [if_neg z]
          rw [e1, e2]; exact hI.2.2.2.2.2.2.1 q hq hth2
      · show updB (mL s).1 p true q = (mL s).1 q ∧ (updB (mL s).1 p true q = true → updN (mL s).2.1 p (y - w * mt s) q = (mL s).2.1 q ∧ updN (mL s).2.2 p w q = (mL s).2.2 q)
        unfold updB updN
        rw [if_neg hne, if_neg hne, if_neg hne]
        exact ⟨rfl, fun _ => ⟨rfl, rfl⟩⟩
theorem inv_set {s : MS} (hI : Inv s) {p : Nat} {y w : Int} (hp : p < 24) (hth : (mL s).1 p = true) (hw : -1000 ≤ w ∧ w ≤ 1000) (hy : -(1000000 + 1000 * mt s) ≤ y ∧ y ≤ 1000000 + 1000 * mt s) (hm : mm s < 200) : Inv (opF s (setL (mL s) p y w (mt s)) (ma s) (mn s) (mb s) p) := by
  have hcs := cnt_set (mL s).1 p true 24
  rw [if_pos hp, hth, hI.2.2.2.2.2.1] at hcs
  simp at hcs
  have hB : ∀ q : Nat, updB (mL s).1 p true q = (mL s).1 q := fun q => by
    unfold updB
    by_cases z : q = p
    · rw [if_pos z, z, hth]
    · rw [if_neg z]
  refine inv_op hI hm hp hI.2.1 (fun k hk => ⟨(hI.2.2.1 k hk).1, ?_⟩) hI.2.2.2.1 (fun q hq hq2 => ?_) (by show cntF (updB (mL s).1 p true) 24 = mn s; omega) (fun q hq hq2 => ?_) (fun q hq hne => ?_)
  · show updB (mL s).1 p true (ma s k) = true
    rw [hB]; exact (hI.2.2.1 k hk).2
  · have h5 : updB (mL s).1 p true q = true := hq2
    rw [hB] at h5
    exact hI.2.2.2.2.1 q hq h5
  · show -1000 ≤ updN (mL s).2.2 p w q ∧ updN (mL s).2.2 p w q ≤ 1000 ∧ -(1000000 + 1000 * mt s) ≤ updN (mL s).2.1 p (y - w * mt s) q + updN (mL s).2.2 p w q * mt s ∧ updN (mL s).2.1 p (y - w * mt s) q + updN (mL s).2.2 p w q * mt s ≤ 1000000 + 1000 * mt s
    by_cases z : q = p
    · have e1 : updN (mL s).2.2 p w q = w := by unfold updN; rw [if_pos z]
      have e2 : updN (mL s).2.1 p (y - w * mt s) q = y - w * mt s := by unfold updN; rw [if_pos z]
      rw [e1, e2, set_val]; exact ⟨hw.1, hw.2, hy.1, hy.2⟩
    · have h5 : updB (mL s).1 p true q = true := hq2
      rw [hB] at h5
      have e1 : updN (mL s).2.2 p w q = (mL s).2.2 q := by unfold updN; rw [if_neg z]
      have e2 : updN (mL s).2.1 p (y - w * mt s) q = (mL s).2.1 q := by unfold updN; rw [if_neg z]
      rw [e1, e2]; exact hI.2.2.2.2.2.2.1 q hq h5
  · show updB (mL s).1 p true q = (mL s).1 q ∧ (updB (mL s).1 p true q = true → updN (mL s).2.1 p (y - w * mt s) q = (mL s).2.1 q ∧ updN (mL s).2.2 p w q = (mL s).2.2 q)
    unfold updB updN
    rw [if_neg hne, if_neg hne, if_neg hne]
    exact ⟨rfl, fun _ => ⟨rfl, rfl⟩⟩
theorem inv_vel {s : MS} (hI : Inv s) (x w : Int) : Inv (velF s x w).2 := by
  unfold velF
  by_cases h1 : ¬ (isP (mL s) x ∧ okW w)
  · rw [if_pos h1]; exact hI
  · rw [if_neg h1]
    by_cases h2 : 200 ≤ mm s
    · rw [if_pos h2]; exact hI
    · rw [if_neg h2]
      obtain ⟨⟨z1, z2, z3⟩, z4, z5⟩ := Classical.byContradiction h1
      have hb := hI.2.2.2.2.2.2.1 x.toNat (by omega) z3
      exact inv_set hI (by omega) z3 ⟨z4, z5⟩ ⟨hb.2.2.1, hb.2.2.2⟩ (by omega)
theorem inv_jmp {s : MS} (hI : Inv s) (x y : Int) : Inv (jmpF s x y).2 := by
  unfold jmpF
  by_cases h1 : ¬ (isP (mL s) x ∧ okV y)
  · rw [if_pos h1]; exact hI
  · rw [if_neg h1]
    by_cases h2 : 200 ≤ mm s
    · rw [if_pos h2]; exact hI
    · rw [if_neg h2]
      obtain ⟨⟨z1, z2, z3⟩, z4, z5⟩ := Classical.byContradiction h1
      have hb := hI.2.2.2.2.2.2.1 x.toNat (by omega) z3
      have h3 := hI.1
      exact inv_set hI (by omega) z3 ⟨hb.1, hb.2.1⟩ ⟨by omega, by omega⟩ (by omega)
theorem inv_rem {s : MS} (hI : Inv s) (x : Int) : Inv (remF s x).2 := by
  unfold remF
  by_cases h1 : ¬ isP (mL s) x
  · rw [if_pos h1]; exact hI
  · rw [if_neg h1]
    by_cases h2 : 200 ≤ mm s
    · rw [if_pos h2]; exact hI
    · rw [if_neg h2]
      obtain ⟨z1, z2, z3⟩ := Classical.byContradiction h1
      obtain ⟨p, hp⟩ : ∃ p, p = x.toNat := ⟨_, rfl⟩
      rw [← hp] at z3 ⊢
      have hp24 : p < 24 := by omega
      obtain ⟨hk, hak⟩ := inv_pl hI hp24 z3
      obtain ⟨k, hkk⟩ : ∃ k, k = plF (ma s) p (mn s) := ⟨_, rfl⟩
      rw [← hkk] at hk hak ⊢
      have hcs := cnt_set (mL s).1 p false 24
      rw [if_pos hp24, z3, hI.2.2.2.2.2.1] at hcs
      simp at hcs
      have hi4 := hI.2.2.2.1
      have hB : ∀ q : Nat, q ≠ p → updB (mL s).1 p false q = (mL s).1 q := fun q z => by unfold updB; rw [if_neg z]
      have hBp : updB (mL s).1 p false p = false := by unfold updB; rw [if_pos rfl]
      have hT := ht_take (p := p) (fun j hj => (hI.2.2.1 j hj).2) hi4 hk hak
      refine inv_op hI (by omega) hp24 (by have := hI.2.1; omega) (fun j hj => ⟨?_, hT j hj⟩) (fun i j hi hj e => ?_) (fun q hq hq2 => ?_) (by show cntF (updB (mL s).1 p false) 24 = mn s - 1; omega) (fun q hq hq2 => ?_) (fun q hq hne => ?_)
      · unfold updA
        split
        · exact (hI.2.2.1 (mn s - 1) (by omega)).1
        · exact (hI.2.2.1 j (by omega)).1
      · unfold updA at e
        by_cases y1 : i = k <;> by_cases y2 : j = k
        · omega
        · rw [if_pos y1, if_neg y2] at e; have := hi4 (mn s - 1) j (by omega) (by omega) e; omega
        · rw [if_neg y1, if_pos y2] at e; have := hi4 i (mn s - 1) (by omega) (by omega) e; omega
        · rw [if_neg y1, if_neg y2] at e; exact hi4 i j (by omega) (by omega) e
      · have h5 : updB (mL s).1 p false q = true := hq2
        have hne : q ≠ p := fun z => by rw [z, hBp] at h5; exact absurd h5 (by decide)
        rw [hB q hne] at h5
        obtain ⟨j, hj, e⟩ := hI.2.2.2.2.1 q hq h5
        have hjk : j ≠ k := fun z => by rw [z, hak] at e; exact hne e.symm
        by_cases y : j = mn s - 1
        · exact ⟨k, by omega, by unfold updA; rw [if_pos rfl, ← y, e]⟩
        · exact ⟨j, by omega, by unfold updA; rw [if_neg hjk, e]⟩
      · have h5 : updB (mL s).1 p false q = true := hq2
        have hne : q ≠ p := fun z => by rw [z, hBp] at h5; exact absurd h5 (by decide)
        rw [hB q hne] at h5
        exact hI.2.2.2.2.2.2.1 q hq h5
      · exact ⟨hB q hne, fun _ => ⟨rfl, rfl⟩⟩
theorem inv_pas {s : MS} (hI : Inv s) (x : Int) : Inv (pasF s x).2 := by
  unfold pasF
  by_cases h1 : x < mt s ∨ 100000 < x
  · rw [if_pos h1]; exact hI
  · rw [if_neg h1]
    have h2 := ps_inv (x := x) (by omega) 276 s hI (by omega)
    exact inv_setT h2.1 h2.2 (by omega) (ps_end (by omega) 276 s hI (ph_276 _ _))
theorem inv_ste {s : MS} (hI : Inv s) : Inv (steF s).2 := by
  unfold steF
  by_cases h1 : nfS s ≤ 100000
  · rw [if_pos h1]; exact inv_stp hI (nf_ge hI) h1
  · rw [if_neg h1]; exact hI
theorem inv_fog {s : MS} (hI : Inv s) : Inv (fogF s).2 := by
  obtain ⟨i1, i2, i3, i4, i5, i6, i7, i8, i9, i10, i11, i12, i13⟩ := hI
  exact ⟨i1, i2, i3, i4, i5, i6, i7, i8, Nat.zero_le _, ⟨i1.1, Int.le_refl _⟩, fun i hi => absurd hi (Nat.not_lt_zero _), fun i j _ hj => absurd hj (Nat.not_lt_zero _), fun p _ => ⟨rfl, fun _ => ⟨rfl, rfl⟩⟩⟩
end
section
/-! the first point over time; the least value -/
theorem tp_top {th : Nat → Bool} {h v : Nat → Int} {t : Int} : ∀ n : Nat, ∀ p : Nat, p < n → th p = true → (p : Int) ≠ tpF th h v t n → bef h v t (tpF th h v t n).toNat p := by
  intro n
  induction n with
  | zero => intro p hp; exact absurd hp (Nat.not_lt_zero _)
  | succ n ih =>
    intro p hp hth hne
    have hr := tp_rng th h v t n
    have e0 : tpF th h v t (n + 1) = if th n = true ∧ (tpF th h v t n = -1 ∨ bef h v t n (tpF th h v t n).toNat) then (n : Int) else tpF th h v t n := rfl
    by_cases c : th n = true ∧ (tpF th h v t n = -1 ∨ bef h v t n (tpF th h v t n).toNat)
    · rw [e0, if_pos c] at hne ⊢
      have hpn : p < n := by omega
      show bef h v t n p
      rcases c.2 with q | q
      · exact absurd hth (by rw [tp_none th h v t n q p hpn]; decide)
      · by_cases z : (p : Int) = tpF th h v t n
        · have e : (tpF th h v t n).toNat = p := by omega
          rw [e] at q; exact q
        · exact bf_tr q (ih p hpn hth z)
    · rw [e0, if_neg c] at hne ⊢
      by_cases z : p = n
      · subst z
        have c2 : ¬ (tpF th h v t p = -1 ∨ bef h v t p (tpF th h v t p).toNat) := fun y => c ⟨hth, y⟩
        exact bf_to (fun y => hne (by omega)) (fun y => c2 (Or.inr y))
      · exact ih p (by omega) hth hne
theorem tp_uni {th : Nat → Bool} {h v : Nat → Int} {t : Int} {f : Nat} (hf : th f = true) {n : Nat} (hfn : f < n) (h0 : ∀ p : Nat, p < n → th p = true → p ≠ f → bef h v t f p) : tpF th h v t n = (f : Int) := by
  have hr := tp_rng th h v t n
  rcases hr with q | ⟨q1, q2, q3⟩
  · exact absurd hf (by rw [tp_none th h v t n q f hfn]; decide)
  · by_cases z : (f : Int) = tpF th h v t n
    · exact z.symm
    · have h1 := tp_top (t := t) (h := h) (v := v) n f hfn hf z
      exact absurd h1 (bf_as (h0 _ (by omega) q3 (by omega)))
theorem tp_no {th : Nat → Bool} {h v : Nat → Int} {t : Int} : ∀ n : Nat, (∀ p : Nat, p < n → th p = false) → tpF th h v t n = -1 := by
  intro n
  induction n with
  | zero => intro _; rfl
  | succ n ih =>
    intro h0
    have e0 : tpF th h v t (n + 1) = if th n = true ∧ (tpF th h v t n = -1 ∨ bef h v t n (tpF th h v t n).toNat) then (n : Int) else tpF th h v t n := rfl
    rw [e0, if_neg (fun z => by rw [h0 n (Nat.lt_succ_self n)] at z; exact absurd z.1 (by decide))]
    exact ih (fun p hp => h0 p (by omega))
theorem nx_le {th : Nat → Bool} {h v : Nat → Int} {t f : Int} : ∀ n : Nat, ∀ p : Nat, p < n → th p = true → (p : Int) ≠ f → nxF th h v t f n ≤ eoo h v t f.toNat p := by
  intro n
  induction n with
  | zero => intro p hp; exact absurd hp (Nat.not_lt_zero _)
  | succ n ih =>
    intro p hp hth hne
    have e0 : nxF th h v t f (n + 1) = if th n = true ∧ (n : Int) ≠ f then min (nxF th h v t f n) (eoo h v t f.toNat n) else nxF th h v t f n := rfl
    rw [e0]
    by_cases z : p = n
    · subst z
      rw [if_pos ⟨hth, hne⟩]; omega
    · have h1 := ih p (by omega) hth hne
      split <;> omega
/-- until another one is first, it stays the same -/
theorem tp_keep {th : Nat → Bool} {h v : Nat → Int} {t x : Int} (htx : t ≤ x) (hx : x < nxF th h v t (tpF th h v t 24) 24) (hx6 : x ≤ 1000000) : tpF th h v x 24 = tpF th h v t 24 := by
  rcases tp_rng th h v t 24 with q | ⟨q1, q2, q3⟩
  · rw [q]; exact tp_no 24 (fun p hp => tp_none th h v t 24 q p hp)
  · have e : tpF th h v x 24 = ((tpF th h v t 24).toNat : Int) := tp_uni q3 (by omega) (fun p hp hth hne => by
      have h1 := tp_top (t := t) (h := h) (v := v) 24 p hp hth (by omega)
      have h2 := nx_le (h := h) (v := v) (t := t) (f := tpF th h v t 24) 24 p hp hth (by omega)
      exact eoo_in h1 htx (by omega) hx6)
    rw [e]; omega
theorem tp_val {th : Nat → Bool} {h v : Nat → Int} {t : Int} (h0 : tpF th h v t 24 ≠ -1) {p : Nat} (hp : p < 24) (hth : th p = true) : h (tpF th h v t 24).toNat + v (tpF th h v t 24).toNat * t ≤ h p + v p * t := by
  rcases tp_rng th h v t 24 with q | ⟨q1, q2, q3⟩
  · exact absurd q h0
  · by_cases z : (p : Int) = tpF th h v t 24
    · have e : (tpF th h v t 24).toNat = p := by omega
      rw [e]; exact Int.le_refl _
    · rcases tp_top (t := t) (h := h) (v := v) 24 p hp hth z with y | y <;> omega
theorem isC_later {O : Nat → OpT} {m r : Nat} {t x : Int} (hC : IsC O m t r) (htx : t ≤ x) (hx : r < m → x < (O r).1) : IsC O m x r := ⟨hC.1, fun i hi => Int.le_trans (hC.2.1 i hi) htx, hx⟩
theorem st_of {s : MS} (hI : Inv s) {x : Int} {r : Nat} (hC : IsC (mO s) (mm s) x r) : stA s x = rp (mB s) (mO s) r := by unfold stA; rw [← isC_eq hI hC]
theorem turn_ok {s : MS} (hI : Inv s) {t u : Int} {r : Nat} (hC : IsC (mO s) (mm s) t r) (hu : u = min (if r < mm s then (mO s r).1 else 1000001) (nxF (rp (mB s) (mO s) r).1 (rp (mB s) (mO s) r).2.1 (rp (mB s) (mO s) r).2.2 t (tpF (rp (mB s) (mO s) r).1 (rp (mB s) (mO s) r).2.1 (rp (mB s) (mO s) r).2.2 t 24) 24)) : ∀ x : Int, t ≤ x → x < u → x ≤ 1000000 → topI s x = topI s t := by
  intro x h1 h2 h3
  have e1 := st_of hI hC
  have e2 := st_of hI (isC_later hC h1 (fun q => by rw [if_pos q] at hu; omega))
  unfold topI
  rw [e1, e2]
  exact tp_keep h1 (by omega) h3
theorem spa_rng {s : MS} {x y b : Int} (h0 : spaF s x y b = 0) : b ≤ x ∧ x ≤ y ∧ y ≤ mt s ∧ y - x ≤ 500 ∧ 0 ≤ x - b ∧ mk s ≤ x - b := by
  unfold spaF at h0
  by_cases c : x < b ∨ mt s < x ∨ y < x ∨ mt s < y ∨ 500 < y - x
  · rw [if_pos c] at h0; exact absurd h0 (by decide)
  · rw [if_neg c] at h0
    rcases mom_rng s (x - b) with q | q <;> omega
-- the least value
theorem ls_eq {s : MS} (hI : Inv s) {x : Int} {r : Nat} (hC : IsC (mO s) (mm s) x r) : lsI s x = (if tpF (rp (mB s) (mO s) r).1 (rp (mB s) (mO s) r).2.1 (rp (mB s) (mO s) r).2.2 x 24 = -1 then 1000000000000 else (rp (mB s) (mO s) r).2.1 (tpF (rp (mB s) (mO s) r).1 (rp (mB s) (mO s) r).2.1 (rp (mB s) (mO s) r).2.2 x 24).toNat + (rp (mB s) (mO s) r).2.2 (tpF (rp (mB s) (mO s) r).1 (rp (mB s) (mO s) r).2.1 (rp (mB s) (mO s) r).2.2 x 24).toNat * x) := by
  unfold lsI topI
  rw [st_of hI hC]
/-- between two times a value is at least the less of the two ends -/
theorem ls_mid {s : MS} (hI : Inv s) {t e x : Int} {r : Nat} (hC : IsC (mO s) (mm s) t r) (h1 : t ≤ x) (h2 : x ≤ e) (he : r < mm s → e < (mO s r).1) : min (lsI s t) (lsI s e) ≤ lsI s x := by
  have c2 := isC_later hC h1 (fun q => by have := he q; omega)
  have c3 := isC_later hC (show t ≤ e by omega) he
  rw [ls_eq hI hC, ls_eq hI c2, ls_eq hI c3]
  obtain ⟨L, hL⟩ : ∃ L, L = rp (mB s) (mO s) r := ⟨_, rfl⟩
  rw [← hL]
  by_cases q : tpF L.1 L.2.1 L.2.2 x 24 = -1
  · have hn := tp_none L.1 L.2.1 L.2.2 x 24 q
    rw [if_pos q, if_pos (tp_no 24 hn), if_pos (tp_no 24 hn)]; omega
  · rw [if_neg q]
    rcases tp_rng L.1 L.2.1 L.2.2 x 24 with y | ⟨y1, y2, y3⟩
    · exact absurd y q
    · obtain ⟨f, hf⟩ : ∃ f, f = (tpF L.1 L.2.1 L.2.2 x 24).toNat := ⟨_, rfl⟩
      rw [← hf] at y3 ⊢
      have hf24 : f < 24 := by omega
      have n1 : ¬ tpF L.1 L.2.1 L.2.2 t 24 = -1 := fun z => by have := tp_none L.1 L.2.1 L.2.2 t 24 z f hf24; rw [y3] at this; exact absurd this (by decide)
      have n2 : ¬ tpF L.1 L.2.1 L.2.2 e 24 = -1 := fun z => by have := tp_none L.1 L.2.1 L.2.2 e 24 z f hf24; rw [y3] at this; exact absurd this (by decide)
      rw [if_neg n1, if_neg n2]
      have v1 := tp_val n1 hf24 y3
      have v2 := tp_val n2 hf24 y3
      have m1 : L.2.2 f * x = L.2.2 f * t + L.2.2 f * (x - t) := mx
      have m2 : L.2.2 f * e = L.2.2 f * x + L.2.2 f * (e - x) := mx
      by_cases z : 0 ≤ L.2.2 f
      · have := Int.mul_nonneg z (show 0 ≤ x - t by omega)
        omega
      · have h3 := Int.mul_nonneg (show 0 ≤ - L.2.2 f by omega) (show 0 ≤ e - x by omega)
        rw [Int.neg_mul] at h3
        omega
theorem lb_le {s : MS} {x : Int} : ∀ n : Nat, (∀ i : Nat, i < n → lbF s x n ≤ lsI s (x + i)) ∧ (∀ j : Nat, j ≤ n → lbF s x n ≤ lbF s x j) := by
  intro n
  induction n with
  | zero => exact ⟨fun i hi => absurd hi (Nat.not_lt_zero _), fun j hj => by rw [show j = 0 by omega]; exact Int.le_refl _⟩
  | succ n ih =>
    have e : lbF s x (n + 1) = min (lbF s x n) (lsI s (x + n)) := rfl
    refine ⟨fun i hi => ?_, fun j hj => ?_⟩
    · rcases Nat.lt_or_eq_of_le (Nat.lt_succ_iff.mp hi) with q | q
      · have := ih.1 i q; omega
      · subst q; omega
    · by_cases q : j = n + 1
      · rw [q]; exact Int.le_refl _
      · have := ih.2 j (by omega); omega
theorem lb_ge {s : MS} {x B : Int} {j : Nat} : ∀ n : Nat, j ≤ n → B ≤ lbF s x j → (∀ i : Nat, j ≤ i → i < n → B ≤ lsI s (x + i)) → B ≤ lbF s x n := by
  intro n
  induction n with
  | zero => intro h1 h2 _; rw [show j = 0 by omega] at h2; exact h2
  | succ n ih =>
    intro h1 h2 h3
    by_cases q : j = n + 1
    · rw [q] at h2; exact h2
    · have h4 := ih (by omega) h2 (fun i a b => h3 i a (by omega))
      have h5 := h3 n (by omega) (Nat.lt_succ_self n)
      have e : lbF s x (n + 1) = min (lbF s x n) (lsI s (x + n)) := rfl
      omega
theorem lb_seg {s : MS} {x : Int} {j k : Nat} (hm : ∀ i : Nat, j ≤ i → i ≤ j + k → min (lsI s (x + j)) (lsI s (x + (j + k : Nat))) ≤ lsI s (x + i)) : lbF s x (j + k + 1) = min (lbF s x j) (min (lsI s (x + j)) (lsI s (x + (j + k : Nat)))) := by
  have h1 := (lb_le (s := s) (x := x) (j + k + 1)).1 j (by omega)
  have h2 := (lb_le (s := s) (x := x) (j + k + 1)).1 (j + k) (by omega)
  have h3 := (lb_le (s := s) (x := x) (j + k + 1)).2 j (by omega)
  have h4 := lb_ge (s := s) (x := x) (B := min (lbF s x j) (min (lsI s (x + j)) (lsI s (x + (j + k : Nat))))) (j := j) (j + k + 1) (by omega) (by omega) (fun i a b => by have := hm i a (by omega); omega)
  omega
end
section
/-! p26, pure: counts, sets of places, and what is told of now -/
theorem g_l1 {x : Int64} (h0 : 0 ≤ x.toInt) (h1 : x.toInt ≤ 1000000000000) : (x + 1).toInt = x.toInt + 1 := by
  have e : (1 : Int64).toInt = 1 := rfl
  rw [b_ladd (by omega) (by omega), e]
theorem g_stl {h v : Nat → Int} {t : Int} {n : Nat} : ∀ (f : Nat) (s : (Nat → Nat) × Int64 × Int64), f ≤ 300 → 0 ≤ s.2.2.toInt → s.2.2.toInt ≤ s.2.1.toInt → s.2.1.toInt + f ≤ 100000000000 → 0 ≤ (stl h v t n f s).2.2.toInt ∧ (stl h v t n f s).2.2.toInt ≤ (stl h v t n f s).2.1.toInt ∧ s.2.1.toInt ≤ (stl h v t n f s).2.1.toInt ∧ (stl h v t n f s).2.1.toInt ≤ s.2.1.toInt + f := by
  intro f
  induction f with
  | zero => intro s _ h1 h2 h3; exact ⟨h1, h2, Int.le_refl _, by show s.2.1.toInt ≤ s.2.1.toInt + ((0 : Nat) : Int); omega⟩
  | succ f ih =>
    intro s hf h1 h2 h3
    have e : stl h v t n (f + 1) s = if bkF h v t s.1 n = 0 then s else stl h v t n f (xch s (bkF h v t s.1 n)) := rfl
    rw [e]
    by_cases q : bkF h v t s.1 n = 0
    · rw [if_pos q]; exact ⟨h1, h2, Int.le_refl _, by omega⟩
    · rw [if_neg q]
      have eE : (xch s (bkF h v t s.1 n)).2.1.toInt = s.2.1.toInt + 1 := g_l1 (by omega) (by omega)
      have eX : (xch s (bkF h v t s.1 n)).2.2.toInt = s.2.2.toInt ∨ (xch s (bkF h v t s.1 n)).2.2.toInt = s.2.2.toInt + 1 := by
        show (if (bkF h v t s.1 n - 1) / 2 = 0 then s.2.2 + 1 else s.2.2).toInt = _ ∨ (if (bkF h v t s.1 n - 1) / 2 = 0 then s.2.2 + 1 else s.2.2).toInt = _
        by_cases z : (bkF h v t s.1 n - 1) / 2 = 0
        · rw [if_pos z]; exact Or.inr (g_l1 (by omega) (by omega))
        · rw [if_neg z]; exact Or.inl rfl
      have h4 := ih (xch s (bkF h v t s.1 n)) (by omega) (by omega) (by omega) (by omega)
      omega
theorem g_stl1 {h v : Nat → Int} {t : Int} {n f : Nat} {s : (Nat → Nat) × Int64 × Int64} (hf : f < 300) (h1 : 0 ≤ s.2.2.toInt) (h2 : s.2.2.toInt ≤ s.2.1.toInt) (h3 : s.2.1.toInt + 300 ≤ 100000000000) (hb : bkF h v t s.1 n ≠ 0) : s.2.1.toInt + 1 ≤ (stl h v t n (f + 1) s).2.1.toInt := by
  have e : stl h v t n (f + 1) s = if bkF h v t s.1 n = 0 then s else stl h v t n f (xch s (bkF h v t s.1 n)) := rfl
  rw [e, if_neg hb]
  have eE : (xch s (bkF h v t s.1 n)).2.1.toInt = s.2.1.toInt + 1 := g_l1 (by omega) (by omega)
  have eX : (xch s (bkF h v t s.1 n)).2.2.toInt = s.2.2.toInt ∨ (xch s (bkF h v t s.1 n)).2.2.toInt = s.2.2.toInt + 1 := by
    show (if (bkF h v t s.1 n - 1) / 2 = 0 then s.2.2 + 1 else s.2.2).toInt = _ ∨ (if (bkF h v t s.1 n - 1) / 2 = 0 then s.2.2 + 1 else s.2.2).toInt = _
    by_cases z : (bkF h v t s.1 n - 1) / 2 = 0
    · rw [if_pos z]; exact Or.inr (g_l1 (by omega) (by omega))
    · rw [if_neg z]; exact Or.inl rfl
  have h4 := (g_stl (h := h) (v := v) (t := t) (n := n) f (xch s (bkF h v t s.1 n)) (by omega) (by omega) (by omega) (by omega)).2.2.1
  omega
/-- what holds behind k acts -/
def Jg (k : Nat) (s : MS) : Prop := Inv s ∧ (∀ p : Nat, p < 24 → (mL s).1 p = true → mb s p ≤ mt s) ∧ mm s ≤ k ∧ 0 ≤ (mX s).toInt ∧ (mX s).toInt ≤ (mE s).toInt ∧ (mE s).toInt ≤ 80000 * (k : Int) ∧ 0 ≤ (mS s).toInt ∧ (mS s).toInt ≤ 300 * (k : Int)
theorem jg_up {k : Nat} {s : MS} (hJ : Jg k s) : Jg (k + 1) s := by
  obtain ⟨i0, i1, i2, i3, i4, i5, i6, i7⟩ := hJ
  exact ⟨i0, i1, by omega, i3, i4, by omega, i6, by omega⟩
theorem jg_op {k : Nat} {s : MS} (hJ : Jg k s) (hk : k ≤ 100) {L : LinT} {a : Nat → Nat} {n : Nat} {b : Nat → Int} {p : Nat} (hI : Inv (opF s L a n b p)) (hb : ∀ q : Nat, q < 24 → L.1 q = true → b q ≤ mt s) : Jg (k + 1) (opF s L a n b p) := by
  obtain ⟨i0, i1, i2, i3, i4, i5, i6, i7⟩ := hJ
  have h1 := g_stl (h := L.2.1) (v := L.2.2) (t := mt s) (n := n) 276 (a, mE s, mX s) (by decide) i3 i4 (by show (mE s).toInt + ((276 : Nat) : Int) ≤ 100000000000; omega)
  have h3 : (mE (opF s L a n b p)).toInt ≤ (mE s).toInt + ((276 : Nat) : Int) := h1.2.2.2
  refine ⟨hI, hb, ?_, h1.1, h1.2.1, ?_, i6, ?_⟩
  · show mm s + 1 ≤ k + 1; omega
  · omega
  · show (mS s).toInt ≤ 300 * ((k + 1 : Nat) : Int); omega
-- sets of numbers below n, and how many are in them
theorem c_le {f g : Nat → Bool} : ∀ n : Nat, (∀ i : Nat, i < n → f i = true → g i = true) → cntF f n ≤ cntF g n := by
  intro n
  induction n with
  | zero => intro _; exact Nat.le_refl _
  | succ n ih =>
    intro h0
    have h1 := ih (fun i hi => h0 i (by omega))
    show cntF f n + (if f n = true then 1 else 0) ≤ cntF g n + (if g n = true then 1 else 0)
    by_cases z : f n = true
    · rw [if_pos z, if_pos (h0 n (Nat.lt_succ_self n) z)]; omega
    · rw [if_neg z]; omega
theorem c_eq {f g : Nat → Bool} (n : Nat) (h0 : ∀ i : Nat, i < n → f i = g i) : cntF f n = cntF g n := Nat.le_antisymm (c_le n (fun i hi z => by rw [← h0 i hi]; exact z)) (c_le n (fun i hi z => by rw [h0 i hi]; exact z))
theorem c_ex {f g : Nat → Bool} {n : Nat} (h0 : cntF f n < cntF g n) : ∃ i : Nat, i < n ∧ f i = false ∧ g i = true := by
  refine Classical.byContradiction (fun c => ?_)
  have h1 := c_le (f := g) (g := f) n (fun i hi z => by
    cases y : f i with
    | true => rfl
    | false => exact absurd ⟨i, hi, y, z⟩ c)
  omega
theorem c_add {f : Nat → Bool} {k n : Nat} (hk : k < n) (hf : f k = false) : cntF (updB f k true) n = cntF f n + 1 := by
  have h1 := cnt_set f k true n
  rw [if_pos hk, hf] at h1
  simp at h1
  omega
-- ranks of certificates
def cC (g : Nat → Int) (k : Nat) : Bool := decide (1 ≤ k ∧ g k ≠ 1000001)
def cE (g : Nat → Int) (k j : Nat) : Bool := decide (1 ≤ j ∧ (g j < g k ∨ (g j = g k ∧ j < k)))
theorem cC_iff {g : Nat → Int} {k : Nat} : cC g k = true ↔ 1 ≤ k ∧ g k ≠ 1000001 := by unfold cC; exact decide_eq_true_iff
theorem cE_iff {g : Nat → Int} {k j : Nat} : cE g k j = true ↔ 1 ≤ j ∧ (g j < g k ∨ (g j = g k ∧ j < k)) := by unfold cE; exact decide_eq_true_iff
theorem et_cnt (g : Nat → Int) (k : Nat) : ∀ n : Nat, etF g k (g k) n = cntF (cE g k) n := by
  intro n
  induction n with
  | zero => rfl
  | succ n ih =>
    show etF g k (g k) n + (if 1 ≤ n ∧ (g n < g k ∨ (g n = g k ∧ n < k)) then 1 else 0) = cntF (cE g k) n + (if cE g k n = true then 1 else 0)
    rw [ih]
    by_cases z : cE g k n = true
    · rw [if_pos z, if_pos (cE_iff.mp z)]
    · rw [if_neg z, if_neg (fun y => z (cE_iff.mpr y))]
theorem cl_cnt (h v : Nat → Int) (t : Int) (a : Nat → Nat) : ∀ n : Nat, clF h v t a n = cntF (cC (er h v t a)) n := by
  intro n
  induction n with
  | zero => rfl
  | succ n ih =>
    show clF h v t a n + (if 1 ≤ n ∧ er h v t a n ≠ 1000001 then 1 else 0) = cntF (cC (er h v t a)) n + (if cC (er h v t a) n = true then 1 else 0)
    rw [ih]
    by_cases z : cC (er h v t a) n = true
    · rw [if_pos z, if_pos (cC_iff.mp z)]
    · rw [if_neg z, if_neg (fun y => z (cC_iff.mpr y))]
/-- a set that the certificates' order closes downwards, of x of them: the next one has rank x, and just those are before it -/
theorem c_next {g : Nat → Int} {n x : Nat} (hg : ∀ k : Nat, g k ≤ 1000001) {S : Nat → Bool} (hS : ∀ i : Nat, i < n → S i = true → cC g i = true) (hd : ∀ i j : Nat, i < n → j < n → cC g i = true → S i = false → S j = true → cE g i j = true) (hx : cntF S n = x) (hlt : x < cntF (cC g) n) : ∃ k : Nat, k < n ∧ cC g k = true ∧ S k = false ∧ etF g k (g k) n = x ∧ ∀ j : Nat, j < n → cE g k j = S j := by
  obtain ⟨i0, h1, h2, h3⟩ := c_ex (f := S) (g := cC g) (n := n) (by omega)
  obtain ⟨r, ⟨k, hk, hC, hSk, hr⟩, hmin⟩ := pk_least (fun r => ∃ k : Nat, k < n ∧ cC g k = true ∧ S k = false ∧ cntF (cE g k) n = r) ⟨_, i0, h1, h3, h2, rfl⟩
  have hC2 := cC_iff.mp hC
  have hsub : ∀ j : Nat, j < n → cE g k j = S j := by
    intro j hj
    cases z : S j with
    | true => exact hd k j hk hj hC hSk z
    | false =>
      cases y : cE g k j with
      | false => rfl
      | true =>
        have y2 := cE_iff.mp y
        have hgj := hg j
        have hgk := hg k
        have hCj : cC g j = true := cC_iff.mpr ⟨y2.1, by omega⟩
        have hlt2 : cntF (cE g j) n < cntF (cE g k) n := by
          have q1 := c_add (f := cE g j) (k := j) (n := n) hj (by
            cases w : cE g j j with
            | false => rfl
            | true => have := cE_iff.mp w; omega)
          have q2 := c_le (f := updB (cE g j) j true) (g := cE g k) n (fun i hi w => by
            unfold updB at w
            by_cases e : i = j
            · rw [e]; exact y
            · rw [if_neg e] at w
              have w2 := cE_iff.mp w
              exact cE_iff.mpr ⟨w2.1, by omega⟩)
          omega
        exact absurd ⟨j, hj, hCj, z, rfl⟩ (hmin _ (by omega))
  exact ⟨k, hk, hC, hSk, by rw [et_cnt, c_eq n hsub, hx], hsub⟩
theorem c_all {g : Nat → Int} {n : Nat} (hg : ∀ k : Nat, g k ≤ 1000001) : ∀ x : Nat, x ≤ cntF (cC g) n → ∃ S : Nat → Bool, (∀ i : Nat, i < n → S i = true → cC g i = true) ∧ (∀ i j : Nat, i < n → j < n → cC g i = true → S i = false → S j = true → cE g i j = true) ∧ cntF S n = x := by
  intro x
  induction x with
  | zero =>
    intro _
    refine ⟨fun _ => false, fun _ _ h => by simp at h, fun _ _ _ _ _ _ h => by simp at h, ?_⟩
    have : ∀ m : Nat, cntF (fun _ => false) m = 0 := by
      intro m
      induction m with
      | zero => rfl
      | succ m ih => show cntF (fun _ => false) m + (if false = true then 1 else 0) = 0; rw [ih]; rfl
    exact this n
  | succ x ih =>
    intro hx
    obtain ⟨S, h1, h2, h3⟩ := ih (by omega)
    obtain ⟨k, hk, hC, hSk, hr, hsub⟩ := c_next hg h1 h2 h3 (by omega)
    refine ⟨updB S k true, fun i hi z => ?_, fun i j hi hj hCi z y => ?_, by rw [c_add hk hSk, h3]⟩
    · unfold updB at z
      by_cases e : i = k
      · rw [e]; exact hC
      · rw [if_neg e] at z; exact h1 i hi z
    · unfold updB at z y
      by_cases e : i = k
      · rw [if_pos e] at z; simp at z
      · rw [if_neg e] at z
        by_cases e2 : j = k
        · have hn : cE g k i = false := by rw [hsub i hi]; exact z
          have hn2 : ¬ (1 ≤ i ∧ (g i < g k ∨ (g i = g k ∧ i < k))) := fun w => by rw [cE_iff.mpr w] at hn; simp at hn
          have hCi2 := cC_iff.mp hCi
          have hCk2 := cC_iff.mp hC
          rw [e2]
          exact cE_iff.mpr ⟨hCk2.1, by omega⟩
        · rw [if_neg e2] at y; exact h2 i j hi hj hCi z y
theorem c_rank {g : Nat → Int} {n x : Nat} (hg : ∀ k : Nat, g k ≤ 1000001) (hx : x < cntF (cC g) n) : ∃ k : Nat, CE g n (x : Int) k := by
  obtain ⟨S, h1, h2, h3⟩ := c_all (g := g) (n := n) hg x (by omega)
  obtain ⟨k, hk, hC, -, hr, -⟩ := c_next hg h1 h2 h3 hx
  have hC2 := cC_iff.mp hC
  exact ⟨k, hC2.1, hk, hC2.2, by rw [hr]⟩
theorem c_mono {g : Nat → Int} {n x : Nat} {k1 k2 : Nat} (h1 : CE g n (x : Int) k1) (h2 : CE g n ((x + 1 : Nat) : Int) k2) : g k1 ≤ g k2 := by
  by_cases q : g k1 ≤ g k2
  · exact q
  · have e1 := h1.2.2.2
    have e2 := h2.2.2.2
    rw [et_cnt] at e1 e2
    have := c_le (f := cE g k2) (g := cE g k1) n (fun i hi w => by
      have w2 := cE_iff.mp w
      exact cE_iff.mpr ⟨w2.1, by omega⟩)
    omega
theorem c_first {g : Nat → Int} {n : Nat} {k j : Nat} (h1 : CE g n 0 k) (hj1 : 1 ≤ j) (hj : j < n) : g k ≤ g j := by
  by_cases q : g k ≤ g j
  · exact q
  · have e1 := h1.2.2.2
    rw [et_cnt] at e1
    have h2 : cE g k j = true := cE_iff.mpr ⟨hj1, by omega⟩
    have h3 := c_le (f := updB (fun _ => false) j true) (g := cE g k) n (fun i hi w => by
      unfold updB at w
      by_cases e : i = j
      · rw [e]; exact h2
      · rw [if_neg e] at w; simp at w)
    have h4 := c_add (f := fun _ => false) (k := j) (n := n) hj rfl
    omega
theorem ce_of {g : Nat → Int} {n x : Nat} (hg : ∀ k : Nat, g k ≤ 1000001) (hx : x < cntF (cC g) n) : CE g n (x : Int) (ceF g n (x : Int) n) := by
  obtain ⟨k, hk, hmin⟩ := pk_least (fun k => CE g n (x : Int) k) (c_rank hg hx)
  have e : ceF g n (x : Int) n = k := ce_at hk (fun j hj z => hmin j hj z) n (Nat.le_refl n) hk.2.1
  rw [e]; exact hk
end
section
/-! p26, pure: what is told of now -/
theorem g_th {s : MS} (hI : Inv s) {k : Nat} (hk : k < mn s) : ma s k < 24 ∧ (mL s).1 (ma s k) = true := hI.2.2.1 k hk
theorem g_mom {s : MS} (hI : Inv s) : momF s (mt s) = 0 := by
  have h1 := hI.1
  have h2 := hI.2.2.2.2.2.2.2.2.2.1
  unfold momF
  rw [if_neg (by omega), if_pos (by omega)]
theorem g_sta {s : MS} (hI : Inv s) : stA s (mt s) = rp (mB s) (mO s) (mm s) :=
  st_of hI (r := mm s) ⟨Nat.le_refl _, fun i hi => (hI.2.2.2.2.2.2.2.2.2.2.1 i hi).2.1, fun h => absurd h (Nat.lt_irrefl _)⟩
theorem g_now {s : MS} (hI : Inv s) : ∀ p : Nat, p < 24 → (stA s (mt s)).1 p = (mL s).1 p ∧ ((mL s).1 p = true → (stA s (mt s)).2.1 p = (mL s).2.1 p ∧ (stA s (mt s)).2.2 p = (mL s).2.2 p) := by
  rw [g_sta hI]; exact hI.2.2.2.2.2.2.2.2.2.2.2.2
theorem g_rk {th th' : Nat → Bool} {h h' v v' : Nat → Int} {t : Int} {p : Nat} (hp : h p = h' p ∧ v p = v' p) : ∀ n : Nat, (∀ q : Nat, q < n → th q = th' q ∧ (th q = true → h q = h' q ∧ v q = v' q)) → rkF th h v t p n = rkF th' h' v' t p n := by
  intro n
  induction n with
  | zero => intro _; rfl
  | succ n ih =>
    intro h0
    show rkF th h v t p n + (if th n = true ∧ bef h v t n p then 1 else 0) = rkF th' h' v' t p n + (if th' n = true ∧ bef h' v' t n p then 1 else 0)
    rw [ih (fun q hq => h0 q (by omega))]
    obtain ⟨e1, e2⟩ := h0 n (Nat.lt_succ_self n)
    by_cases z : th n = true
    · obtain ⟨e3, e4⟩ := e2 z
      have eb : bef h v t n p ↔ bef h' v' t n p := by
        show (h n + v n * t < h p + v p * t ∨ (h n + v n * t = h p + v p * t ∧ n < p)) ↔ (h' n + v' n * t < h' p + v' p * t ∨ (h' n + v' n * t = h' p + v' p * t ∧ n < p))
        rw [e3, e4, hp.1, hp.2]
      by_cases w : bef h v t n p
      · rw [if_pos ⟨z, w⟩, if_pos ⟨by rw [← e1]; exact z, eb.mp w⟩]
      · rw [if_neg (fun y => w y.2), if_neg (fun y => w (eb.mpr y.2))]
    · rw [if_neg (fun y => z y.1), if_neg (fun y => z (by rw [e1]; exact y.1))]
theorem g_rklt {th : Nat → Bool} {h v : Nat → Int} {t : Int} {p q : Nat} (hb : bef h v t p q) (hth : th p = true) : ∀ n : Nat, rkF th h v t p n ≤ rkF th h v t q n ∧ (p < n → rkF th h v t p n < rkF th h v t q n) := by
  intro n
  induction n with
  | zero => exact ⟨Nat.le_refl _, fun h => absurd h (Nat.not_lt_zero _)⟩
  | succ n ih =>
    have e1 : rkF th h v t p (n + 1) = rkF th h v t p n + (if th n = true ∧ bef h v t n p then 1 else 0) := rfl
    have e2 : rkF th h v t q (n + 1) = rkF th h v t q n + (if th n = true ∧ bef h v t n q then 1 else 0) := rfl
    rw [e1, e2]
    by_cases z : n = p
    · subst z
      rw [if_neg (fun y => bf_ir y.2), if_pos ⟨hth, hb⟩]
      have := ih.1
      exact ⟨by omega, fun _ => by omega⟩
    · by_cases w : th n = true ∧ bef h v t n p
      · rw [if_pos w, if_pos ⟨w.1, bf_tr w.2 hb⟩]
        exact ⟨by have := ih.1; omega, fun y => by have := ih.2 (by omega); omega⟩
      · rw [if_neg w]
        exact ⟨by have := ih.1; omega, fun y => by have := ih.2 (by omega); omega⟩
theorem g_isP {s : MS} {p : Nat} (hp : p < 24) (ht : (mL s).1 p = true) : isP (mL s) (p : Int) := ⟨by omega, by omega, ht⟩
theorem g_p0 {s : MS} {p : Nat} (hp : p < 24) (ht : (mL s).1 p = true) : ptF s (p : Int) 0 = valP s p := by
  unfold ptF; rw [if_neg (not_not_intro (g_isP hp ht)), if_pos rfl]; rfl
theorem g_p1 {s : MS} {p : Nat} (hp : p < 24) (ht : (mL s).1 p = true) : ptF s (p : Int) 1 = (mL s).2.2 p := by
  unfold ptF; rw [if_neg (not_not_intro (g_isP hp ht)), if_neg (by decide), if_pos rfl]; rfl
theorem g_p2 {s : MS} (hI : Inv s) {k : Nat} (hk : k < mn s) : ptF s (ma s k : Int) 2 = (k : Int) := by
  obtain ⟨hp, ht⟩ := g_th hI hk
  unfold ptF; rw [if_neg (not_not_intro (g_isP hp ht)), if_neg (by decide), if_neg (by decide), if_pos rfl]
  have e : plF (ma s) (ma s k) (mn s) = k := pl_at rfl (fun j hj q => by have := hI.2.2.2.1 j k (by omega) hk q; omega) (mn s) hk
  show ((plF (ma s) (ma s k) (mn s) : Nat) : Int) = (k : Int)
  rw [e]
theorem g_p3 {s : MS} {p : Nat} (hp : p < 24) (ht : (mL s).1 p = true) : ptF s (p : Int) 3 = mb s p := by
  unfold ptF; rw [if_neg (not_not_intro (g_isP hp ht)), if_neg (by decide), if_neg (by decide), if_neg (by decide), if_pos rfl]; rfl
theorem g_p4 {s : MS} {p : Nat} (hp : p < 24) (ht : (mL s).1 p = true) : ptF s (p : Int) 4 = (rkF (mL s).1 (mL s).2.1 (mL s).2.2 (mt s) p 24 : Int) := by
  unfold ptF; rw [if_neg (not_not_intro (g_isP hp ht)), if_neg (by decide), if_neg (by decide), if_neg (by decide), if_neg (by decide), if_pos rfl]; rfl
theorem g_va {s : MS} (hI : Inv s) {p : Nat} (hp : p < 24) (ht : (mL s).1 p = true) : vaaF s (p : Int) (mt s) = valP s p := by
  obtain ⟨e1, e2⟩ := g_now hI p hp
  obtain ⟨e3, e4⟩ := e2 ht
  unfold vaaF
  rw [if_neg (by omega), if_pos (g_mom hI), if_pos (show (stA s (mt s)).1 (p : Int).toNat = true from e1.trans ht)]
  show (stA s (mt s)).2.1 p + (stA s (mt s)).2.2 p * mt s = valP s p
  rw [e3, e4]; rfl
theorem g_va0 {s : MS} (hI : Inv s) {p : Nat} (hp : p < 24) (ht : (mL s).1 p = false) : vaaF s (p : Int) (mt s) = aNF := by
  obtain ⟨e1, e2⟩ := g_now hI p hp
  unfold vaaF
  rw [if_neg (by omega), if_pos (g_mom hI), if_neg (show ¬ (stA s (mt s)).1 (p : Int).toNat = true from fun z => by have z2 := e1.symm.trans z; rw [ht] at z2; exact absurd z2 (by decide))]
theorem g_ora {s : MS} (hI : Inv s) {p : Nat} (hp : p < 24) (ht : (mL s).1 p = true) : oraF s (rkF (mL s).1 (mL s).2.1 (mL s).2.2 (mt s) p 24 : Int) (mt s) = (p : Int) := by
  have hn := g_now hI
  have er : ∀ q : Nat, q < 24 → (mL s).1 q = true → rkF (stA s (mt s)).1 (stA s (mt s)).2.1 (stA s (mt s)).2.2 (mt s) q 24 = rkF (mL s).1 (mL s).2.1 (mL s).2.2 (mt s) q 24 := fun q hq hth =>
    g_rk ((hn q hq).2 hth) 24 (fun r hr => ⟨(hn r hr).1, fun z => (hn r hr).2 (by rw [← (hn r hr).1]; exact z)⟩)
  have e : orF (stA s (mt s)) (mt s) (rkF (mL s).1 (mL s).2.1 (mL s).2.2 (mt s) p 24 : Int) 24 = (p : Int) := or_at ⟨by rw [(hn p hp).1]; exact ht, by rw [er p hp ht]⟩ (fun q hq z => by
    have hq24 : q < 24 := by omega
    have hthq : (mL s).1 q = true := by rw [← (hn q hq24).1]; exact z.1
    have z2 := z.2
    rw [er q hq24 hthq] at z2
    by_cases b1 : bef (mL s).2.1 (mL s).2.2 (mt s) p q
    · have := (g_rklt b1 ht 24).2 hp; omega
    · have := (g_rklt (bf_to (show p ≠ q by omega) b1) hthq 24).2 hq24; omega) 24 hp
  unfold oraF
  rw [if_neg (by omega), if_pos (g_mom hI), e]
  unfold ponF
  rw [if_neg (by omega)]
theorem g_at {s : MS} {k : Nat} (hk : k < mn s) : atF s (k : Int) = (ma s k : Int) := by
  unfold atF; rw [if_neg (by omega), if_pos (by omega)]; rfl
theorem g_hp {s : MS} (hI : Inv s) {k : Nat} (h1 : 1 ≤ k) (hk : k < mn s) : bef (mL s).2.1 (mL s).2.2 (mt s) (ma s ((k - 1) / 2)) (ma s k) := hI.2.2.2.2.2.2.2.1 k h1 hk
theorem g_ord {s : MS} (hI : Inv s) {k : Nat} (h1 : 1 ≤ k) (hk : k < mn s) : valP s (ma s ((k - 1) / 2)) < valP s (ma s k) ∨ (valP s (ma s ((k - 1) / 2)) = valP s (ma s k) ∧ ma s ((k - 1) / 2) < ma s k) := g_hp hI h1 hk
theorem g_eoo {h v : Nat → Int} {t : Int} {a b : Nat} (ht : t ≤ 100000) (hb : bef h v t a b) : t < eoo h v t a b ∧ eoo h v t a b ≤ 1000001 := by
  unfold eoo
  rw [if_pos hb]
  by_cases q : v a ≤ v b
  · rw [if_pos q]; omega
  · rw [if_neg q]
    obtain ⟨c, hc⟩ : ∃ c, c = v a - v b := ⟨_, rfl⟩
    obtain ⟨g, hg⟩ : ∃ g, g = h b + v b * t - (h a + v a * t) + (if a < b then 1 else 0) := ⟨_, rfl⟩
    rw [← hc, ← hg]
    have hg1 : 1 ≤ g := by
      rcases hb with z | z
      · split at hg <;> omega
      · rw [if_pos z.2] at hg; omega
    have h1 : 1 ≤ (g + c - 1) / c := (Int.le_ediv_iff_mul_le (by omega)).mpr (by omega)
    unfold cro
    split <;> omega
theorem g_er {s : MS} (hI : Inv s) {k : Nat} (h1 : 1 ≤ k) (hk : k < mn s) : mt s < erS s k ∧ erS s k ≤ 1000001 := g_eoo hI.1.2 (g_hp hI h1 hk)
theorem g_cro (t g c : Int) : cro t g c ≤ 1000001 := by unfold cro; split <;> omega
theorem g_er1 {s : MS} (hI : Inv s) (k : Nat) : erS s k ≤ 1000001 := by
  have h0 := hI.1.2
  unfold erS er eoo
  split
  · split
    · exact Int.le_refl _
    · exact g_cro _ _ _
  · omega
theorem g_fai {s : MS} {k : Nat} (h1 : 1 ≤ k) (hk : k < mn s) : faiF s (k : Int) = tonF (erS s k) := by
  unfold faiF; rw [if_pos (by omega)]; rfl
theorem g_ton {s : MS} (hI : Inv s) {k : Nat} (h1 : 1 ≤ k) (hk : k < mn s) : (tonF (erS s k) = aNF ∧ erS s k = 1000001) ∨ (mt s < tonF (erS s k) ∧ 0 ≤ tonF (erS s k) ∧ tonF (erS s k) = erS s k ∧ erS s k ≠ 1000001) := by
  have h2 := g_er hI h1 hk
  have h3 := hI.1
  unfold tonF
  by_cases q : erS s k = 1000001
  · rw [if_pos q]; exact Or.inl ⟨rfl, q⟩
  · rw [if_neg q]; exact Or.inr ⟨by omega, by omega, rfl, q⟩
theorem g_met {s : MS} (hI : Inv s) {k : Nat} (h1 : 1 ≤ k) (hk : k < mn s) : metF s (ma s k : Int) (ma s ((k - 1) / 2) : Int) = tonF (erS s k) := by
  obtain ⟨hp, ht⟩ := g_th hI hk
  obtain ⟨hp2, ht2⟩ := g_th hI (show (k - 1) / 2 < mn s by omega)
  have hb := g_hp hI h1 hk
  have hne : ma s k ≠ ma s ((k - 1) / 2) := fun e => by rw [e] at hb; exact bf_ir hb
  unfold metF
  rw [if_neg (not_not_intro ⟨g_isP hp ht, g_isP hp2 ht2, by omega⟩), if_neg (show ¬ bef (mL s).2.1 (mL s).2.2 (mt s) (ma s k : Int).toNat (ma s ((k - 1) / 2) : Int).toNat from bf_as hb)]
  rfl
theorem g_root {s : MS} (hI : Inv s) : ∀ m k : Nat, k ≤ m → 0 < k → k < mn s → bef (mL s).2.1 (mL s).2.2 (mt s) (ma s 0) (ma s k) := by
  intro m
  induction m with
  | zero => intro k h1 h2; omega
  | succ m ih =>
    intro k h1 h2 h3
    have hb := g_hp hI (k := k) (by omega) h3
    by_cases q : (k - 1) / 2 = 0
    · rw [q] at hb; exact hb
    · exact bf_tr (ih ((k - 1) / 2) (by omega) (by omega) (by omega)) hb
/-- the first point of now -/
theorem g_tp {s : MS} (hI : Inv s) {L : LinT} (hL : ∀ p : Nat, p < 24 → L.1 p = (mL s).1 p ∧ ((mL s).1 p = true → L.2.1 p = (mL s).2.1 p ∧ L.2.2 p = (mL s).2.2 p)) : tpF L.1 L.2.1 L.2.2 (mt s) 24 = (if mn s = 0 then -1 else (ma s 0 : Int)) := by
  by_cases z : mn s = 0
  · rw [if_pos z]
    refine tp_no 24 (fun p hp => ?_)
    rw [(hL p hp).1]
    cases q : (mL s).1 p with
    | false => rfl
    | true =>
      obtain ⟨k, hk, _⟩ := hI.2.2.2.2.1 p hp q
      omega
  · rw [if_neg z]
    obtain ⟨hp0, ht0⟩ := g_th hI (k := 0) (by omega)
    refine tp_uni (by rw [(hL _ hp0).1]; exact ht0) hp0 (fun p hp hth hne => ?_)
    have hth2 : (mL s).1 p = true := by rw [← (hL p hp).1]; exact hth
    obtain ⟨k, hk, e⟩ := hI.2.2.2.2.1 p hp hth2
    have hb := g_root hI k k (Nat.le_refl _) (by
      rcases Nat.eq_zero_or_pos k with y | y
      · rw [y] at e; exact absurd e.symm hne
      · exact y) hk
    rw [e] at hb
    obtain ⟨e1, e2⟩ := (hL _ hp0).2 ht0
    obtain ⟨e3, e4⟩ := (hL p hp).2 hth2
    show L.2.1 (ma s 0) + L.2.2 (ma s 0) * mt s < L.2.1 p + L.2.2 p * mt s ∨ (L.2.1 (ma s 0) + L.2.2 (ma s 0) * mt s = L.2.1 p + L.2.2 p * mt s ∧ ma s 0 < p)
    rw [e1, e2, e3, e4]; exact hb
theorem g_top {s : MS} (hI : Inv s) : toaF s (mt s) = (if mn s = 0 then aNF else (ma s 0 : Int)) := by
  have e : topI s (mt s) = _ := g_tp hI (g_now hI)
  unfold toaF
  rw [if_pos (g_mom hI), e]
  unfold ponF
  by_cases z : mn s = 0
  · rw [if_pos z, if_pos z, if_pos rfl]
  · rw [if_neg z, if_neg z, if_neg (by omega)]
theorem g_sza {s : MS} (hI : Inv s) : szaF s (mt s) = (mn s : Int) := by
  unfold szaF
  rw [if_pos (g_mom hI), c_eq 24 (fun p hp => (g_now hI p hp).1), hI.2.2.2.2.2.1]
theorem g_cas (s : MS) : casF s = (cntF (cC (erS s)) (mn s) : Int) := by
  unfold casF; rw [cl_cnt]; rfl
/-- an entry of the calendar -/
theorem g_cal {s : MS} (hI : Inv s) {x : Nat} (hx : x < cntF (cC (erS s)) (mn s)) : ∃ k : Nat, CE (erS s) (mn s) (x : Int) k ∧ 1 ≤ k ∧ k < mn s ∧ calF s (x : Int) 0 = erS s k ∧ calF s (x : Int) 1 = (k : Int) ∧ faiF s (k : Int) = erS s k ∧ 0 ≤ erS s k := by
  have h1 := ce_of (g_er1 hI) hx
  obtain ⟨k, hk⟩ : ∃ k, k = ceF (erS s) (mn s) (x : Int) (mn s) := ⟨_, rfl⟩
  rw [← hk] at h1
  have h2 := g_er hI h1.1 h1.2.1
  have h3 := hI.1
  refine ⟨k, h1, h1.1, h1.2.1, ?_, ?_, ?_, by omega⟩
  · unfold calF; rw [if_neg (by omega), ← hk, if_neg (by have := h1.1; omega), if_pos rfl]
  · unfold calF; rw [if_neg (by omega), ← hk, if_neg (by have := h1.1; omega), if_neg (by decide)]
  · rw [g_fai h1.1 h1.2.1]; unfold tonF; rw [if_neg h1.2.2.1]
-- bits of places
def htF (a : Nat → Nat) (q : Nat) : Nat → Bool
  | 0 => false
  | i + 1 => htF a q i || decide (a i = q)
theorem ht_iff (a : Nat → Nat) (q : Nat) : ∀ n : Nat, htF a q n = true ↔ ∃ i : Nat, i < n ∧ a i = q := by
  intro n
  induction n with
  | zero => exact ⟨fun h => by simp [htF] at h, fun ⟨i, hi, _⟩ => absurd hi (Nat.not_lt_zero _)⟩
  | succ n ih =>
    unfold htF
    rw [Bool.or_eq_true, ih, decide_eq_true_iff]
    constructor
    · rintro (⟨i, hi, e⟩ | e)
      · exact ⟨i, by omega, e⟩
      · exact ⟨n, Nat.lt_succ_self n, e⟩
    · rintro ⟨i, hi, e⟩
      rcases Nat.lt_or_eq_of_le (Nat.lt_succ_iff.mp hi) with q2 | q2
      · exact Or.inl ⟨i, q2, e⟩
      · subst q2; exact Or.inr e
theorem ht_th {s : MS} (hI : Inv s) {q : Nat} (hq : q < 24) : htF (ma s) q (mn s) = (mL s).1 q := by
  cases z : (mL s).1 q with
  | true => exact (ht_iff _ _ _).mpr (hI.2.2.2.2.1 q hq z)
  | false =>
    cases y : htF (ma s) q (mn s) with
    | false => rfl
    | true =>
      obtain ⟨i, hi, e⟩ := (ht_iff _ _ _).mp y
      have := (g_th hI hi).2
      rw [e, z] at this
      exact absurd this (by decide)
def g_bt (x : Int32) (i : Nat) : Bool := x.toBitVec.getLsbD i
theorem gb_nI {x : Int32} {k : Nat} (h : x.toInt = (k : Int)) (hk : k < 2147483648) : x = nI k := b_eq (by rw [h, b_nI hk])
theorem gb_tp : ∀ l, l < 32 → ((1 : Int32) <<< (nI l &&& 31)).toBitVec = BitVec.twoPow 32 l := by decide +kernel
theorem gb_or {sn x o : Int32} {p q : Nat} (hx : x.toInt = (p : Int)) (ho : o.toInt = 1) (hp : p < 24) (hq : q < 24) : g_bt (sn ||| (o <<< (x &&& 31))) q = (g_bt sn q || decide (p = q)) := by
  rw [gb_nI hx (by omega), show o = 1 from b_eq (by rw [ho]; rfl)]
  unfold g_bt
  rw [Int32.toBitVec_or, BitVec.getLsbD_or, gb_tp p (by omega), BitVec.getLsbD_twoPow]
  congr 1
  simp
  omega
theorem gb_sm : ∀ n, n < 32 → ((nI n &&& 31).toBitVec.smod 32).toNat = n := by decide +kernel
theorem gb_and {sn x o : Int32} {k : Nat} (hx : x.toInt = (k : Int)) (ho : o.toInt = 1) (hk : k < 24) : ((sn >>> (x &&& 31)) &&& o).toInt = if g_bt sn k = true then 1 else 0 := by
  rw [gb_nI hx (by omega), show o = 1 from b_eq (by rw [ho]; rfl)]
  have e0 : ∀ i : Nat, i < 32 → ((sn >>> (nI k &&& 31)) &&& 1).toBitVec.getLsbD i = (decide (i = 0) && g_bt sn k) := by
    intro i hi
    rw [Int32.toBitVec_and, BitVec.getLsbD_and]
    have e1 : (1 : Int32).toBitVec.getLsbD i = decide (i = 0) := by
      have : ∀ j : Nat, j < 32 → (1 : Int32).toBitVec.getLsbD j = decide (j = 0) := by decide +kernel
      exact this i hi
    rw [e1]
    by_cases z : i = 0
    · subst z
      rw [Int32.toBitVec_shiftRight]
      show ((sn.toBitVec.sshiftRight ((nI k &&& 31).toBitVec.smod 32).toNat).getLsbD 0 && decide (0 = 0)) = (decide (0 = 0) && g_bt sn k)
      rw [gb_sm k (by omega), BitVec.getLsbD_sshiftRight]
      unfold g_bt
      simp
      omega
    · simp [z]
  have e2 : ((sn >>> (nI k &&& 31)) &&& 1) = if g_bt sn k = true then 1 else 0 := by
    refine Int32.toBitVec_inj.mp (BitVec.eq_of_getLsbD_eq (fun i hi => ?_))
    rw [e0 i hi]
    have h1 : ∀ j : Nat, j < 32 → (1 : Int32).toBitVec.getLsbD j = decide (j = 0) := by decide +kernel
    cases g_bt sn k with
    | true => rw [if_pos rfl, h1 i hi, Bool.and_true]
    | false => rw [if_neg (by decide), Bool.and_false]; exact (BitVec.getLsbD_zero).symm
  rw [e2]
  split <;> rfl
end
section
/-! p26, pure: what an act does -/
theorem q_low {s : MS} (hI : Inv s) : (lowF (mL s).1 24 = 24 ∧ mn s = 24) ∨ (lowF (mL s).1 24 < 24 ∧ (mL s).1 (lowF (mL s).1 24) = false) := by
  by_cases h0 : ∀ q : Nat, q < 24 → (mL s).1 q = true
  · left
    refine ⟨low_all 24 h0, ?_⟩
    rw [← hI.2.2.2.2.2.1, c_eq (g := fun _ => true) 24 h0]
    decide
  · right
    have h1 : ∃ q : Nat, q < 24 ∧ (mL s).1 q = false := Classical.byContradiction (fun c => h0 (fun q hq => by
      cases z : (mL s).1 q with
      | true => rfl
      | false => exact absurd ⟨q, hq, z⟩ c))
    obtain ⟨r, hr1, hr2⟩ := pk_least (fun k => k < 24 ∧ (mL s).1 k = false) h1
    have e := low_at hr1.2 (fun j hj => by
      cases z : (mL s).1 j with
      | true => rfl
      | false => exact absurd ⟨by omega, z⟩ (hr2 j hj)) 24 hr1.1
    rw [e]; exact hr1
theorem q_ins {k : Nat} {s : MS} (hJ : Jg k s) (hk : k ≤ 100) {y w : Int} (hy : okV y) (hw : okW w) : Jg (k + 1) (insF s y w).2 ∧ (((insF s y w).1 = aLIM ∧ mn s = 24) ∨ (0 ≤ (insF s y w).1 ∧ (insF s y w).1 < 24 ∧ mn (insF s y w).2 = mn s + 1 ∧ ptF (insF s y w).2 (insF s y w).1 3 = mt (insF s y w).2)) := by
  have hI := hJ.1
  have hI2 := inv_ins hI y w
  have hmm := hJ.2.2.1
  have hlw := q_low hI
  unfold insF at hI2 ⊢
  rw [if_neg (not_not_intro ⟨hy, hw⟩)] at hI2 ⊢
  rcases hlw with ⟨e1, e2⟩ | ⟨h1, h2⟩
  · rw [if_pos (Or.inl e1)]
    exact ⟨jg_up hJ, Or.inl ⟨rfl, e2⟩⟩
  · rw [if_neg (by omega)] at hI2 ⊢
    obtain ⟨p, hp⟩ : ∃ p, p = lowF (mL s).1 24 := ⟨_, rfl⟩
    rw [← hp] at h1 h2 hI2 ⊢
    have hth : updB (mL s).1 p true p = true := by unfold updB; rw [if_pos rfl]
    refine ⟨jg_op hJ hk hI2 (fun q hq hqt => ?_), Or.inr ⟨Int.natCast_nonneg p, by show (p : Int) < 24; omega, rfl, ?_⟩⟩
    · show updN (mb s) p (mt s) q ≤ mt s
      have hqt2 : updB (mL s).1 p true q = true := hqt
      unfold updB at hqt2
      unfold updN
      by_cases z : q = p
      · rw [if_pos z]; exact Int.le_refl _
      · rw [if_neg z] at hqt2 ⊢; exact hJ.2.1 q hq hqt2
    · have e3 := g_p3 (s := opF s (setL (mL s) p y w (mt s)) (updA (ma s) (mn s) p) (mn s + 1) (updN (mb s) p (mt s)) p) h1 hth
      refine e3.trans ?_
      show updN (mb s) p (mt s) p = mt s
      unfold updN; rw [if_pos rfl]
theorem q_val {s : MS} (hI : Inv s) {p : Nat} (hp : p < 24) (ht : (mL s).1 p = true) : -101000000 ≤ valP s p ∧ valP s p ≤ 101000000 := ⟨(inv_h hI hp ht).1, (inv_h hI hp ht).2.1⟩
theorem q_isP {s : MS} {x : Int} (hx : 0 ≤ x ∧ x < 24) : (isP (mL s) x ∧ (mL s).1 x.toNat = true) ∨ (¬ isP (mL s) x ∧ (mL s).1 x.toNat = false) := by
  cases z : (mL s).1 x.toNat with
  | true => exact Or.inl ⟨⟨hx.1, hx.2, z⟩, rfl⟩
  | false => exact Or.inr ⟨fun y => by have y2 := y.2.2; rw [z] at y2; exact absurd y2 (by decide), rfl⟩
theorem q_rem {k : Nat} {s : MS} (hJ : Jg k s) (hk : k ≤ 100) {x : Int} (hx : 0 ≤ x ∧ x < 24) : Jg (k + 1) (remF s x).2 ∧ (((remF s x).1 = aINV ∧ mn (remF s x).2 = mn s) ∨ ((remF s x).1 ≠ aINV ∧ (mn (remF s x).2 : Int) = (mn s : Int) - 1 ∧ vaaF (remF s x).2 x (mt (remF s x).2) = aNF)) := by
  have hI := hJ.1
  have hI2 := inv_rem hI x
  have hmm := hJ.2.2.1
  rcases q_isP (s := s) hx with ⟨h1, h2⟩ | ⟨h1, h2⟩
  · unfold remF at hI2 ⊢
    rw [if_neg (not_not_intro h1), if_neg (by omega)] at hI2 ⊢
    obtain ⟨p, hp⟩ : ∃ p, p = x.toNat := ⟨_, rfl⟩
    rw [← hp] at h2 hI2 ⊢
    have hp24 : p < 24 := by omega
    have hv := q_val hI hp24 h2
    obtain ⟨j, hj, _⟩ := hI.2.2.2.2.1 p hp24 h2
    refine ⟨jg_op hJ hk hI2 (fun q hq hqt => ?_), Or.inr ⟨?_, ?_, ?_⟩⟩
    · have hqt2 : updB (mL s).1 p false q = true := hqt
      unfold updB at hqt2
      by_cases z : q = p
      · rw [if_pos z] at hqt2; exact absurd hqt2 (by decide)
      · rw [if_neg z] at hqt2; exact hJ.2.1 q hq hqt2
    · show valP s p ≠ -1000000000001; omega
    · show ((mn s - 1 : Nat) : Int) = (mn s : Int) - 1; omega
    · rw [show x = (p : Int) by omega]
      refine g_va0 hI2 hp24 ?_
      show updB (mL s).1 p false p = false
      unfold updB; rw [if_pos rfl]
  · unfold remF
    rw [if_pos h1]
    exact ⟨jg_up hJ, Or.inl ⟨rfl, rfl⟩⟩
theorem q_setB {s : MS} {p : Nat} (ht : (mL s).1 p = true) {q : Nat} (hq : updB (mL s).1 p true q = true) : (mL s).1 q = true := by
  unfold updB at hq
  by_cases z : q = p
  · rw [z]; exact ht
  · rw [if_neg z] at hq; exact hq
theorem q_vel {k : Nat} {s : MS} (hJ : Jg k s) (hk : k ≤ 100) {x w : Int} (hx : 0 ≤ x ∧ x < 24) (hw : okW w) : Jg (k + 1) (velF s x w).2 ∧ ((ptF s x 0 = aINV ∧ (velF s x w).1 = aINV) ∨ (ptF s x 0 ≠ aINV ∧ ptF (velF s x w).2 x 0 = ptF s x 0 ∧ ptF (velF s x w).2 x 1 = w ∧ -1000 ≤ (velF s x w).1 ∧ (velF s x w).1 ≤ 1000)) := by
  have hI := hJ.1
  have hI2 := inv_vel hI x w
  have hmm := hJ.2.2.1
  rcases q_isP (s := s) hx with ⟨h1, h2⟩ | ⟨h1, h2⟩
  · unfold velF at hI2 ⊢
    rw [if_neg (not_not_intro ⟨h1, hw⟩), if_neg (by omega)] at hI2 ⊢
    obtain ⟨p, hp⟩ : ∃ p, p = x.toNat := ⟨_, rfl⟩
    rw [← hp] at h2 hI2 ⊢
    have hp24 : p < 24 := by omega
    have ex : x = (p : Int) := by omega
    have hv := inv_h hI hp24 h2
    have hth : updB (mL s).1 p true p = true := by unfold updB; rw [if_pos rfl]
    have e0 := g_p0 hp24 h2
    have e1 := g_p0 (s := opF s (setL (mL s) p (valP s p) w (mt s)) (ma s) (mn s) (mb s) p) hp24 hth
    have e2 := g_p1 (s := opF s (setL (mL s) p (valP s p) w (mt s)) (ma s) (mn s) (mb s) p) hp24 hth
    rw [ex]
    refine ⟨jg_op hJ hk hI2 (fun q hq hqt => hJ.2.1 q hq (q_setB h2 hqt)), Or.inr ⟨by rw [e0]; show valP s p ≠ -1000000000001; omega, ?_, ?_, hv.2.2.1, hv.2.2.2⟩⟩
    · rw [e0]
      refine e1.trans ?_
      show updN (mL s).2.1 p (valP s p - w * mt s) p + updN (mL s).2.2 p w p * mt s = valP s p
      unfold updN; rw [if_pos rfl, if_pos rfl]; exact set_val
    · refine e2.trans ?_
      show updN (mL s).2.2 p w p = w
      unfold updN; rw [if_pos rfl]
  · unfold velF ptF
    rw [if_pos (fun z => h1 z.1), if_pos h1]
    exact ⟨jg_up hJ, Or.inl ⟨rfl, rfl⟩⟩
theorem q_jmp {k : Nat} {s : MS} (hJ : Jg k s) (hk : k ≤ 100) {x y : Int} (hx : 0 ≤ x ∧ x < 24) (hy : okV y) : Jg (k + 1) (jmpF s x y).2 ∧ (jmpF s x y).1 = ptF s x 0 ∧ (ptF s x 0 = aINV ∨ ptF (jmpF s x y).2 x 0 = y) := by
  have hI := hJ.1
  have hI2 := inv_jmp hI x y
  have hmm := hJ.2.2.1
  rcases q_isP (s := s) hx with ⟨h1, h2⟩ | ⟨h1, h2⟩
  · unfold jmpF at hI2 ⊢
    rw [if_neg (not_not_intro ⟨h1, hy⟩), if_neg (by omega)] at hI2 ⊢
    obtain ⟨p, hp⟩ : ∃ p, p = x.toNat := ⟨_, rfl⟩
    rw [← hp] at h2 hI2 ⊢
    have hp24 : p < 24 := by omega
    have ex : x = (p : Int) := by omega
    have hth : updB (mL s).1 p true p = true := by unfold updB; rw [if_pos rfl]
    have e0 := g_p0 hp24 h2
    have e1 := g_p0 (s := opF s (setL (mL s) p y ((mL s).2.2 p) (mt s)) (ma s) (mn s) (mb s) p) hp24 hth
    rw [ex]
    refine ⟨jg_op hJ hk hI2 (fun q hq hqt => hJ.2.1 q hq (q_setB h2 hqt)), e0.symm, Or.inr ?_⟩
    refine e1.trans ?_
    show updN (mL s).2.1 p (y - (mL s).2.2 p * mt s) p + updN (mL s).2.2 p ((mL s).2.2 p) p * mt s = y
    unfold updN; rw [if_pos rfl, if_pos rfl]; exact set_val
  · unfold jmpF ptF
    rw [if_pos (fun z => h1 z.1), if_pos h1]
    exact ⟨jg_up hJ, rfl, Or.inl rfl⟩
/-- at the next failure a certificate is broken -/
theorem q_brk {s : MS} (hI : Inv s) (hf : nfS s ≤ 100000) : bkF (mL s).2.1 (mL s).2.2 (nfS s) (ma s) (mn s) ≠ 0 := by
  intro h0
  rcases nfF_at (mL s).2.1 (mL s).2.2 (mt s) (ma s) (mn s) with q | ⟨k, h1, h2, h3⟩
  · unfold nfS at hf; omega
  · have e : nfS s = eoo (mL s).2.1 (mL s).2.2 (mt s) (ma s ((k - 1) / 2)) (ma s k) := h3
    have ho := eoo_out (g_hp hI h1 h2) (by rw [← e]; omega)
    rw [← e] at ho
    exact ho.2 (bk_none (mn s) h0 k h1 h2)
/-- one stop -/
theorem q_stp {s : MS} (hI : Inv s) (hf : nfS s ≤ 100000) {B : Int} (h3 : 0 ≤ (mX s).toInt) (h4 : (mX s).toInt ≤ (mE s).toInt) (h5 : (mE s).toInt ≤ B) (hB : B ≤ 10000000000) (h6 : 0 ≤ (mS s).toInt) (h7 : (mS s).toInt ≤ B) : 0 ≤ (mX (stpF s (nfS s))).toInt ∧ (mX (stpF s (nfS s))).toInt ≤ (mE (stpF s (nfS s))).toInt ∧ (mE s).toInt + 1 ≤ (mE (stpF s (nfS s))).toInt ∧ (mE (stpF s (nfS s))).toInt ≤ (mE s).toInt + 276 ∧ (mS (stpF s (nfS s))).toInt = (mS s).toInt + 1 := by
  have h1 := g_stl (h := (mL s).2.1) (v := (mL s).2.2) (t := nfS s) (n := mn s) 276 (ma s, mE s, mX s) (by decide) h3 h4 (by show (mE s).toInt + ((276 : Nat) : Int) ≤ 100000000000; omega)
  have h2 := g_stl1 (h := (mL s).2.1) (v := (mL s).2.2) (t := nfS s) (n := mn s) (f := 275) (s := (ma s, mE s, mX s)) (by decide) h3 h4 (by show (mE s).toInt + 300 ≤ 100000000000; omega) (q_brk hI hf)
  exact ⟨h1.1, h1.2.1, h2, h1.2.2.2, g_l1 (by omega) (by omega)⟩
theorem q_step {k : Nat} {s : MS} (hJ : Jg k s) (hk : k ≤ 100) : Jg (k + 1) (steF s).2 ∧ (((calF s 0 0 < 0 ∨ 100000 < calF s 0 0) ∧ (steF s).1 = aNF) ∨ (0 ≤ calF s 0 0 ∧ calF s 0 0 ≤ 100000 ∧ (steF s).1 = calF s 0 0 ∧ mt (steF s).2 = calF s 0 0 ∧ (mS (steF s).2).toInt = (mS s).toInt + 1)) := by
  have hI2 := inv_ste hJ.1
  obtain ⟨hI, j1, j2, j3, j4, j5, j6, j7⟩ := hJ
  have ht := hI.1
  have hcal : (nfS s = 1000001 ∧ calF s 0 0 = aNF) ∨ (nfS s ≤ 1000000 ∧ calF s 0 0 = nfS s) := by
    have hle := nfF_le (mL s).2.1 (mL s).2.2 (mt s) (ma s) (mn s)
    rcases nfF_at (mL s).2.1 (mL s).2.2 (mt s) (ma s) (mn s) with q | ⟨i, h1, h2, h3⟩
    · left
      refine ⟨q, ?_⟩
      have e : ceF (erS s) (mn s) 0 (mn s) = 0 := ce_none (mn s) (Nat.le_refl _) (fun j hj z => by
        have h4 := hle.2 j z.1 hj
        have h5 := g_er1 hI j
        have h6 : erS s j = er (mL s).2.1 (mL s).2.2 (mt s) (ma s) j := rfl
        exact z.2.2.1 (by omega))
      unfold calF
      rw [if_neg (by decide), if_pos e]
    · by_cases q : nfS s = 1000001
      · left
        refine ⟨q, ?_⟩
        have e : ceF (erS s) (mn s) 0 (mn s) = 0 := ce_none (mn s) (Nat.le_refl _) (fun j hj z => by
          have h4 := hle.2 j z.1 hj
          have h5 := g_er1 hI j
          have h6 : erS s j = er (mL s).2.1 (mL s).2.2 (mt s) (ma s) j := rfl
          have h7 : nfS s = nfF (mL s).2.1 (mL s).2.2 (mt s) (ma s) (mn s) := rfl
          exact z.2.2.1 (by omega))
        unfold calF
        rw [if_neg (by decide), if_pos e]
      · right
        have h6 : erS s i = er (mL s).2.1 (mL s).2.2 (mt s) (ma s) i := rfl
        have h7 : nfS s = nfF (mL s).2.1 (mL s).2.2 (mt s) (ma s) (mn s) := rfl
        have h8 : 0 < cntF (cC (erS s)) (mn s) := by
          have h9 := c_add (f := fun _ => false) (k := i) (n := mn s) h2 rfl
          have h10 := c_le (f := updB (fun _ => false) i true) (g := cC (erS s)) (mn s) (fun j hj w => by
            unfold updB at w
            by_cases e : j = i
            · rw [e]; exact cC_iff.mpr ⟨h1, by omega⟩
            · rw [if_neg e] at w; simp at w)
          omega
        obtain ⟨c, hc, c1, c2, c3, -, -, -⟩ := g_cal hI (x := 0) h8
        have c4 := c_first (g := erS s) (n := mn s) hc h1 h2
        have c5 := hle.2 c c1 c2
        have c6 : erS s c = er (mL s).2.1 (mL s).2.2 (mt s) (ma s) c := rfl
        have c7 := hle.1
        have c8 : calF s 0 0 = erS s c := c3
        exact ⟨by omega, by omega⟩
  have hge := nf_ge hI
  unfold steF at hI2 ⊢
  by_cases q : nfS s ≤ 100000
  · rw [if_pos q] at hI2 ⊢
    have h1 := q_stp hI q (B := 80000 * (k : Int)) j3 j4 j5 (by omega) j6 (by omega)
    rcases hcal with z | z
    · omega
    · refine ⟨⟨hI2, fun p hp hth => ?_, by show mm s ≤ k + 1; omega, h1.1, h1.2.1, by show (mE (stpF s (nfS s))).toInt ≤ 80000 * ((k + 1 : Nat) : Int); omega, by show 0 ≤ (mS (stpF s (nfS s))).toInt; omega, by show (mS (stpF s (nfS s))).toInt ≤ 300 * ((k + 1 : Nat) : Int); omega⟩, Or.inr ⟨by omega, by omega, z.2.symm, z.2.symm, h1.2.2.2.2⟩⟩
      show mb s p ≤ nfS s
      have := j1 p hp hth
      omega
  · rw [if_neg q]
    refine ⟨jg_up ⟨hI, j1, j2, j3, j4, j5, j6, j7⟩, Or.inl ⟨?_, rfl⟩⟩
    rcases hcal with z | z
    · left; rw [z.2]; decide
    · right; omega
theorem q_ps {x : Int} (hx : x ≤ 100000) : ∀ (f : Nat) (s : MS) (B : Int), f ≤ 276 → Inv s → mt s ≤ x → 0 ≤ (mX s).toInt → (mX s).toInt ≤ (mE s).toInt → (mE s).toInt + 276 * f ≤ B → B ≤ 10000000000 → 0 ≤ (mS s).toInt → (mS s).toInt + f ≤ B → (psF x f s).1 ≤ f ∧ mL (psF x f s).2 = mL s ∧ mb (psF x f s).2 = mb s ∧ mm (psF x f s).2 = mm s ∧ mt s ≤ mt (psF x f s).2 ∧ 0 ≤ (mX (psF x f s).2).toInt ∧ (mX (psF x f s).2).toInt ≤ (mE (psF x f s).2).toInt ∧ (mE s).toInt + ((psF x f s).1 : Int) ≤ (mE (psF x f s).2).toInt ∧ (mE (psF x f s).2).toInt ≤ (mE s).toInt + 276 * f ∧ (mS (psF x f s).2).toInt = (mS s).toInt + ((psF x f s).1 : Int) := by
  intro f
  induction f with
  | zero => intro s B _ _ _ h3 h4 h5 _ h6 _; exact ⟨Nat.le_refl _, rfl, rfl, rfl, Int.le_refl _, h3, h4, by show (mE s).toInt + ((0 : Nat) : Int) ≤ (mE s).toInt; omega, by show (mE s).toInt ≤ (mE s).toInt + 276 * ((0 : Nat) : Int); omega, by show (mS s).toInt = (mS s).toInt + ((0 : Nat) : Int); omega⟩
  | succ f ih =>
    intro s B hf hI hs h3 h4 h5 hB h6 h7
    have e : psF x (f + 1) s = if nfS s ≤ x then ((psF x f (stpF s (nfS s))).1 + 1, (psF x f (stpF s (nfS s))).2) else (0, s) := rfl
    rw [e]
    by_cases q : nfS s ≤ x
    · rw [if_pos q]
      have h1 := q_stp hI (by omega) (B := B) h3 h4 (by omega) hB h6 (by omega)
      obtain ⟨r1, r2, r3, r4, r5, r6, r7, r8, r9, r10⟩ := ih (stpF s (nfS s)) B (by omega) (inv_stp hI (nf_ge hI) (by omega)) q h1.1 h1.2.1 (by omega) hB (by omega) (by omega)
      have hge := nf_ge hI
      have ht : mt (stpF s (nfS s)) = nfS s := rfl
      refine ⟨by show (psF x f (stpF s (nfS s))).1 + 1 ≤ f + 1; omega, r2, r3, r4, by show mt s ≤ mt (psF x f (stpF s (nfS s))).2; omega, r6, r7, ?_, ?_, ?_⟩
      · show (mE s).toInt + (((psF x f (stpF s (nfS s))).1 + 1 : Nat) : Int) ≤ (mE (psF x f (stpF s (nfS s))).2).toInt; omega
      · show (mE (psF x f (stpF s (nfS s))).2).toInt ≤ (mE s).toInt + 276 * ((f + 1 : Nat) : Int); omega
      · show (mS (psF x f (stpF s (nfS s))).2).toInt = (mS s).toInt + (((psF x f (stpF s (nfS s))).1 + 1 : Nat) : Int); omega
    · rw [if_neg q]
      exact ⟨Nat.zero_le _, rfl, rfl, rfl, Int.le_refl _, h3, h4, by show (mE s).toInt + ((0 : Nat) : Int) ≤ (mE s).toInt; omega, by show (mE s).toInt ≤ (mE s).toInt + 276 * ((f + 1 : Nat) : Int); omega, by show (mS s).toInt = (mS s).toInt + ((0 : Nat) : Int); omega⟩
theorem q_pas {k : Nat} {s : MS} (hJ : Jg k s) (hk : k ≤ 100) {x : Int} (h1 : mt s ≤ x) (h2 : x ≤ 100000) : Jg (k + 1) (pasF s x).2 ∧ 0 ≤ (pasF s x).1 ∧ (pasF s x).1 ≤ 276 ∧ mt (pasF s x).2 = x ∧ (mS (pasF s x).2).toInt = (mS s).toInt + (pasF s x).1 ∧ (mE s).toInt + (pasF s x).1 ≤ (mE (pasF s x).2).toInt ∧ (mX (pasF s x).2).toInt ≤ (mE (pasF s x).2).toInt := by
  have hI2 := inv_pas hJ.1 x
  obtain ⟨hI, j1, j2, j3, j4, j5, j6, j7⟩ := hJ
  obtain ⟨r1, r2, r3, r4, r5, r6, r7, r8, r9, r10⟩ := q_ps h2 276 s 10000000000 (Nat.le_refl _) hI h1 j3 j4 (by omega) (by omega) j6 (by omega)
  have hts := (ps_inv h2 276 s hI h1).2
  unfold pasF at hI2 ⊢
  rw [if_neg (by omega)] at hI2 ⊢
  refine ⟨⟨hI2, fun p hp hth => ?_, ?_, r6, r7, ?_, ?_, ?_⟩, Int.natCast_nonneg _, ?_, rfl, r10, r8, r7⟩
  · show mb (psF x 276 s).2 p ≤ x
    have hth2 : (mL (psF x 276 s).2).1 p = true := hth
    rw [r2] at hth2
    rw [r3]
    have := j1 p hp hth2
    omega
  · show mm (psF x 276 s).2 ≤ k + 1; omega
  · show (mE (psF x 276 s).2).toInt ≤ 80000 * ((k + 1 : Nat) : Int); omega
  · show 0 ≤ (mS (psF x 276 s).2).toInt; omega
  · show (mS (psF x 276 s).2).toInt ≤ 300 * ((k + 1 : Nat) : Int); omega
  · show ((psF x 276 s).1 : Int) ≤ 276; omega
theorem q_fog {k : Nat} {s : MS} (hJ : Jg k s) : Jg k (fogF s).2 ∧ 0 ≤ (fogF s).1 ∧ mt (fogF s).2 = mt s ∧ mn (fogF s).2 = mn s ∧ (0 < mt s → toaF (fogF s).2 (mt s - 1) = aNP) ∧ szaF (fogF s).2 (mt s) = (mn s : Int) := by
  have hI2 := inv_fog hJ.1
  obtain ⟨hI, j1, j2, j3, j4, j5, j6, j7⟩ := hJ
  refine ⟨⟨hI2, j1, Nat.zero_le _, j3, j4, j5, j6, j7⟩, Int.natCast_nonneg _, rfl, rfl, fun h0 => ?_, g_sza hI2⟩
  have e : momF (fogF s).2 (mt s - 1) = aNP := by
    show (if mt s - 1 < 0 ∨ mt s < mt s - 1 then aINV else if mt s ≤ mt s - 1 then 0 else aNP) = aNP
    rw [if_neg (by omega), if_neg (by omega)]
  unfold toaF
  rw [e, if_neg (by decide)]
end
section
/-! a new object: its cells and the state that they hold -/
def ss0 : MS := (0, (fun _ => false, fun _ => 0, fun _ => 0), fun _ => 0, 0, fun _ => 0, 0, 0, 0, (fun _ => false, fun _ => 0, fun _ => 0), fun _ => (0, 0, false, 0, 0), 0, 0)
def u00 : CT := (((fun _ => 0), (fun _ => 0), (fun _ => 0), 0), ((fun _ => 0), (fun _ => 0), (fun _ => 0), 0, 0, 0), ((fun _ => 0), (fun _ => 0), (fun _ => 0), (fun _ => 0), (fun _ => 0), 0, 0, 0), ((fun _ => 0), (fun _ => 0), (fun _ => 0), 0), ((fun _ => 0), (fun _ => 0), (fun _ => 0), 0), ((fun _ => 0), 0, 0))
theorem cnt_0 : ∀ n : Nat, cntF (fun _ => false) n = 0 := by
  intro n
  induction n with
  | zero => rfl
  | succ n ih => show cntF (fun _ => false) n + (if false = true then 1 else 0) = 0; rw [ih]; rfl
theorem rln_0 : RLn ((fun _ => 0), (fun _ => 0), (fun _ => 0), 0) (fun _ => false, fun _ => 0, fun _ => 0) := ⟨fun p _ => ⟨fun h => absurd h (by show ¬ (false = true); decide), fun _ => rfl⟩, by show (0 : Int32).toInt = (cntF (fun _ => false) 24 : Int); rw [cnt_0]; rfl⟩
theorem rc_0 : RC u00 ss0 := ⟨rln_0, ⟨⟨rfl, Nat.zero_le _, fun k hk => absurd hk (Nat.not_lt_zero _)⟩, rfl, rfl⟩, ⟨⟨rfl, Nat.zero_le _, fun i hi => absurd hi (Nat.not_lt_zero _)⟩, rfl⟩, rln_0, fun _ _ => rfl, rfl, rfl⟩
theorem inv_0 : Inv ss0 := by
  refine ⟨⟨Int.le_refl _, by show (0 : Int) ≤ 100000; decide⟩, Nat.zero_le _, fun k hk => absurd hk (Nat.not_lt_zero _), fun i j hi => absurd hi (Nat.not_lt_zero _), fun p _ hp => absurd hp (by show ¬ (false = true); decide), cnt_0 24, fun p _ hp => absurd hp (by show ¬ (false = true); decide), fun k _ hk => absurd hk (Nat.not_lt_zero _), Nat.zero_le _, ⟨Int.le_refl _, Int.le_refl _⟩, fun i hi => absurd hi (Nat.not_lt_zero _), fun i j _ hj => absurd hj (Nat.not_lt_zero _), fun p _ => ⟨rfl, fun hp => absurd hp (by show ¬ (false = true); decide)⟩⟩
end
section
/-! p26, pure: two points -/
theorem eoo_same {h v : Nat → Int} {t x : Int} {a b : Nat} (h0 : bef h v t a b) (htx : t ≤ x) (hx : x < eoo h v t a b) (hx6 : x ≤ 1000000) : eoo h v x a b = eoo h v t a b := by
  have h1 := eoo_in h0 htx hx hx6
  unfold eoo
  rw [if_pos h0, if_pos h1]
  by_cases q : v a ≤ v b
  · rw [if_pos q, if_pos q]
  · rw [if_neg q, if_neg q]
    obtain ⟨c, hc⟩ : ∃ c, c = v a - v b := ⟨_, rfl⟩
    obtain ⟨g, hg⟩ : ∃ g, g = h b + v b * t - (h a + v a * t) + (if a < b then 1 else 0) := ⟨_, rfl⟩
    obtain ⟨g', hg'⟩ : ∃ g', g' = h b + v b * x - (h a + v a * x) + (if a < b then 1 else 0) := ⟨_, rfl⟩
    rw [← hc, ← hg, ← hg']
    have ea : v a * x = v a * t + v a * (x - t) := mx
    have eb : v b * x = v b * t + v b * (x - t) := mx
    have e2 : c * (x - t) = v a * (x - t) - v b * (x - t) := by rw [hc, Int.sub_mul]
    have e3 : g + c - 1 = (g' + c - 1) + c * (x - t) := by omega
    have e4 : (g + c - 1) / c = (g' + c - 1) / c + (x - t) := by rw [e3, Int.add_mul_ediv_left _ _ (by omega)]
    have e5 : x + (g' + c - 1) / c = t + (g + c - 1) / c := by omega
    unfold cro
    rw [e5]
/-- two points: f first, g behind it; so many exchanges; all operations at time 0 -/
def Two (s : MS) (f g : Nat) (n : Int) : Prop := Inv s ∧ mn s = 2 ∧ ma s 0 = f ∧ ma s 1 = g ∧ ((f = 0 ∧ g = 1) ∨ (f = 1 ∧ g = 0)) ∧ (∀ p : Nat, p < 24 → (mL s).1 p = decide (p < 2)) ∧ mk s = 0 ∧ (∀ i : Nat, i < mm s → (mO s i).1 = 0) ∧ (mE s).toInt = n
abbrev eo2 (s : MS) (f g : Nat) : Int := eoo (mL s).2.1 (mL s).2.2 (mt s) f g
theorem tw_bef {s : MS} {f g : Nat} {n : Int} (hT : Two s f g n) : bef (mL s).2.1 (mL s).2.2 (mt s) f g := by
  obtain ⟨hI, h2, hf, hg, -⟩ := hT
  have hb := g_hp hI (k := 1) (Nat.le_refl 1) (by omega)
  have hb2 : bef (mL s).2.1 (mL s).2.2 (mt s) (ma s 0) (ma s 1) := hb
  rw [hf, hg] at hb2
  exact hb2
theorem tw_er {s : MS} {f g : Nat} {n : Int} (hT : Two s f g n) : erS s 1 = eo2 s f g := by
  obtain ⟨hI, h2, hf, hg, -⟩ := hT
  show eoo (mL s).2.1 (mL s).2.2 (mt s) (ma s 0) (ma s 1) = _
  rw [hf, hg]
theorem tw_th {s : MS} {f g : Nat} {n : Int} (hT : Two s f g n) {p : Nat} (hp : p = 0 ∨ p = 1) : (mL s).1 p = true := by
  obtain ⟨hI, h2, hf, hg, hfg, hth, -⟩ := hT
  rw [hth p (by omega)]
  exact decide_eq_true (by omega)
theorem tw_cas {s : MS} {f g : Nat} {n : Int} (hT : Two s f g n) : casF s ≤ 1 := by
  obtain ⟨hI, h2, -⟩ := hT
  rw [g_cas, h2]
  show (((0 + (if cC (erS s) 0 = true then 1 else 0)) + (if cC (erS s) 1 = true then 1 else 0) : Nat) : Int) ≤ 1
  rw [if_neg (fun z => by have := cC_iff.mp z; omega)]
  split <;> omega
theorem tw_met {s : MS} {f g : Nat} {n : Int} (hT : Two s f g n) : metF s 0 1 = tonF (eo2 s f g) := by
  have hb := tw_bef hT
  have h0 : isP (mL s) 0 := ⟨by omega, by omega, tw_th hT (Or.inl rfl)⟩
  have h1 : isP (mL s) 1 := ⟨by omega, by omega, tw_th hT (Or.inr rfl)⟩
  unfold metF
  rw [if_neg (not_not_intro ⟨h0, h1, by decide⟩)]
  rcases hT.2.2.2.2.1 with ⟨e1, e2⟩ | ⟨e1, e2⟩
  · subst e1; subst e2
    rw [if_pos (show bef (mL s).2.1 (mL s).2.2 (mt s) (0 : Int).toNat (1 : Int).toNat from hb)]; rfl
  · subst e1; subst e2
    rw [if_neg (show ¬ bef (mL s).2.1 (mL s).2.2 (mt s) (0 : Int).toNat (1 : Int).toNat from bf_as hb)]; rfl
theorem tw_at {s : MS} {f g : Nat} {n : Int} (hT : Two s f g n) : atF s 0 = (f : Int) := by
  obtain ⟨hI, h2, hf, hg, -⟩ := hT
  have e := g_at (s := s) (k := 0) (by omega)
  rw [hf] at e
  exact e
theorem tw_fai {s : MS} {f g : Nat} {n : Int} (hT : Two s f g n) : faiF s 1 = tonF (eo2 s f g) := by
  have h2 := hT.2.1
  have e := g_fai (s := s) (k := 1) (Nat.le_refl 1) (by omega)
  rw [tw_er hT] at e
  exact e
theorem tw_le {s : MS} {f g : Nat} {n : Int} (hT : Two s f g n) : mt s < eo2 s f g ∧ eo2 s f g ≤ 1000001 := g_eoo hT.1.1.2 (tw_bef hT)
theorem tw_nf {s : MS} {f g : Nat} {n : Int} (hT : Two s f g n) : nfS s = eo2 s f g := by
  have h1 := tw_le hT
  have e := tw_er hT
  have h2 := hT.2.1
  unfold nfS
  rw [h2]
  show (if 1 ≤ 1 then min (if 1 ≤ 0 then min 1000001 (er (mL s).2.1 (mL s).2.2 (mt s) (ma s) 0) else 1000001) (er (mL s).2.1 (mL s).2.2 (mt s) (ma s) 1) else 1000001) = _
  have e2 : er (mL s).2.1 (mL s).2.2 (mt s) (ma s) 1 = eo2 s f g := e
  rw [if_pos (Nat.le_refl 1), if_neg (by decide), e2]
  omega
theorem tw_tp {s : MS} {f g : Nat} {n : Int} (hT : Two s f g n) : topS s = (f : Int) := by
  have e := g_tp hT.1 (L := mL s) (fun p _ => ⟨rfl, fun _ => ⟨rfl, rfl⟩⟩)
  have h2 := hT.2.1
  rw [if_neg (by omega), hT.2.2.1] at e
  exact e
theorem tw_toc {s : MS} {f g : Nat} {n : Int} (hT : Two s f g n) : tocF s = tonF (eo2 s f g) := by
  have h1 := tw_le hT
  have h2 := hT.2.1
  unfold tocF
  rw [if_neg (by omega), tw_tp hT]
  have hn : ∀ m : Nat, m ≤ 22 → nxF (mL s).1 (mL s).2.1 (mL s).2.2 (mt s) (f : Int) (m + 2) = eo2 s f g := by
    intro m
    induction m with
    | zero =>
      intro _
      have t0 := tw_th hT (p := 0) (Or.inl rfl)
      have t1 := tw_th hT (p := 1) (Or.inr rfl)
      show (if (mL s).1 1 = true ∧ ((1 : Nat) : Int) ≠ (f : Int) then min (if (mL s).1 0 = true ∧ ((0 : Nat) : Int) ≠ (f : Int) then min 1000001 (eoo (mL s).2.1 (mL s).2.2 (mt s) ((f : Int)).toNat 0) else 1000001) (eoo (mL s).2.1 (mL s).2.2 (mt s) ((f : Int)).toNat 1) else (if (mL s).1 0 = true ∧ ((0 : Nat) : Int) ≠ (f : Int) then min 1000001 (eoo (mL s).2.1 (mL s).2.2 (mt s) ((f : Int)).toNat 0) else 1000001)) = eo2 s f g
      rcases hT.2.2.2.2.1 with ⟨e1, e2⟩ | ⟨e1, e2⟩
      · subst e1; subst e2
        rw [if_pos ⟨t1, by decide⟩, if_neg (fun z => z.2 rfl)]
        show min 1000001 (eo2 s 0 1) = eo2 s 0 1
        omega
      · subst e1; subst e2
        rw [if_neg (fun z => z.2 rfl), if_pos ⟨t0, by decide⟩]
        show min 1000001 (eo2 s 1 0) = eo2 s 1 0
        omega
    | succ m ih =>
      intro hm
      have hf : (mL s).1 (m + 2) = false := by rw [hT.2.2.2.2.2.1 (m + 2) (by omega)]; exact decide_eq_false (by omega)
      show (if (mL s).1 (m + 2) = true ∧ ((m + 2 : Nat) : Int) ≠ (f : Int) then _ else nxF (mL s).1 (mL s).2.1 (mL s).2.2 (mt s) (f : Int) (m + 2)) = eo2 s f g
      rw [if_neg (fun z => by rw [hf] at z; exact absurd z.1 (by decide))]
      exact ih (by omega)
  rw [hn 22 (Nat.le_refl _)]
/-- time passes and nothing happens -/
theorem tw_pas {s : MS} {f g : Nat} {n : Int} (hT : Two s f g n) {x : Int} (h1 : mt s ≤ x) (h2 : x < eo2 s f g) (h3 : x ≤ 100000) : pasF s x = (0, setT s x) ∧ Two (setT s x) f g n ∧ eo2 (setT s x) f g = eo2 s f g := by
  have e : pasF s x = (0, setT s x) := by
    unfold pasF
    rw [if_neg (by omega), ps_stop (by rw [tw_nf hT]; exact h2) 276]
    rfl
  have hI2 := inv_pas hT.1 x
  rw [e] at hI2
  obtain ⟨hI, t1, t2, t3, t4, t5, t6, t7, t8⟩ := id hT
  exact ⟨e, ⟨hI2, t1, t2, t3, t4, t5, t6, t7, t8⟩, eoo_same (tw_bef hT) h1 h2 (show x ≤ 1000000 by omega)⟩
/-- they are exchanged at their meeting, and never again -/
theorem tw_ste {s : MS} {f g : Nat} {n : Int} (hT : Two s f g n) (h1 : eo2 s f g ≤ 100000) (hn : 0 ≤ n ∧ n ≤ 1000) : (steF s).1 = eo2 s f g ∧ Two (steF s).2 g f (n + 1) ∧ mt (steF s).2 = eo2 s f g ∧ mL (steF s).2 = mL s ∧ eo2 (steF s).2 g f = 1000001 := by
  have hb := tw_bef hT
  have hout := eoo_out hb (show eo2 s f g ≤ 1000000 by omega)
  have hnf := tw_nf hT
  have hI2 := inv_ste hT.1
  obtain ⟨hI, t1, t2, t3, t4, t5, t6, t7, t8⟩ := id hT
  obtain ⟨m, hm⟩ : ∃ m, m = eo2 s f g := ⟨_, rfl⟩
  have hout2 : (mL s).2.2 g < (mL s).2.2 f ∧ ¬ bef (mL s).2.1 (mL s).2.2 m f g := by rw [hm]; exact hout
  have hfg : f ≠ g := by omega
  have hb2 : bef (mL s).2.1 (mL s).2.2 m g f := bf_to hfg hout2.2
  have e1 : bkF (mL s).2.1 (mL s).2.2 m (ma s) 2 = 1 := by
    refine bk_at (i := 1) ?_ (Nat.le_refl 1) (by decide) ?_
    · rcases bk_lt (mL s).2.1 (mL s).2.2 m (ma s) 1 with y | y
      · exact y
      · omega
    · show ¬ bef (mL s).2.1 (mL s).2.2 m (ma s 0) (ma s 1)
      rw [t2, t3]; exact hout2.2
  have e2 : bkF (mL s).2.1 (mL s).2.2 m (sw (ma s) 0 1) 2 = 0 := by
    rcases bk_lt (mL s).2.1 (mL s).2.2 m (sw (ma s) 0 1) 2 with q | q
    · exact q
    · have hk : bkF (mL s).2.1 (mL s).2.2 m (sw (ma s) 0 1) 2 = 1 := by omega
      have h5 := bk_spec (h := (mL s).2.1) (v := (mL s).2.2) (t := m) (a := sw (ma s) 0 1) 2 (by omega)
      rw [hk] at h5
      have h6 : ¬ bef (mL s).2.1 (mL s).2.2 m (sw (ma s) 0 1 0) (sw (ma s) 0 1 1) := h5
      rw [sw_a, sw_b (by decide), t2, t3] at h6
      exact absurd hb2 h6
  have e3 : stl (mL s).2.1 (mL s).2.2 m (mn s) 276 (ma s, mE s, mX s) = (sw (ma s) 0 1, mE s + 1, mX s + 1) := by
    rw [t1]
    show (if bkF (mL s).2.1 (mL s).2.2 m (ma s) 2 = 0 then _ else stl (mL s).2.1 (mL s).2.2 m 2 275 (xch (ma s, mE s, mX s) (bkF (mL s).2.1 (mL s).2.2 m (ma s) 2))) = _
    rw [e1, if_neg (by decide)]
    exact stl_stop (f := 275) (E := mE s + 1) (X := mX s + 1) e2
  have e4 : steF s = (m, stpF s m) := by
    unfold steF
    rw [hnf, ← hm, if_pos (by omega)]
  have e5 : stpF s m = (m, mL s, sw (ma s) 0 1, mn s, mb s, mE s + 1, mX s + 1, mS s + 1, mB s, mO s, mm s, mk s) := by
    unfold stpF
    rw [e3]
  rw [e4] at hI2 ⊢
  rw [e5] at hI2 ⊢
  refine ⟨hm, ⟨hI2, t1, ?_, ?_, by omega, t5, t6, t7, ?_⟩, hm, rfl, ?_⟩
  · show sw (ma s) 0 1 0 = g
    rw [sw_a]; exact t3
  · show sw (ma s) 0 1 1 = f
    rw [sw_b (by decide)]; exact t2
  · show (mE s + 1).toInt = n + 1
    rw [g_l1 (by omega) (by omega), t8]
  · show eoo (mL s).2.1 (mL s).2.2 m g f = 1000001
    unfold eoo
    rw [if_pos hb2, if_pos (by omega)]
theorem tw_sta {s : MS} {f g : Nat} {n : Int} (hT : Two s f g n) {x : Int} (h0 : 0 ≤ x) (hx : x ≤ mt s) : ∀ p : Nat, p < 24 → (stA s x).1 p = (mL s).1 p ∧ ((mL s).1 p = true → (stA s x).2.1 p = (mL s).2.1 p ∧ (stA s x).2.2 p = (mL s).2.2 p) := by
  have e : stA s x = stA s (mt s) := by
    rw [st_of hT.1 (x := x) (r := mm s) ⟨Nat.le_refl _, fun i hi => by rw [hT.2.2.2.2.2.2.2.1 i hi]; exact h0, fun h => absurd h (Nat.lt_irrefl _)⟩, g_sta hT.1]
  rw [e]; exact g_now hT.1
theorem tw_mom {s : MS} {f g : Nat} {n : Int} (hT : Two s f g n) {x : Int} (h0 : 0 ≤ x) (hx : x ≤ mt s) : momF s x = 0 := by
  unfold momF
  rw [if_neg (by omega), hT.2.2.2.2.2.2.1, if_pos h0]
/-- who was first at a time -/
theorem tw_topI {s : MS} {f g : Nat} {n : Int} (hT : Two s f g n) {x : Int} (h0 : 0 ≤ x) (hx : x ≤ mt s) {a b : Nat} (hab : (a = 0 ∧ b = 1) ∨ (a = 1 ∧ b = 0)) (hb : bef (mL s).2.1 (mL s).2.2 x a b) : topI s x = (a : Int) := by
  have hL := tw_sta hT h0 hx
  have ha : (mL s).1 a = true := tw_th hT (by omega)
  have hbt : (mL s).1 b = true := tw_th hT (by omega)
  refine tp_uni (by rw [(hL a (by omega)).1]; exact ha) (by omega) (fun p hp hth hne => ?_)
  have hth2 : (mL s).1 p = true := by rw [← (hL p hp).1]; exact hth
  have hp2 : p < 2 := by
    rw [hT.2.2.2.2.2.1 p hp] at hth2
    exact of_decide_eq_true hth2
  have hpb : p = b := by omega
  subst hpb
  obtain ⟨e1, e2⟩ := (hL a (by omega)).2 ha
  obtain ⟨e3, e4⟩ := (hL p hp).2 hth2
  show (stA s x).2.1 a + (stA s x).2.2 a * x < (stA s x).2.1 p + (stA s x).2.2 p * x ∨ ((stA s x).2.1 a + (stA s x).2.2 a * x = (stA s x).2.1 p + (stA s x).2.2 p * x ∧ a < p)
  rw [e1, e2, e3, e4]; exact hb
theorem tw_toa {s : MS} {f g : Nat} {n : Int} (hT : Two s f g n) {x : Int} (h0 : 0 ≤ x) (hx : x ≤ mt s) {a b : Nat} (hab : (a = 0 ∧ b = 1) ∨ (a = 1 ∧ b = 0)) (hb : bef (mL s).2.1 (mL s).2.2 x a b) : toaF s x = (a : Int) := by
  unfold toaF
  rw [if_pos (tw_mom hT h0 hx), tw_topI hT h0 hx hab hb]
  unfold ponF
  rw [if_neg (by omega)]
theorem tw_tcs {s : MS} {f g : Nat} {n : Int} (hT : Two s f g n) (h1 : 1 ≤ mt s) (hb : bef (mL s).2.1 (mL s).2.2 (mt s - 1) g f) : tcsF s (mt s) (mt s) = 1 := by
  have hfg := hT.2.2.2.2.1
  have e1 : topI s (mt s) = (f : Int) := tw_topI hT (by omega) (Int.le_refl _) hfg (tw_bef hT)
  have e2 : topI s (mt s - 1) = (g : Int) := tw_topI hT (by omega) (by omega) (by omega) hb
  have e3 : spaF s (mt s) (mt s) 1 = 0 := by
    unfold spaF
    rw [if_neg (by omega)]
    exact tw_mom hT (by omega) (by omega)
  unfold tcsF
  rw [if_pos e3, show (mt s - mt s + 1).toNat = 1 by omega]
  show ((0 + (if topI s (mt s + ((0 : Nat) : Int)) ≠ topI s (mt s + ((0 : Nat) : Int) - 1) then 1 else 0) : Nat) : Int) = 1
  rw [show mt s + ((0 : Nat) : Int) = mt s by omega, e1, e2, if_pos (by omega)]
  rfl
theorem tw_v0 {s : MS} {f g : Nat} {n : Int} (hT : Two s f g n) {p : Nat} (hp : p = 0 ∨ p = 1) : ptF s (p : Int) 0 = (mL s).2.1 p + (mL s).2.2 p * mt s := g_p0 (by omega) (tw_th hT hp)
/-- two points inserted into a new object -/
theorem tw_new {a b c d : Int} (ha : okV a) (hb : okV b) (hc : okW c) (hd : okW d) : (insF ss0 a c).1 = 0 ∧ (insF (insF ss0 a c).2 b d).1 = 1 ∧ Inv (insF ss0 a c).2 ∧ mt (insF (insF ss0 a c).2 b d).2 = 0 ∧ (mL (insF (insF ss0 a c).2 b d).2).2.1 0 = a ∧ (mL (insF (insF ss0 a c).2 b d).2).2.2 0 = c ∧ (mL (insF (insF ss0 a c).2 b d).2).2.1 1 = b ∧ (mL (insF (insF ss0 a c).2 b d).2).2.2 1 = d ∧ ((a ≤ b ∧ Two (insF (insF ss0 a c).2 b d).2 0 1 0) ∨ (b < a ∧ Two (insF (insF ss0 a c).2 b d).2 1 0 1)) := by
  have hI1 := inv_ins inv_0 a c
  have hI2 := inv_ins hI1 b d
  have l1 : lowF (mL ss0).1 24 = 0 := low_at (p := 0) rfl (fun q hq => absurd hq (Nat.not_lt_zero _)) 24 (by decide)
  have e1 : insF ss0 a c = (((0 : Nat) : Int), opF ss0 (setL (mL ss0) 0 a c 0) (updA (ma ss0) 0 0) 1 (updN (mb ss0) 0 0) 0) := by
    unfold insF
    rw [if_neg (not_not_intro ⟨ha, hc⟩), l1, if_neg (by rintro (z | z); exact absurd z (by decide); exact absurd (show 200 ≤ 0 from z) (by decide))]
    rfl
  obtain ⟨s1, hs1⟩ : ∃ s1, s1 = opF ss0 (setL (mL ss0) 0 a c 0) (updA (ma ss0) 0 0) 1 (updN (mb ss0) 0 0) 0 := ⟨_, rfl⟩
  rw [← hs1] at e1
  rw [e1] at hI1 hI2 ⊢
  have z1 : stl (setL (mL ss0) 0 a c 0).2.1 (setL (mL ss0) 0 a c 0).2.2 0 1 276 (updA (ma ss0) 0 0, 0, 0) = (updA (ma ss0) 0 0, 0, 0) := stl_stop (by
    rcases bk_lt (setL (mL ss0) 0 a c 0).2.1 (setL (mL ss0) 0 a c 0).2.2 0 (updA (ma ss0) 0 0) 1 with q | q
    · exact q
    · omega)
  have f1 : s1 = (0, setL (mL ss0) 0 a c 0, updA (ma ss0) 0 0, 1, updN (mb ss0) 0 0, 0, 0, 0, mB ss0, updO (mO ss0) 0 (0, 0, (setL (mL ss0) 0 a c 0).1 0, (setL (mL ss0) 0 a c 0).2.1 0, (setL (mL ss0) 0 a c 0).2.2 0), 1, 0) := by
    rw [hs1]
    show (0, setL (mL ss0) 0 a c 0, (stl (setL (mL ss0) 0 a c 0).2.1 (setL (mL ss0) 0 a c 0).2.2 0 1 276 (updA (ma ss0) 0 0, 0, 0)).1, 1, updN (mb ss0) 0 0, (stl (setL (mL ss0) 0 a c 0).2.1 (setL (mL ss0) 0 a c 0).2.2 0 1 276 (updA (ma ss0) 0 0, 0, 0)).2.1, (stl (setL (mL ss0) 0 a c 0).2.1 (setL (mL ss0) 0 a c 0).2.2 0 1 276 (updA (ma ss0) 0 0, 0, 0)).2.2, _, _, _, _, _) = _
    rw [z1]
    rfl
  have t0 : (mL s1).1 0 = true := by rw [f1]; rfl
  have l2 : lowF (mL s1).1 24 = 1 := low_at (p := 1) (by rw [f1]; rfl) (fun q hq => by rw [show q = 0 by omega]; exact t0) 24 (by decide)
  obtain ⟨L2, hL2⟩ : ∃ L2, L2 = setL (mL s1) 1 b d 0 := ⟨_, rfl⟩
  obtain ⟨a2, ha2⟩ : ∃ a2, a2 = updA (ma s1) 1 1 := ⟨_, rfl⟩
  have m1 : mt s1 = 0 := by rw [f1]
  have n1 : mn s1 = 1 := by rw [f1]
  have E1 : mE s1 = 0 := by rw [f1]
  have X1 : mX s1 = 0 := by rw [f1]
  have mm1 : mm s1 = 1 := by rw [f1]
  have e2 : insF s1 b d = (((1 : Nat) : Int), opF s1 L2 a2 2 (updN (mb s1) 1 0) 1) := by
    unfold insF
    rw [if_neg (not_not_intro ⟨hb, hd⟩), l2, if_neg (by rw [mm1]; rintro (z | z) <;> exact absurd z (by decide)), hL2, ha2, m1, n1]
  obtain ⟨s2, hs2⟩ : ∃ s2, s2 = opF s1 L2 a2 2 (updN (mb s1) 1 0) 1 := ⟨_, rfl⟩
  rw [← hs2] at e2
  show ((0 : Nat) : Int) = 0 ∧ (insF s1 b d).1 = 1 ∧ Inv s1 ∧ mt (insF s1 b d).2 = 0 ∧ (mL (insF s1 b d).2).2.1 0 = a ∧ (mL (insF s1 b d).2).2.2 0 = c ∧ (mL (insF s1 b d).2).2.1 1 = b ∧ (mL (insF s1 b d).2).2.2 1 = d ∧ ((a ≤ b ∧ Two (insF s1 b d).2 0 1 0) ∨ (b < a ∧ Two (insF s1 b d).2 1 0 1))
  have hI2 : Inv (insF s1 b d).2 := hI2
  rw [e2] at hI2 ⊢
  have hI2 : Inv s2 := hI2
  have mL2 : mL s2 = L2 := by rw [hs2]; rfl
  have v0 : (mL s2).2.1 0 = a := by
    rw [mL2, hL2, f1]
    show updN (updN (fun _ => 0) 0 (a - c * 0)) 1 (b - d * 0) 0 = a
    simp [updN]
  have w0 : (mL s2).2.2 0 = c := by
    rw [mL2, hL2, f1]
    show updN (updN (fun _ => 0) 0 c) 1 d 0 = c
    simp [updN]
  have v1 : (mL s2).2.1 1 = b := by
    rw [mL2, hL2]
    show updN (mL s1).2.1 1 (b - d * 0) 1 = b
    simp [updN]
  have w1 : (mL s2).2.2 1 = d := by
    rw [mL2, hL2]
    show updN (mL s1).2.2 1 d 1 = d
    simp [updN]
  have m2 : mt s2 = 0 := by rw [hs2]; exact m1
  have n2 : mn s2 = 2 := by rw [hs2]; rfl
  have hth : ∀ p : Nat, p < 24 → (mL s2).1 p = decide (p < 2) := by
    intro p hp
    rw [mL2, hL2, f1]
    show updB (updB (fun _ => false) 0 true) 1 true p = decide (p < 2)
    unfold updB
    rcases (show p = 0 ∨ p = 1 ∨ 2 ≤ p by omega) with q | q | q
    · subst q; rfl
    · subst q; rfl
    · rw [if_neg (by omega), if_neg (by omega), decide_eq_false (by omega)]
  have mk2 : mk s2 = 0 := by rw [hs2]; show mk s1 = 0; rw [f1]
  have mo2 : ∀ i : Nat, i < mm s2 → (mO s2 i).1 = 0 := by
    intro i hi
    have h1 := hI2.2.2.2.2.2.2.2.2.2.2.1 i hi
    rw [mk2, m2] at h1
    omega
  have aa : a2 0 = 0 ∧ a2 1 = 1 := by
    rw [ha2, f1]
    exact ⟨rfl, rfl⟩
  have st2 : ma s2 = (stl L2.2.1 L2.2.2 0 2 276 (a2, 0, 0)).1 ∧ mE s2 = (stl L2.2.1 L2.2.2 0 2 276 (a2, 0, 0)).2.1 := by
    rw [hs2]
    show (stl L2.2.1 L2.2.2 (mt s1) 2 276 (a2, mE s1, mX s1)).1 = _ ∧ (stl L2.2.1 L2.2.2 (mt s1) 2 276 (a2, mE s1, mX s1)).2.1 = _
    rw [m1, E1, X1]
    exact ⟨rfl, rfl⟩
  have hbef : bef L2.2.1 L2.2.2 0 0 1 ↔ a ≤ b := by
    show (L2.2.1 0 + L2.2.2 0 * 0 < L2.2.1 1 + L2.2.2 1 * 0 ∨ (L2.2.1 0 + L2.2.2 0 * 0 = L2.2.1 1 + L2.2.2 1 * 0 ∧ 0 < 1)) ↔ a ≤ b
    rw [← mL2, v0, v1, w0, w1]
    omega
  refine ⟨rfl, rfl, hI1, m2, v0, w0, v1, w1, ?_⟩
  by_cases q : a ≤ b
  · left
    have hbk : bkF L2.2.1 L2.2.2 0 a2 2 = 0 := by
      rcases bk_lt L2.2.1 L2.2.2 0 a2 2 with y | y
      · exact y
      · have h5 := bk_spec (h := L2.2.1) (v := L2.2.2) (t := 0) (a := a2) 2 (by omega)
        rw [show bkF L2.2.1 L2.2.2 0 a2 2 = 1 by omega] at h5
        have h6 : ¬ bef L2.2.1 L2.2.2 0 (a2 0) (a2 1) := h5
        rw [aa.1, aa.2] at h6
        exact absurd (hbef.mpr q) h6
    have hst : stl L2.2.1 L2.2.2 0 2 276 (a2, 0, 0) = (a2, 0, 0) := stl_stop hbk
    rw [hst] at st2
    exact ⟨q, hI2, n2, by rw [st2.1]; exact aa.1, by rw [st2.1]; exact aa.2, Or.inl ⟨rfl, rfl⟩, hth, mk2, mo2, by rw [st2.2]; rfl⟩
  · right
    have hnb : ¬ bef L2.2.1 L2.2.2 0 0 1 := fun z => q (hbef.mp z)
    have hbk : bkF L2.2.1 L2.2.2 0 a2 2 = 1 := by
      refine bk_at (i := 1) ?_ (Nat.le_refl 1) (by decide) ?_
      · rcases bk_lt L2.2.1 L2.2.2 0 a2 1 with y | y
        · exact y
        · omega
      · show ¬ bef L2.2.1 L2.2.2 0 (a2 0) (a2 1)
        rw [aa.1, aa.2]; exact hnb
    have hbk2 : bkF L2.2.1 L2.2.2 0 (sw a2 0 1) 2 = 0 := by
      rcases bk_lt L2.2.1 L2.2.2 0 (sw a2 0 1) 2 with y | y
      · exact y
      · have h5 := bk_spec (h := L2.2.1) (v := L2.2.2) (t := 0) (a := sw a2 0 1) 2 (by omega)
        rw [show bkF L2.2.1 L2.2.2 0 (sw a2 0 1) 2 = 1 by omega] at h5
        have h6 : ¬ bef L2.2.1 L2.2.2 0 (sw a2 0 1 0) (sw a2 0 1 1) := h5
        rw [sw_a, sw_b (by decide), aa.1, aa.2] at h6
        exact absurd (bf_to (by decide) hnb) h6
    have hst : stl L2.2.1 L2.2.2 0 2 276 (a2, 0, 0) = (sw a2 0 1, 0 + 1, 0 + 1) := by
      show (if bkF L2.2.1 L2.2.2 0 a2 2 = 0 then _ else stl L2.2.1 L2.2.2 0 2 275 (xch (a2, 0, 0) (bkF L2.2.1 L2.2.2 0 a2 2))) = _
      rw [hbk, if_neg (by decide)]
      exact stl_stop (f := 275) (E := 0 + 1) (X := 0 + 1) hbk2
    rw [hst] at st2
    exact ⟨by omega, hI2, n2, by rw [st2.1]; show sw a2 0 1 0 = 1; rw [sw_a]; exact aa.2, by rw [st2.1]; show sw a2 0 1 1 = 0; rw [sw_b (by decide)]; exact aa.1, Or.inr ⟨rfl, rfl⟩, hth, mk2, mo2, by rw [st2.2]; rfl⟩
end
