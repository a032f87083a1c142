/-! the calendar, and the log of operations: O i = (time, point, does it stay, height, velocity) -/
def clF (h v : Nat → Int) (t : Int) (a : Nat → Nat) : Nat → Nat
  | 0 => 0
  | k + 1 => clF h v t a k + (if 1 ≤ k ∧ er h v t a k ≠ 1000001 then 1 else 0)
/-- how many certificates below j fail before f, or at f with a lower number than k -/
def etF (g : Nat → Int) (k : Nat) (f : Int) : Nat → Nat
  | 0 => 0
  | j + 1 => etF g k f j + (if 1 ≤ j ∧ (g j < f ∨ (g j = f ∧ j < k)) then 1 else 0)
theorem cl_le (h v : Nat → Int) (t : Int) (a : Nat → Nat) : ∀ n : Nat, clF h v t a n ≤ n := by
  intro n
  induction n with
  | zero => exact Nat.le_refl _
  | succ n ih => unfold clF; split <;> omega
theorem et_le (g : Nat → Int) (k : Nat) (f : Int) : ∀ n : Nat, etF g k f n ≤ n := by
  intro n
  induction n with
  | zero => exact Nat.le_refl _
  | succ n ih => unfold etF; split <;> omega
def CE (g : Nat → Int) (n : Nat) (x : Int) (k : Nat) : Prop := 1 ≤ k ∧ k < n ∧ g k ≠ 1000001 ∧ (etF g k (g k) n : Int) = x
theorem et_congr {g g' : Nat → Int} {k : Nat} {f : Int} : ∀ n : Nat, (∀ j : Nat, 1 ≤ j → j < n → g j = g' j) → etF g k f n = etF g' k f n := by
  intro n
  induction n with
  | zero => intro _; rfl
  | succ n ih =>
    intro hg
    unfold etF
    rw [ih (fun j h1 h2 => hg j h1 (by omega))]
    by_cases q : 1 ≤ n
    · rw [hg n q (by omega)]
    · rw [if_neg (fun z => q z.1), if_neg (fun z => q z.1)]
abbrev OpT : Type := Int × Nat × Bool × Int × Int
abbrev LinT : Type := (Nat → Bool) × (Nat → Int) × (Nat → Int)
def apO (s : LinT) (o : OpT) : LinT := if o.2.2.1 = true then (updB s.1 o.2.1 true, updN s.2.1 o.2.1 o.2.2.2.1, updN s.2.2 o.2.1 o.2.2.2.2) else (updB s.1 o.2.1 false, s.2.1, s.2.2)
def rp (B : LinT) (O : Nat → OpT) : Nat → LinT
  | 0 => B
  | i + 1 => apO (rp B O i) (O i)
def OPK (wh wi sy : Nat → Int32) (hh : Nat → Int64) (vv : Nat → Int32) (M : Int32) (O : Nat → OpT) (m : Nat) : Prop := M.toInt = (m : Int) ∧ m ≤ 200 ∧ ∀ i : Nat, i < m → (wh i).toInt = (O i).1 ∧ 0 ≤ (O i).1 ∧ (O i).1 ≤ 100000 ∧ (wi i).toInt = ((O i).2.1 : Int) ∧ (O i).2.1 < 24 ∧ ((O i).2.2.1 = true → (sy i).toInt = 1 ∧ (hh i).toInt = (O i).2.2.2.1 ∧ (vv i).toInt = (O i).2.2.2.2 ∧ -300000000 ≤ (O i).2.2.2.1 ∧ (O i).2.2.2.1 ≤ 300000000 ∧ -1000 ≤ (O i).2.2.2.2 ∧ (O i).2.2.2.2 ≤ 1000) ∧ ((O i).2.2.1 = false → (sy i).toInt = 0)
/-- r operations are those up to t -/
def IsC (O : Nat → OpT) (m : Nat) (t : Int) (r : Nat) : Prop := r ≤ m ∧ (∀ i : Nat, i < r → (O i).1 ≤ t) ∧ (r < m → t < (O r).1)
def updO (O : Nat → OpT) (m : Nat) (o : OpT) : Nat → OpT := fun i => if i = m then o else O i
theorem rp_t {B : LinT} {O : Nat → OpT} {i : Nat} (ho : (O i).2.2.1 = true) : rp B O (i + 1) = (updB (rp B O i).1 (O i).2.1 true, updN (rp B O i).2.1 (O i).2.1 (O i).2.2.2.1, updN (rp B O i).2.2 (O i).2.1 (O i).2.2.2.2) := by
  show apO (rp B O i) (O i) = _
  unfold apO; rw [if_pos ho]
theorem rp_f {B : LinT} {O : Nat → OpT} {i : Nat} (ho : (O i).2.2.1 = false) : rp B O (i + 1) = (updB (rp B O i).1 (O i).2.1 false, (rp B O i).2.1, (rp B O i).2.2) := by
  show apO (rp B O i) (O i) = _
  unfold apO; rw [if_neg (by rw [ho]; decide)]
theorem lok_nodrop {T : Nat → Int32} {G : Nat → Int64} {V : Nat → Int32} {th : Nat → Bool} {h v : Nat → Int} {p : Nat} (hL : LOK T G V th h v) (ht : th p = false) : LOK T G V (updB th p false) h v := by
  have e : updB th p false = th := by
    funext j
    by_cases e : j = p
    · subst e; simp [updB, ht]
    · simp [updB, e]
  rw [e]; exact hL
theorem opk_add {wh wi sy : Nat → Int32} {hh : Nat → Int64} {vv : Nat → Int32} {M M' : Int32} {O : Nat → OpT} {m : Nat} (hO : OPK wh wi sy hh vv M O m) (hm : m < 200) {tt x s w : Int32} {y : Int64} {p : Nat} {b : Bool} {hv vl : Int} (ht0 : 0 ≤ tt.toInt) (ht1 : tt.toInt ≤ 100000) (hxp : x.toInt = (p : Int)) (hp : p < 24) (hM : M'.toInt = ((m + 1 : Nat) : Int)) (h1 : b = true → s.toInt = 1 ∧ y.toInt = hv ∧ w.toInt = vl ∧ -300000000 ≤ hv ∧ hv ≤ 300000000 ∧ -1000 ≤ vl ∧ vl ≤ 1000) (h0 : b = false → s.toInt = 0) : OPK (upd wh m tt) (upd wi m x) (upd sy m s) (vp_updL hh m y) (upd vv m w) M' (updO O m (tt.toInt, p, b, hv, vl)) (m + 1) := by
  refine ⟨hM, by omega, fun i hi => ?_⟩
  by_cases e : i = m
  · subst e
    have e1 : updO O i (tt.toInt, p, b, hv, vl) i = (tt.toInt, p, b, hv, vl) := by simp [updO]
    rw [e1, pk_us, pk_us, pk_us, pk_uLs, pk_us]
    exact ⟨rfl, ht0, ht1, hxp, hp, h1, h0⟩
  · have e1 : updO O m (tt.toInt, p, b, hv, vl) i = O i := by simp [updO, e]
    rw [e1, pk_un e, pk_un e, pk_un e, pk_uLn e, pk_un e]
    exact hO.2.2 i (by omega)
