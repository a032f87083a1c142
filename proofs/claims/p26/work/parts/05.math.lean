/-! THE MATHEMATICAL STATE: points 0 .. 23 (th: is there one), each on a line of height h p and velocity v p; what is asked of them at a time t. -/
def LOK (T : Nat → Int32) (G : Nat → Int64) (V : Nat → Int32) (th : Nat → Bool) (h v : Nat → Int) : Prop :=
  ∀ p : Nat, p < 24 → (th p = true → (T p).toInt = 1 ∧ (G p).toInt = h p ∧ (V p).toInt = v p ∧ -1000 ≤ v p ∧ v p ≤ 1000 ∧ -300000000 ≤ h p ∧ h p ≤ 300000000) ∧ (th p = false → (T p).toInt = 0)
/-- a is before b at t -/
abbrev bef (h v : Nat → Int) (t : Int) (a b : Nat) : Prop := h a + v a * t < h b + v b * t ∨ (h a + v a * t = h b + v b * t ∧ a < b)
/-- the time at which a gap is closed, 1000001 for never -/
def cro (t g c : Int) : Int := if t + (g + c - 1) / c > 1000000 then 1000001 else t + (g + c - 1) / c
/-- the least time from t on at which a is not before b -/
def eoo (h v : Nat → Int) (t : Int) (a b : Nat) : Int := if bef h v t a b then (if v a ≤ v b then 1000001 else cro t ((h b + v b * t) - (h a + v a * t) + (if a < b then 1 else 0)) (v a - v b)) else t
/-- the first point of those below n, or -1 -/
def tpF (th : Nat → Bool) (h v : Nat → Int) (t : Int) : Nat → Int
  | 0 => -1
  | n + 1 => if th n = true ∧ (tpF th h v t n = -1 ∨ bef h v t n (tpF th h v t n).toNat) then (n : Int) else tpF th h v t n
/-- the least end of the order of f and another point below n -/
def nxF (th : Nat → Bool) (h v : Nat → Int) (t : Int) (f : Int) : Nat → Int
  | 0 => 1000001
  | n + 1 => if th n = true ∧ (n : Int) ≠ f then min (nxF th h v t f n) (eoo h v t f.toNat n) else nxF th h v t f n
/-- how many points below n are before p -/
def rkF (th : Nat → Bool) (h v : Nat → Int) (t : Int) (p : Nat) : Nat → Nat
  | 0 => 0
  | n + 1 => rkF th h v t p n + (if th n = true ∧ bef h v t n p then 1 else 0)
def cntF (th : Nat → Bool) : Nat → Nat
  | 0 => 0
  | n + 1 => cntF th n + (if th n = true then 1 else 0)
def updB (f : Nat → Bool) (k : Nat) (x : Bool) : Nat → Bool := fun j => if j = k then x else f j
def updN (f : Nat → Int) (k : Nat) (x : Int) : Nat → Int := fun j => if j = k then x else f j
theorem tp_rng (th : Nat → Bool) (h v : Nat → Int) (t : Int) : ∀ n : Nat, tpF th h v t n = -1 ∨ (0 ≤ tpF th h v t n ∧ tpF th h v t n < n ∧ th (tpF th h v t n).toNat = true) := by
  intro n
  induction n with
  | zero => exact Or.inl rfl
  | succ n ih =>
    unfold tpF
    by_cases hc : th n = true ∧ (tpF th h v t n = -1 ∨ bef h v t n (tpF th h v t n).toNat)
    · rw [if_pos hc]
      refine Or.inr ⟨by omega, by omega, ?_⟩
      rw [show ((n : Int)).toNat = n from rfl]
      exact hc.1
    · rw [if_neg hc]
      rcases ih with q | ⟨q1, q2, q3⟩
      · exact Or.inl q
      · exact Or.inr ⟨q1, by omega, q3⟩
theorem cnt_le (th : Nat → Bool) : ∀ n : Nat, cntF th n ≤ n := by
  intro n
  induction n with
  | zero => exact Nat.le_refl _
  | succ n ih => unfold cntF; split <;> omega
theorem rk_le (th : Nat → Bool) (h v : Nat → Int) (t : Int) (p : Nat) : ∀ n : Nat, rkF th h v t p n ≤ n := by
  intro n
  induction n with
  | zero => exact Nat.le_refl _
  | succ n ih => unfold rkF; split <;> omega
theorem cnt_set (th : Nat → Bool) (k : Nat) (x : Bool) : ∀ n : Nat, (cntF (updB th k x) n : Int) = cntF th n + (if k < n then (if x = true then 1 else 0) - (if th k = true then 1 else 0) else 0) := by
  intro n
  induction n with
  | zero => simp [cntF]
  | succ n ih =>
    by_cases e : n = k
    · subst e
      have e1 : cntF (updB th n x) (n + 1) = cntF (updB th n x) n + (if x = true then 1 else 0) := by
        show cntF (updB th n x) n + (if updB th n x n = true then 1 else 0) = _
        simp [updB]
      have e2 : cntF th (n + 1) = cntF th n + (if th n = true then 1 else 0) := rfl
      rw [if_neg (Nat.lt_irrefl n)] at ih
      rw [e1, e2, if_pos (Nat.lt_succ_self n)]
      clear e1 e2
      cases x <;> cases hh : th n <;> simp <;> omega
    · have e1 : cntF (updB th k x) (n + 1) = cntF (updB th k x) n + (if th n = true then 1 else 0) := by
        show cntF (updB th k x) n + (if updB th k x n = true then 1 else 0) = _
        simp [updB, e]
      have e2 : cntF th (n + 1) = cntF th n + (if th n = true then 1 else 0) := rfl
      rw [e1, e2]
      by_cases hk : k < n
      · have hk2 : k < n + 1 := by omega
        rw [if_pos hk] at ih
        rw [if_pos hk2]; omega
      · have hk2 : ¬ k < n + 1 := by omega
        rw [if_neg hk] at ih
        rw [if_neg hk2]; omega
theorem m_bd {x t : Int} (h1 : -1000 ≤ x) (h2 : x ≤ 1000) (h3 : 0 ≤ t) : -1000 * t ≤ x * t ∧ x * t ≤ 1000 * t := by
  constructor
  · exact Int.mul_le_mul_of_nonneg_right h1 h3
  · exact Int.mul_le_mul_of_nonneg_right h2 h3
theorem d_bd {x y : Int} (h1 : 0 ≤ x) (h2 : 0 < y) : 0 ≤ x / y ∧ x / y ≤ x := ⟨Int.ediv_nonneg h1 (Int.le_of_lt h2), Int.ediv_le_self _ h1⟩
theorem tp_none (th : Nat → Bool) (h v : Nat → Int) (t : Int) : ∀ n : Nat, tpF th h v t n = -1 → ∀ i, i < n → th i = false := by
  intro n
  induction n with
  | zero => intro _ i hi; exact absurd hi (Nat.not_lt_zero _)
  | succ n ih =>
    intro hn i hi
    unfold tpF at hn
    by_cases hc : th n = true ∧ (tpF th h v t n = -1 ∨ bef h v t n (tpF th h v t n).toNat)
    · rw [if_pos hc] at hn; omega
    · rw [if_neg hc] at hn
      rcases Nat.lt_or_eq_of_le (Nat.lt_succ_iff.mp hi) with q | q
      · exact ih hn i q
      · subst q
        cases q : th i with
        | false => rfl
        | true => exact absurd ⟨q, Or.inl hn⟩ hc
theorem lok_set {T T' : Nat → Int32} {G : Nat → Int64} {V : Nat → Int32} {th : Nat → Bool} {h v : Nat → Int} {p : Nat} {y : Int64} {z : Int32} (hL : LOK T G V th h v) (hp : p < 24) (hT : (T' = T ∧ (T p).toInt = 1) ∨ (∃ o : Int32, T' = upd T p o ∧ o.toInt = 1)) (hy1 : -300000000 ≤ y.toInt) (hy2 : y.toInt ≤ 300000000) (hz1 : -1000 ≤ z.toInt) (hz2 : z.toInt ≤ 1000) : LOK T' (vp_updL G p y) (upd V p z) (updB th p true) (updN h p y.toInt) (updN v p z.toInt) := by
  intro k hk
  by_cases e : k = p
  · subst e
    have e1 : (T' k).toInt = 1 := by
      rcases hT with ⟨h1, h2⟩ | ⟨o, h1, h2⟩
      · rw [h1]; exact h2
      · rw [h1, pk_us]; exact h2
    refine ⟨fun _ => ?_, fun q => ?_⟩
    · rw [pk_uLs, pk_us]
      have u1 : updN h k y.toInt k = y.toInt := by simp [updN]
      have u2 : updN v k z.toInt k = z.toInt := by simp [updN]
      rw [u1, u2]
      exact ⟨e1, rfl, rfl, hz1, hz2, hy1, hy2⟩
    · simp [updB] at q
  · have e1 : T' k = T k := by
      rcases hT with ⟨h1, h2⟩ | ⟨o, h1, h2⟩
      · rw [h1]
      · rw [h1, pk_un e]
    have := hL k hk
    simp only [updB, updN, if_neg e]
    rw [pk_uLn e, pk_un e, e1]
    exact this
theorem lok_drop {T : Nat → Int32} {G : Nat → Int64} {V : Nat → Int32} {th : Nat → Bool} {h v : Nat → Int} {p : Nat} {o : Int32} (hL : LOK T G V th h v) (ho : o.toInt = 0) : LOK (upd T p o) G V (updB th p false) h v := by
  intro k hk
  by_cases e : k = p
  · subst e
    refine ⟨fun q => ?_, fun q => ?_⟩
    · simp [updB] at q
    · rw [pk_us]; exact ho
  · simp only [updB, if_neg e]
    rw [pk_un e]
    exact hL k hk
theorem lok_cp {T T' : Nat → Int32} {G G' : Nat → Int64} {V V' : Nat → Int32} {th : Nat → Bool} {h v : Nat → Int} (hL : LOK T' G' V' th h v) (hc : ∀ p : Nat, p < 24 → T p = T' p ∧ G p = G' p ∧ V p = V' p) : LOK T G V th h v := by
  intro k hk
  obtain ⟨h1, h2, h3⟩ := hc k hk
  rw [h1, h2, h3]
  exact hL k hk
theorem cp_step {T T' : Nat → Int32} {G G' : Nat → Int64} {V V' : Nat → Int32} {i : Nat} (hc : ∀ p : Nat, p < i → T p = T' p ∧ G p = G' p ∧ V p = V' p) : ∀ p : Nat, p < i + 1 → upd T i (T' i) p = T' p ∧ vp_updL G i (G' i) p = G' p ∧ upd V i (V' i) p = V' p := by
  intro p hp
  by_cases e : p = i
  · subst e; exact ⟨pk_us, pk_uLs, pk_us⟩
  · rw [pk_un e, pk_uLn e, pk_un e]; exact hc p (by omega)
