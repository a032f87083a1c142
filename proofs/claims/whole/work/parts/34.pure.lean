/-! the heap's first; small facts for the reference -/
theorem hp_top {s : MS} (hI : Inv s) : ∀ m : Nat, ∀ k : Nat, k ≤ m → 1 ≤ k → k < mn s → bef (mL s).2.1 (mL s).2.2 (mt s) (ma s 0) (ma s k) := by
  intro m
  induction m with
  | zero => intro k h1 h2; omega
  | succ m ih =>
    intro k h1 h2 h3
    have hc := hI.2.2.2.2.2.2.2.1 k h2 h3
    by_cases q : (k - 1) / 2 = 0
    · rw [q] at hc; exact hc
    · exact bf_tr (ih ((k - 1) / 2) (by omega) (by omega) (by omega)) hc
theorem top_eq {s : MS} (hI : Inv s) (hn : 0 < mn s) : topS s = (ma s 0 : Int) := by
  have h0 := hI.2.2.1 0 hn
  exact tp_uni h0.2 h0.1 (fun p hp hth hne => by
    obtain ⟨k, hk, e⟩ := hI.2.2.2.2.1 p hp hth
    have hk0 : k ≠ 0 := fun q => by subst q; exact hne e.symm
    have := hp_top hI k k (Nat.le_refl k) (by omega) hk
    rw [e] at this; exact this)
theorem top_bef {s : MS} (hI : Inv s) (hn : 0 < mn s) {p : Nat} (hp : p < 24) (hth : (mL s).1 p = true) (hne : p ≠ ma s 0) : bef (mL s).2.1 (mL s).2.2 (mt s) (ma s 0) p := by
  obtain ⟨k, hk, e⟩ := hI.2.2.2.2.1 p hp hth
  have hk0 : k ≠ 0 := fun q => by subst q; exact hne e.symm
  have := hp_top hI k k (Nat.le_refl k) (by omega) hk
  rw [e] at this; exact this
theorem l_step {a b : Int64} {i : Nat} (h : (a - b).toInt = (i : Int)) (hi : i < 1000000) : (a + 1 - b).toInt = ((i + 1 : Nat) : Int) := by
  have e : a + 1 - b = (a - b) + 1 := by rw [Int64.sub_eq_add_neg, Int64.sub_eq_add_neg, Int64.add_assoc, Int64.add_comm 1, ← Int64.add_assoc]
  rw [e, b_ladd (by rw [h]; have : (1 : Int64).toInt = 1 := rfl; omega) (by rw [h]; have : (1 : Int64).toInt = 1 := rfl; omega), h]
  have : (1 : Int64).toInt = 1 := rfl
  omega
theorem l_self (a : Int64) : (a - a).toInt = 0 := by rw [Int64.sub_self]; rfl
theorem er_rng {s : MS} (hI : Inv s) (k : Nat) : 0 ≤ er (mL s).2.1 (mL s).2.2 (mt s) (ma s) k ∧ er (mL s).2.1 (mL s).2.2 (mt s) (ma s) k ≤ 1000001 := by
  have h1 := hI.1
  have h2 := eoo_ge (mL s).2.1 (mL s).2.2 (t := mt s) (by omega) (ma s ((k - 1) / 2)) (ma s k)
  have h3 := eoo_le (mL s).2.1 (mL s).2.2 (t := mt s) (by omega) (ma s ((k - 1) / 2)) (ma s k)
  unfold er; omega
theorem nf_rng {s : MS} (hI : Inv s) (k : Nat) : 0 ≤ nfF (mL s).2.1 (mL s).2.2 (mt s) (ma s) k ∧ nfF (mL s).2.1 (mL s).2.2 (mt s) (ma s) k ≤ 1000001 := by
  have h1 := hI.1
  have h2 := nfF_ge (mL s).2.1 (mL s).2.2 (t := mt s) (by omega) (ma s) k
  have h3 := (nfF_le (mL s).2.1 (mL s).2.2 (mt s) (ma s) k).1
  omega
theorem nx_rng {th : Nat → Bool} {h v : Nat → Int} {t f : Int} (h0 : 0 ≤ t) (h1 : t ≤ 1000001) : ∀ n : Nat, 0 ≤ nxF th h v t f n ∧ nxF th h v t f n ≤ 1000001 := by
  intro n
  induction n with
  | zero => exact ⟨show (0 : Int) ≤ 1000001 by decide, Int.le_refl _⟩
  | succ n ih =>
    have e0 : nxF th h v t f (n + 1) = if th n = true ∧ (n : Int) ≠ f then min (nxF th h v t f n) (eoo h v t f.toNat n) else nxF th h v t f n := rfl
    have h2 := eoo_ge h v (t := t) h1 f.toNat n
    rw [e0]
    split <;> omega
theorem nof_neg {x : Int} (h0 : 0 ≤ x) : nof x < 0 ↔ x = 1000001 := by
  unfold nof; split <;> omega
theorem nof_pos {x : Int} (h0 : x ≠ 1000001) : nof x = x := by unfold nof; rw [if_neg h0]
theorem ton_nof {x r : Int} (h0 : 0 ≤ x) (hr : r = nof x) : tonF x = if r < 0 then aNF else r := by
  subst hr
  unfold tonF nof
  by_cases q : x = 1000001
  · rw [if_pos q, if_pos q, if_pos (by decide)]
  · rw [if_neg q, if_neg q, if_neg (by omega)]
