/-! the first point over time; the least value -/
theorem tp_top {th : Nat → Bool} {h v : Nat → Int} {t : Int} : ∀ n : Nat, ∀ p : Nat, p < n → th p = true → (p : Int) ≠ tpF th h v t n → bef h v t (tpF th h v t n).toNat p := by
  intro n
  induction n with
  | zero => intro p hp; exact absurd hp (Nat.not_lt_zero _)
  | succ n ih =>
    intro p hp hth hne
    have hr := tp_rng th h v t n
    have e0 : tpF th h v t (n + 1) = if th n = true ∧ (tpF th h v t n = -1 ∨ bef h v t n (tpF th h v t n).toNat) then (n : Int) else tpF th h v t n := rfl
    by_cases c : th n = true ∧ (tpF th h v t n = -1 ∨ bef h v t n (tpF th h v t n).toNat)
    · rw [e0, if_pos c] at hne ⊢
      have hpn : p < n := by omega
      show bef h v t n p
      rcases c.2 with q | q
      · exact absurd hth (by rw [tp_none th h v t n q p hpn]; decide)
      · by_cases z : (p : Int) = tpF th h v t n
        · have e : (tpF th h v t n).toNat = p := by omega
          rw [e] at q; exact q
        · exact bf_tr q (ih p hpn hth z)
    · rw [e0, if_neg c] at hne ⊢
      by_cases z : p = n
      · subst z
        have c2 : ¬ (tpF th h v t p = -1 ∨ bef h v t p (tpF th h v t p).toNat) := fun y => c ⟨hth, y⟩
        exact bf_to (fun y => hne (by omega)) (fun y => c2 (Or.inr y))
      · exact ih p (by omega) hth hne
theorem tp_uni {th : Nat → Bool} {h v : Nat → Int} {t : Int} {f : Nat} (hf : th f = true) {n : Nat} (hfn : f < n) (h0 : ∀ p : Nat, p < n → th p = true → p ≠ f → bef h v t f p) : tpF th h v t n = (f : Int) := by
  have hr := tp_rng th h v t n
  rcases hr with q | ⟨q1, q2, q3⟩
  · exact absurd hf (by rw [tp_none th h v t n q f hfn]; decide)
  · by_cases z : (f : Int) = tpF th h v t n
    · exact z.symm
    · have h1 := tp_top (t := t) (h := h) (v := v) n f hfn hf z
      exact absurd h1 (bf_as (h0 _ (by omega) q3 (by omega)))
theorem tp_no {th : Nat → Bool} {h v : Nat → Int} {t : Int} : ∀ n : Nat, (∀ p : Nat, p < n → th p = false) → tpF th h v t n = -1 := by
  intro n
  induction n with
  | zero => intro _; rfl
  | succ n ih =>
    intro h0
    have e0 : tpF th h v t (n + 1) = if th n = true ∧ (tpF th h v t n = -1 ∨ bef h v t n (tpF th h v t n).toNat) then (n : Int) else tpF th h v t n := rfl
    rw [e0, if_neg (fun z => by rw [h0 n (Nat.lt_succ_self n)] at z; exact absurd z.1 (by decide))]
    exact ih (fun p hp => h0 p (by omega))
theorem nx_le {th : Nat → Bool} {h v : Nat → Int} {t f : Int} : ∀ n : Nat, ∀ p : Nat, p < n → th p = true → (p : Int) ≠ f → nxF th h v t f n ≤ eoo h v t f.toNat p := by
  intro n
  induction n with
  | zero => intro p hp; exact absurd hp (Nat.not_lt_zero _)
  | succ n ih =>
    intro p hp hth hne
    have e0 : nxF th h v t f (n + 1) = if th n = true ∧ (n : Int) ≠ f then min (nxF th h v t f n) (eoo h v t f.toNat n) else nxF th h v t f n := rfl
    rw [e0]
    by_cases z : p = n
    · subst z
      rw [if_pos ⟨hth, hne⟩]; omega
    · have h1 := ih p (by omega) hth hne
      split <;> omega
/-- until another one is first, it stays the same -/
theorem tp_keep {th : Nat → Bool} {h v : Nat → Int} {t x : Int} (htx : t ≤ x) (hx : x < nxF th h v t (tpF th h v t 24) 24) (hx6 : x ≤ 1000000) : tpF th h v x 24 = tpF th h v t 24 := by
  rcases tp_rng th h v t 24 with q | ⟨q1, q2, q3⟩
  · rw [q]; exact tp_no 24 (fun p hp => tp_none th h v t 24 q p hp)
  · have e : tpF th h v x 24 = ((tpF th h v t 24).toNat : Int) := tp_uni q3 (by omega) (fun p hp hth hne => by
      have h1 := tp_top (t := t) (h := h) (v := v) 24 p hp hth (by omega)
      have h2 := nx_le (h := h) (v := v) (t := t) (f := tpF th h v t 24) 24 p hp hth (by omega)
      exact eoo_in h1 htx (by omega) hx6)
    rw [e]; omega
theorem tp_val {th : Nat → Bool} {h v : Nat → Int} {t : Int} (h0 : tpF th h v t 24 ≠ -1) {p : Nat} (hp : p < 24) (hth : th p = true) : h (tpF th h v t 24).toNat + v (tpF th h v t 24).toNat * t ≤ h p + v p * t := by
  rcases tp_rng th h v t 24 with q | ⟨q1, q2, q3⟩
  · exact absurd q h0
  · by_cases z : (p : Int) = tpF th h v t 24
    · have e : (tpF th h v t 24).toNat = p := by omega
      rw [e]; exact Int.le_refl _
    · rcases tp_top (t := t) (h := h) (v := v) 24 p hp hth z with y | y <;> omega
theorem isC_later {O : Nat → OpT} {m r : Nat} {t x : Int} (hC : IsC O m t r) (htx : t ≤ x) (hx : r < m → x < (O r).1) : IsC O m x r := ⟨hC.1, fun i hi => Int.le_trans (hC.2.1 i hi) htx, hx⟩
theorem st_of {s : MS} (hI : Inv s) {x : Int} {r : Nat} (hC : IsC (mO s) (mm s) x r) : stA s x = rp (mB s) (mO s) r := by unfold stA; rw [← isC_eq hI hC]
theorem turn_ok {s : MS} (hI : Inv s) {t u : Int} {r : Nat} (hC : IsC (mO s) (mm s) t r) (hu : u = min (if r < mm s then (mO s r).1 else 1000001) (nxF (rp (mB s) (mO s) r).1 (rp (mB s) (mO s) r).2.1 (rp (mB s) (mO s) r).2.2 t (tpF (rp (mB s) (mO s) r).1 (rp (mB s) (mO s) r).2.1 (rp (mB s) (mO s) r).2.2 t 24) 24)) : ∀ x : Int, t ≤ x → x < u → x ≤ 1000000 → topI s x = topI s t := by
  intro x h1 h2 h3
  have e1 := st_of hI hC
  have e2 := st_of hI (isC_later hC h1 (fun q => by rw [if_pos q] at hu; omega))
  unfold topI
  rw [e1, e2]
  exact tp_keep h1 (by omega) h3
theorem spa_rng {s : MS} {x y b : Int} (h0 : spaF s x y b = 0) : b ≤ x ∧ x ≤ y ∧ y ≤ mt s ∧ y - x ≤ 500 ∧ 0 ≤ x - b ∧ mk s ≤ x - b := by
  unfold spaF at h0
  by_cases c : x < b ∨ mt s < x ∨ y < x ∨ mt s < y ∨ 500 < y - x
  · rw [if_pos c] at h0; exact absurd h0 (by decide)
  · rw [if_neg c] at h0
    rcases mom_rng s (x - b) with q | q <;> omega
-- the least value
theorem ls_eq {s : MS} (hI : Inv s) {x : Int} {r : Nat} (hC : IsC (mO s) (mm s) x r) : lsI s x = (if tpF (rp (mB s) (mO s) r).1 (rp (mB s) (mO s) r).2.1 (rp (mB s) (mO s) r).2.2 x 24 = -1 then 1000000000000 else (rp (mB s) (mO s) r).2.1 (tpF (rp (mB s) (mO s) r).1 (rp (mB s) (mO s) r).2.1 (rp (mB s) (mO s) r).2.2 x 24).toNat + (rp (mB s) (mO s) r).2.2 (tpF (rp (mB s) (mO s) r).1 (rp (mB s) (mO s) r).2.1 (rp (mB s) (mO s) r).2.2 x 24).toNat * x) := by
  unfold lsI topI
  rw [st_of hI hC]
/-- between two times a value is at least the less of the two ends -/
theorem ls_mid {s : MS} (hI : Inv s) {t e x : Int} {r : Nat} (hC : IsC (mO s) (mm s) t r) (h1 : t ≤ x) (h2 : x ≤ e) (he : r < mm s → e < (mO s r).1) : min (lsI s t) (lsI s e) ≤ lsI s x := by
  have c2 := isC_later hC h1 (fun q => by have := he q; omega)
  have c3 := isC_later hC (show t ≤ e by omega) he
  rw [ls_eq hI hC, ls_eq hI c2, ls_eq hI c3]
  obtain ⟨L, hL⟩ : ∃ L, L = rp (mB s) (mO s) r := ⟨_, rfl⟩
  rw [← hL]
  by_cases q : tpF L.1 L.2.1 L.2.2 x 24 = -1
  · have hn := tp_none L.1 L.2.1 L.2.2 x 24 q
    rw [if_pos q, if_pos (tp_no 24 hn), if_pos (tp_no 24 hn)]; omega
  · rw [if_neg q]
    rcases tp_rng L.1 L.2.1 L.2.2 x 24 with y | ⟨y1, y2, y3⟩
    · exact absurd y q
    · obtain ⟨f, hf⟩ : ∃ f, f = (tpF L.1 L.2.1 L.2.2 x 24).toNat := ⟨_, rfl⟩
      rw [← hf] at y3 ⊢
      have hf24 : f < 24 := by omega
      have n1 : ¬ tpF L.1 L.2.1 L.2.2 t 24 = -1 := fun z => by have := tp_none L.1 L.2.1 L.2.2 t 24 z f hf24; rw [y3] at this; exact absurd this (by decide)
      have n2 : ¬ tpF L.1 L.2.1 L.2.2 e 24 = -1 := fun z => by have := tp_none L.1 L.2.1 L.2.2 e 24 z f hf24; rw [y3] at this; exact absurd this (by decide)
      rw [if_neg n1, if_neg n2]
      have v1 := tp_val n1 hf24 y3
      have v2 := tp_val n2 hf24 y3
      have m1 : L.2.2 f * x = L.2.2 f * t + L.2.2 f * (x - t) := mx
      have m2 : L.2.2 f * e = L.2.2 f * x + L.2.2 f * (e - x) := mx
      by_cases z : 0 ≤ L.2.2 f
      · have := Int.mul_nonneg z (show 0 ≤ x - t by omega)
        omega
      · have h3 := Int.mul_nonneg (show 0 ≤ - L.2.2 f by omega) (show 0 ≤ e - x by omega)
        rw [Int.neg_mul] at h3
        omega
theorem lb_le {s : MS} {x : Int} : ∀ n : Nat, (∀ i : Nat, i < n → lbF s x n ≤ lsI s (x + i)) ∧ (∀ j : Nat, j ≤ n → lbF s x n ≤ lbF s x j) := by
  intro n
  induction n with
  | zero => exact ⟨fun i hi => absurd hi (Nat.not_lt_zero _), fun j hj => by rw [show j = 0 by omega]; exact Int.le_refl _⟩
  | succ n ih =>
    have e : lbF s x (n + 1) = min (lbF s x n) (lsI s (x + n)) := rfl
    refine ⟨fun i hi => ?_, fun j hj => ?_⟩
    · rcases Nat.lt_or_eq_of_le (Nat.lt_succ_iff.mp hi) with q | q
      · have := ih.1 i q; omega
      · subst q; omega
    · by_cases q : j = n + 1
      · rw [q]; exact Int.le_refl _
      · have := ih.2 j (by omega); omega
theorem lb_ge {s : MS} {x B : Int} {j : Nat} : ∀ n : Nat, j ≤ n → B ≤ lbF s x j → (∀ i : Nat, j ≤ i → i < n → B ≤ lsI s (x + i)) → B ≤ lbF s x n := by
  intro n
  induction n with
  | zero => intro h1 h2 _; rw [show j = 0 by omega] at h2; exact h2
  | succ n ih =>
    intro h1 h2 h3
    by_cases q : j = n + 1
    · rw [q] at h2; exact h2
    · have h4 := ih (by omega) h2 (fun i a b => h3 i a (by omega))
      have h5 := h3 n (by omega) (Nat.lt_succ_self n)
      have e : lbF s x (n + 1) = min (lbF s x n) (lsI s (x + n)) := rfl
      omega
theorem lb_seg {s : MS} {x : Int} {j k : Nat} (hm : ∀ i : Nat, j ≤ i → i ≤ j + k → min (lsI s (x + j)) (lsI s (x + (j + k : Nat))) ≤ lsI s (x + i)) : lbF s x (j + k + 1) = min (lbF s x j) (min (lsI s (x + j)) (lsI s (x + (j + k : Nat)))) := by
  have h1 := (lb_le (s := s) (x := x) (j + k + 1)).1 j (by omega)
  have h2 := (lb_le (s := s) (x := x) (j + k + 1)).1 (j + k) (by omega)
  have h3 := (lb_le (s := s) (x := x) (j + k + 1)).2 j (by omega)
  have h4 := lb_ge (s := s) (x := x) (B := min (lbF s x j) (min (lsI s (x + j)) (lsI s (x + (j + k : Nat))))) (j := j) (j + k + 1) (by omega) (by omega) (fun i a b => by have := hm i a (by omega); omega)
  omega
