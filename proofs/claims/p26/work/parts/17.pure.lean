/-! pure facts that the queries want -/
theorem ce_lt (g : Nat → Int) (N : Nat) (x : Int) : ∀ n : Nat, ceF g N x n = 0 ∨ (1 ≤ ceF g N x n ∧ ceF g N x n < n) := by
  intro n
  induction n with
  | zero => exact Or.inl rfl
  | succ n ih =>
    unfold ceF
    split
    · omega
    · split <;> omega
theorem ce_none {g : Nat → Int} {N : Nat} {x : Int} : ∀ n : Nat, n ≤ N → (∀ k : Nat, k < n → ¬ CE g N x k) → ceF g N x n = 0 := by
  intro n
  induction n with
  | zero => intro _ _; rfl
  | succ n ih =>
    intro hn h0
    show (if ceF g N x n ≠ 0 then ceF g N x n else if 1 ≤ n ∧ g n ≠ 1000001 ∧ (etF g n (g n) N : Int) = x then n else 0) = 0
    rw [ih (by omega) (fun k hk => h0 k (by omega)), if_neg (by omega), if_neg (fun z => h0 n (Nat.lt_succ_self n) ⟨z.1, by omega, z.2.1, z.2.2⟩)]
theorem ce_at {g : Nat → Int} {N : Nat} {x : Int} {k : Nat} (hk : CE g N x k) (hj : ∀ j : Nat, j < k → ¬ CE g N x j) : ∀ n : Nat, n ≤ N → k < n → ceF g N x n = k := by
  intro n
  induction n with
  | zero => intro _ h0; exact absurd h0 (Nat.not_lt_zero _)
  | succ n ih =>
    intro hn h0
    have h1 := hk.1
    show (if ceF g N x n ≠ 0 then ceF g N x n else if 1 ≤ n ∧ g n ≠ 1000001 ∧ (etF g n (g n) N : Int) = x then n else 0) = k
    rcases Nat.lt_or_eq_of_le (Nat.lt_succ_iff.mp h0) with q | q
    · have e := ih (by omega) q
      rw [e, if_pos (by omega)]
    · subst q
      rw [ce_none k (by omega) hj, if_neg (by omega), if_pos ⟨hk.1, hk.2.2.1, hk.2.2.2⟩]
theorem ce_spec {g : Nat → Int} {n : Nat} {x r : Int} (h0 : (∃ k : Nat, CE g n x k ∧ (∀ j : Nat, j < k → ¬ CE g n x j) ∧ r = (k : Int)) ∨ (r = 0 ∧ ∀ k : Nat, ¬ CE g n x k)) : r = (ceF g n x n : Int) := by
  rcases h0 with ⟨k, h1, h2, h3⟩ | ⟨h1, h2⟩
  · rw [ce_at h1 h2 n (Nat.le_refl n) h1.2.1]; exact h3
  · rw [ce_none n (Nat.le_refl n) (fun k _ => h2 k)]; exact h1
theorem mom_rng (s : MS) (x : Int) : (momF s x = 0 ∧ 0 ≤ x ∧ x ≤ mt s ∧ mk s ≤ x) ∨ momF s x < 0 := by
  unfold momF
  split
  · right; decide
  · split
    · left; omega
    · right; decide
theorem or_none {L : LinT} {x k : Int} : ∀ n : Nat, (∀ p : Nat, p < n → ¬ (L.1 p = true ∧ (rkF L.1 L.2.1 L.2.2 x p 24 : Int) = k)) → orF L x k n = -1 := by
  intro n
  induction n with
  | zero => intro _; rfl
  | succ n ih =>
    intro h0
    have e := ih (fun p hp => h0 p (by omega))
    show (if orF L x k n ≠ -1 then orF L x k n else if L.1 n = true ∧ (rkF L.1 L.2.1 L.2.2 x n 24 : Int) = k then (n : Int) else -1) = -1
    rw [e, if_neg (by omega), if_neg (h0 n (Nat.lt_succ_self n))]
theorem or_at {L : LinT} {x k : Int} {p : Nat} (hp : L.1 p = true ∧ (rkF L.1 L.2.1 L.2.2 x p 24 : Int) = k) (hq : ∀ q : Nat, q < p → ¬ (L.1 q = true ∧ (rkF L.1 L.2.1 L.2.2 x q 24 : Int) = k)) : ∀ n : Nat, p < n → orF L x k n = (p : Int) := by
  intro n
  induction n with
  | zero => intro h0; exact absurd h0 (Nat.not_lt_zero _)
  | succ n ih =>
    intro h0
    show (if orF L x k n ≠ -1 then orF L x k n else if L.1 n = true ∧ (rkF L.1 L.2.1 L.2.2 x n 24 : Int) = k then (n : Int) else -1) = (p : Int)
    rcases Nat.lt_or_eq_of_le (Nat.lt_succ_iff.mp h0) with q | q
    · have e := ih q
      rw [e, if_pos (by omega)]
    · subst q
      rw [or_none p hq, if_neg (by omega), if_pos hp]
theorem or_spec {L : LinT} {x k r : Int} (h0 : (∃ p : Nat, p < 24 ∧ r = (p : Int) ∧ L.1 p = true ∧ (rkF L.1 L.2.1 L.2.2 x p 24 : Int) = k ∧ ∀ q : Nat, q < p → ¬ (L.1 q = true ∧ (rkF L.1 L.2.1 L.2.2 x q 24 : Int) = k)) ∨ (r = -1 ∧ ∀ p : Nat, p < 24 → ¬ (L.1 p = true ∧ (rkF L.1 L.2.1 L.2.2 x p 24 : Int) = k))) : r = orF L x k 24 := by
  rcases h0 with ⟨p, h1, h2, h3, h4, h5⟩ | ⟨h1, h2⟩
  · rw [or_at ⟨h3, h4⟩ h5 24 h1]; exact h2
  · rw [or_none 24 h2]; exact h1
theorem co_is {O : Nat → OpT} {m r : Nat} {x : Int} (hM : ∀ i j : Nat, i < j → j < m → (O i).1 ≤ (O j).1) (hC : IsC O m x r) : ∀ i : Nat, i ≤ m → cO O x i = min i r := by
  intro i
  induction i with
  | zero => intro _; show 0 = min 0 r; omega
  | succ i ih =>
    intro hi
    show cO O x i + (if (O i).1 ≤ x then 1 else 0) = min (i + 1) r
    rw [ih (by omega)]
    by_cases q : i < r
    · rw [if_pos (hC.2.1 i q)]; omega
    · have h1 := hC.2.2 (by omega)
      have h2 : x < (O i).1 := by
        rcases Nat.lt_or_eq_of_le (Nat.not_lt.mp q) with z | z
        · have := hM r i z (by omega); omega
        · subst z; exact h1
      rw [if_neg (by omega)]; omega
theorem isC_eq {s : MS} (hI : Inv s) {x : Int} {r : Nat} (hC : IsC (mO s) (mm s) x r) : r = cO (mO s) x (mm s) := by
  have h1 := co_is hI.2.2.2.2.2.2.2.2.2.2.2.1 hC (mm s) (Nat.le_refl _)
  have h2 := hC.1
  omega
theorem cro_ge {t g c : Int} (ht : t ≤ 1000001) (hg : 0 ≤ g) (hc : 0 < c) : t ≤ cro t g c := by
  have h1 := Int.ediv_nonneg (show 0 ≤ g + c - 1 by omega) (Int.le_of_lt hc)
  unfold cro
  split <;> omega
theorem eoo_ge (h v : Nat → Int) {t : Int} (ht : t ≤ 1000001) (a b : Nat) : t ≤ eoo h v t a b := by
  unfold eoo
  by_cases hb : bef h v t a b
  · rw [if_pos hb]
    split
    · exact ht
    · exact cro_ge ht (by rcases hb with q | q <;> split <;> omega) (by omega)
  · rw [if_neg hb]; exact Int.le_refl _
theorem nfF_ge (h v : Nat → Int) {t : Int} (ht : t ≤ 1000001) (a : Nat → Nat) : ∀ n : Nat, t ≤ nfF h v t a n := by
  intro n
  induction n with
  | zero => exact ht
  | succ n ih =>
    have h1 : t ≤ er h v t a n := eoo_ge h v ht _ _
    show t ≤ (if 1 ≤ n then min (nfF h v t a n) (er h v t a n) else 1000001)
    split <;> omega
theorem nf_ge {s : MS} (hI : Inv s) : mt s ≤ nfS s := nfF_ge _ _ (by have := hI.1; omega) _ _
