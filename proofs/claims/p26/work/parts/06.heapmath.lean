/-! the heap's places (a k: the point at place k, n of them), failures, settling -/
def HK (PB PL : Nat → Int32) (F : Int32) (a : Nat → Nat) (n : Nat) : Prop := F.toInt = (n : Int) ∧ n ≤ 24 ∧ ∀ k : Nat, k < n → (PB k).toInt = (a k : Int) ∧ a k < 24 ∧ (PL (a k)).toInt = (k : Int)
def updA (f : Nat → Nat) (k : Nat) (x : Nat) : Nat → Nat := fun j => if j = k then x else f j
def er (h v : Nat → Int) (t : Int) (a : Nat → Nat) (k : Nat) : Int := eoo h v t (a ((k - 1) / 2)) (a k)
/-- the least failure of the certificates below k -/
def nfF (h v : Nat → Int) (t : Int) (a : Nat → Nat) : Nat → Int
  | 0 => 1000001
  | k + 1 => if 1 ≤ k then min (nfF h v t a k) (er h v t a k) else 1000001
/-- the first broken certificate below k, or 0 -/
def bkF (h v : Nat → Int) (t : Int) (a : Nat → Nat) : Nat → Nat
  | 0 => 0
  | k + 1 => if bkF h v t a k ≠ 0 then bkF h v t a k else if 1 ≤ k ∧ ¬ bef h v t (a ((k - 1) / 2)) (a k) then k else 0
def sw (a : Nat → Nat) (i j : Nat) : Nat → Nat := fun k => if k = i then a j else if k = j then a i else a k
def xch (s : (Nat → Nat) × Int64 × Int64) (k : Nat) : (Nat → Nat) × Int64 × Int64 := (sw s.1 ((k - 1) / 2) k, s.2.1 + 1, if (k - 1) / 2 = 0 then s.2.2 + 1 else s.2.2)
def stl (h v : Nat → Int) (t : Int) (n : Nat) : Nat → (Nat → Nat) × Int64 × Int64 → (Nat → Nat) × Int64 × Int64
  | 0, s => s
  | f + 1, s => if bkF h v t s.1 n = 0 then s else stl h v t n f (xch s (bkF h v t s.1 n))
theorem hk_inj {PB PL : Nat → Int32} {F : Int32} {a : Nat → Nat} {n : Nat} (hH : HK PB PL F a n) {i j : Nat} (hi : i < n) (hj : j < n) (e : a i = a j) : i = j := by
  have h1 := (hH.2.2 i hi).2.2
  have h2 := (hH.2.2 j hj).2.2
  rw [e] at h1
  omega
theorem hk_app {PB PL : Nat → Int32} {F F' : Int32} {a : Nat → Nat} {n : Nat} (hH : HK PB PL F a n) (hF : F.toInt = (n : Int)) {x : Int32} {p : Nat} (hxp : x.toInt = (p : Int)) (hp : p < 24) (hn : n < 24) (hF' : F'.toInt = ((n + 1 : Nat) : Int)) (hno : ∀ k : Nat, k < n → a k ≠ p) : HK (upd PB n x) (upd PL p F) F' (updA a n p) (n + 1) := by
  refine ⟨hF', by omega, fun k hk => ?_⟩
  by_cases e : k = n
  · subst e
    have e1 : updA a k p k = p := by simp [updA]
    rw [e1, pk_us, pk_us]
    exact ⟨hxp, hp, hF⟩
  · have e1 : updA a n p k = a k := by simp [updA, e]
    have hk2 : k < n := by omega
    rw [e1, pk_un e, pk_un (hno k hk2)]
    exact hH.2.2 k hk2
theorem hk_take {PB PL : Nat → Int32} {F F' : Int32} {a : Nat → Nat} {n k : Nat} (hH : HK PB PL F a n) {x y : Int32} (hx : x.toInt = (k : Int)) (hy : y.toInt = (a (n - 1) : Int)) (hk : k < n) (hF' : F'.toInt = ((n - 1 : Nat) : Int)) : HK (upd PB k y) (upd PL (a (n - 1)) x) F' (updA a k (a (n - 1))) (n - 1) := by
  refine ⟨hF', by have := hH.2.1; omega, fun j hj => ?_⟩
  by_cases e : j = k
  · subst e
    have e1 : updA a j (a (n - 1)) j = a (n - 1) := by simp [updA]
    rw [e1, pk_us, pk_us]
    exact ⟨hy, (hH.2.2 (n - 1) (by omega)).2.1, hx⟩
  · have e1 : updA a k (a (n - 1)) j = a j := by simp [updA, e]
    have e2 : a j ≠ a (n - 1) := fun q => by
      have := hk_inj hH (show j < n by omega) (show n - 1 < n by omega) q
      omega
    rw [e1, pk_un e, pk_un e2]
    exact hH.2.2 j (by omega)
theorem hk_sw {PB PL : Nat → Int32} {F : Int32} {a : Nat → Nat} {n k : Nat} (hH : HK PB PL F a n) {x v1 v7 v15 : Int32} (h1 : v1.toInt = (((k - 1) / 2 : Nat) : Int)) (hxk : x.toInt = (k : Int)) (h7 : v7.toInt = (a ((k - 1) / 2) : Int)) (h15 : v15.toInt = (a k : Int)) (hkn : k < n) (hk1 : 1 ≤ k) : HK (upd (upd PB ((k - 1) / 2) v15) k v7) (upd (upd PL (a k) v1) (a ((k - 1) / 2)) x) F (sw a ((k - 1) / 2) k) n := by
  obtain ⟨i, hi⟩ : ∃ i, i = (k - 1) / 2 := ⟨_, rfl⟩
  rw [← hi] at h1 h7 ⊢
  have hik : i < k := by omega
  have hpi := hH.2.2 i (by omega)
  have hpk := hH.2.2 k hkn
  refine ⟨hH.1, hH.2.1, fun j hj => ?_⟩
  by_cases e : j = k
  · subst e
    have e1 : sw a i j j = a i := by show (if j = i then a j else if j = j then a i else a j) = a i; rw [if_neg (by omega), if_pos rfl]
    rw [e1, pk_us, pk_us]
    exact ⟨h7, hpi.2.1, hxk⟩
  · by_cases e2 : j = i
    · subst e2
      have e1 : sw a j k j = a k := by show (if j = j then a k else if j = k then a j else a j) = a k; rw [if_pos rfl]
      have e3 : a k ≠ a j := fun q => by have := hk_inj hH hkn hj q; omega
      rw [e1, pk_un e, pk_us, pk_un e3, pk_us]
      exact ⟨h15, hpk.2.1, h1⟩
    · have e1 : sw a i k j = a j := by simp only [sw]; rw [if_neg e2, if_neg e]
      have e3 : a j ≠ a k := fun q => by have := hk_inj hH hj hkn q; omega
      have e4 : a j ≠ a i := fun q => by have := hk_inj hH hj (show i < n by omega) q; omega
      rw [e1, pk_un e, pk_un e2, pk_un e4, pk_un e3]
      exact hH.2.2 j hj
theorem sw_in {P : Nat → Prop} {a : Nat → Nat} {n i k : Nat} (hP : ∀ j : Nat, j < n → P (a j)) (hi : i < n) (hk : k < n) : ∀ j : Nat, j < n → P (sw a i k j) := by
  intro j hj
  simp only [sw]
  split
  · exact hP k hk
  · split
    · exact hP i hi
    · exact hP j hj
theorem ht_sw {th : Nat → Bool} {a : Nat → Nat} {n k : Nat} (hT : ∀ j : Nat, j < n → th (a j) = true) (hk : k < n) (hk1 : 1 ≤ k) : ∀ j : Nat, j < n → th (sw a ((k - 1) / 2) k j) = true   := sw_in (P := fun x => th x = true) hT (show (k - 1) / 2 < n by omega) hk
theorem bk_lt (h v : Nat → Int) (t : Int) (a : Nat → Nat) : ∀ n : Nat, bkF h v t a n = 0 ∨ (1 ≤ bkF h v t a n ∧ bkF h v t a n < n) := by
  intro n
  induction n with
  | zero => exact Or.inl rfl
  | succ n ih =>
    unfold bkF
    split
    · omega
    · split <;> omega
theorem bk_mono {h v : Nat → Int} {t : Int} {a : Nat → Nat} {k : Nat} : ∀ n : Nat, k ≤ n → bkF h v t a k ≠ 0 → bkF h v t a n = bkF h v t a k := by
  intro n
  induction n with
  | zero => intro h1 h2; rw [show k = 0 by omega]
  | succ n ih =>
    intro h1 h2
    rcases Nat.lt_or_eq_of_le h1 with q | q
    · have e := ih (by omega) h2
      show (if bkF h v t a n ≠ 0 then bkF h v t a n else _) = _
      rw [if_pos (by rw [e]; exact h2), e]
    · rw [q]
theorem bk_at {h v : Nat → Int} {t : Int} {a : Nat → Nat} {i n : Nat} (h0 : bkF h v t a i = 0) (h1 : 1 ≤ i) (hn : i < n) (hb : ¬ bef h v t (a ((i - 1) / 2)) (a i)) : bkF h v t a n = i := by
  have e : bkF h v t a (i + 1) = i := by
    show (if bkF h v t a i ≠ 0 then bkF h v t a i else if 1 ≤ i ∧ ¬ bef h v t (a ((i - 1) / 2)) (a i) then i else 0) = i
    rw [if_neg (by omega), if_pos ⟨h1, hb⟩]
  rw [bk_mono (k := i + 1) n (by omega) (by omega), e]
/-- none is broken below n -/
theorem bk_none {h v : Nat → Int} {t : Int} {a : Nat → Nat} : ∀ n : Nat, bkF h v t a n = 0 → ∀ k : Nat, 1 ≤ k → k < n → bef h v t (a ((k - 1) / 2)) (a k) := by
  intro n
  induction n with
  | zero => intro _ k _ hk; exact absurd hk (Nat.not_lt_zero _)
  | succ n ih =>
    intro h0 k h1 hk
    have h0' : (if bkF h v t a n ≠ 0 then bkF h v t a n else if 1 ≤ n ∧ ¬ bef h v t (a ((n - 1) / 2)) (a n) then n else 0) = 0 := h0
    by_cases q : bkF h v t a n = 0
    · rw [if_neg (by omega)] at h0'
      rcases Nat.lt_or_eq_of_le (Nat.lt_succ_iff.mp hk) with z | z
      · exact ih q k h1 z
      · subst z
        by_cases y : bef h v t (a ((k - 1) / 2)) (a k)
        · exact y
        · rw [if_pos ⟨h1, y⟩] at h0'; omega
    · rw [if_pos q] at h0'; omega
/-- the one found is broken, and those below it are not -/
theorem bk_spec {h v : Nat → Int} {t : Int} {a : Nat → Nat} : ∀ n : Nat, bkF h v t a n ≠ 0 → ¬ bef h v t (a ((bkF h v t a n - 1) / 2)) (a (bkF h v t a n)) := by
  intro n
  induction n with
  | zero => intro h0; exact absurd rfl h0
  | succ n ih =>
    intro h0
    by_cases q : bkF h v t a n = 0
    · by_cases y : 1 ≤ n ∧ ¬ bef h v t (a ((n - 1) / 2)) (a n)
      · have e : bkF h v t a (n + 1) = n := by
          show (if bkF h v t a n ≠ 0 then bkF h v t a n else if 1 ≤ n ∧ ¬ bef h v t (a ((n - 1) / 2)) (a n) then n else 0) = n
          rw [if_neg (by omega), if_pos y]
        rw [e]; exact y.2
      · have e : bkF h v t a (n + 1) = 0 := by
          show (if bkF h v t a n ≠ 0 then bkF h v t a n else if 1 ≤ n ∧ ¬ bef h v t (a ((n - 1) / 2)) (a n) then n else 0) = 0
          rw [if_neg (by omega), if_neg y]
        exact absurd e h0
    · have e : bkF h v t a (n + 1) = bkF h v t a n := by
        show (if bkF h v t a n ≠ 0 then bkF h v t a n else _) = _
        rw [if_pos q]
      rw [e]; exact ih q
theorem stl_step {h v : Nat → Int} {t : Int} {n i : Nat} {b : Nat → Nat} {E X : Int64} (hi : i < 276) (hb : bkF h v t b n ≠ 0) : stl h v t n (276 - i) (b, E, X) = stl h v t n (276 - (i + 1)) (sw b ((bkF h v t b n - 1) / 2) (bkF h v t b n), E + 1, if (bkF h v t b n - 1) / 2 = 0 then X + 1 else X) := by
  rw [show 276 - i = (276 - (i + 1)) + 1 by omega]
  show (if bkF h v t b n = 0 then _ else _) = _
  rw [if_neg hb]
  rfl
theorem stl_stop {h v : Nat → Int} {t : Int} {n f : Nat} {b : Nat → Nat} {E X : Int64} (hb : bkF h v t b n = 0) : stl h v t n f (b, E, X) = (b, E, X) := by
  cases f with
  | zero => rfl
  | succ f =>
    show (if bkF h v t b n = 0 then _ else _) = _
    rw [if_pos hb]
