/-! THE ORDER at a time; sums; settling ends -/
theorem bf_tr {h v : Nat → Int} {t : Int} {a b c : Nat} (h1 : bef h v t a b) (h2 : bef h v t b c) : bef h v t a c := by
  rcases h1 with q | q <;> rcases h2 with z | z <;> first | exact Or.inl (by omega) | exact Or.inr ⟨by omega, by omega⟩
theorem bf_as {h v : Nat → Int} {t : Int} {a b : Nat} (h1 : bef h v t a b) : ¬ bef h v t b a := by
  intro h2
  rcases h1 with q | q <;> rcases h2 with z | z <;> omega
theorem bf_ir {h v : Nat → Int} {t : Int} {a : Nat} : ¬ bef h v t a a := fun h1 => bf_as h1 h1
theorem bf_to {h v : Nat → Int} {t : Int} {a b : Nat} (hne : a ≠ b) (h1 : ¬ bef h v t a b) : bef h v t b a := by
  by_cases q : h b + v b * t < h a + v a * t
  · exact Or.inl q
  · by_cases z : h a + v a * t < h b + v b * t
    · exact absurd (Or.inl z) h1
    · refine Or.inr ⟨by omega, ?_⟩
      by_cases y : a < b
      · exact absurd (Or.inr ⟨by omega, y⟩) h1
      · omega
-- sums
def smF (f : Nat → Nat) : Nat → Nat
  | 0 => 0
  | n + 1 => smF f n + f n
theorem sm_le {f g : Nat → Nat} : ∀ n : Nat, (∀ i : Nat, i < n → f i ≤ g i) → smF f n ≤ smF g n := by
  intro n
  induction n with
  | zero => intro _; exact Nat.le_refl _
  | succ n ih =>
    intro h0
    have h1 := ih (fun i hi => h0 i (by omega))
    have h2 := h0 n (Nat.lt_succ_self n)
    show smF f n + f n ≤ smF g n + g n
    omega
theorem sm_lt {f g : Nat → Nat} : ∀ n : Nat, (∀ i : Nat, i < n → f i ≤ g i) → (∃ i : Nat, i < n ∧ f i < g i) → smF f n < smF g n := by
  intro n
  induction n with
  | zero => intro _ h1; obtain ⟨i, hi, _⟩ := h1; exact absurd hi (Nat.not_lt_zero _)
  | succ n ih =>
    intro h0 h1
    obtain ⟨i, hi, hlt⟩ := h1
    show smF f n + f n < smF g n + g n
    rcases Nat.lt_or_eq_of_le (Nat.lt_succ_iff.mp hi) with q | q
    · have h2 := ih (fun j hj => h0 j (by omega)) ⟨i, q, hlt⟩
      have h3 := h0 n (Nat.lt_succ_self n)
      omega
    · subst q
      have h2 := sm_le (f := f) (g := g) i (fun j hj => h0 j (by omega))
      omega
theorem sm_add (f g : Nat → Nat) : ∀ n : Nat, smF (fun i => f i + g i) n = smF f n + smF g n := by
  intro n
  induction n with
  | zero => rfl
  | succ n ih => show smF (fun i => f i + g i) n + (f n + g n) = (smF f n + f n) + (smF g n + g n); omega
theorem sm_eq {f g : Nat → Nat} : ∀ n : Nat, (∀ i : Nat, i < n → f i = g i) → smF f n = smF g n := by
  intro n h0
  exact Nat.le_antisymm (sm_le n (fun i hi => Nat.le_of_eq (h0 i hi))) (sm_le n (fun i hi => Nat.le_of_eq (h0 i hi).symm))
def mk1 (i0 : Nat) (f : Nat → Nat) : Nat → Nat := fun i => if i = i0 then 0 else f i
theorem sm_sp {f : Nat → Nat} {i0 : Nat} : ∀ n : Nat, i0 < n → smF f n = f i0 + smF (mk1 i0 f) n := by
  intro n
  induction n with
  | zero => intro h0; exact absurd h0 (Nat.not_lt_zero _)
  | succ n ih =>
    intro h0
    show smF f n + f n = f i0 + (smF (mk1 i0 f) n + mk1 i0 f n)
    rcases Nat.lt_or_eq_of_le (Nat.lt_succ_iff.mp h0) with q | q
    · have e : mk1 i0 f n = f n := by unfold mk1; rw [if_neg (by omega)]
      rw [ih q, e]; omega
    · subst q
      have e : mk1 i0 f i0 = 0 := by unfold mk1; rw [if_pos rfl]
      have e2 : smF (mk1 i0 f) i0 = smF f i0 := sm_eq i0 (fun i hi => by unfold mk1; rw [if_neg (by omega)])
      rw [e, e2]; omega
def mk2 (i0 j0 : Nat) (f : Nat → Nat) : Nat → Nat := fun i => if i = i0 ∨ i = j0 then 0 else f i
theorem sm_sp2 {f : Nat → Nat} {i0 j0 n : Nat} (hi : i0 < n) (hj : j0 < n) (hne : i0 ≠ j0) : smF f n = f i0 + f j0 + smF (mk2 i0 j0 f) n := by
  rw [sm_sp n hi, sm_sp (f := mk1 i0 f) n hj]
  have e1 : mk1 i0 f j0 = f j0 := by unfold mk1; rw [if_neg (fun q => hne q.symm)]
  have e2 : smF (mk1 j0 (mk1 i0 f)) n = smF (mk2 i0 j0 f) n := sm_eq n (fun i _ => by
    unfold mk1 mk2
    by_cases q : i = j0
    · rw [if_pos q, if_pos (Or.inr q)]
    · rw [if_neg q]
      by_cases z : i = i0
      · rw [if_pos z, if_pos (Or.inl z)]
      · rw [if_neg z, if_neg (fun y => y.elim z q)])
  rw [e1, e2]; omega
/-- the sum over a square, two rows and columns apart -/
theorem sq_sp {f : Nat → Nat → Nat} {i0 j0 n : Nat} (hi : i0 < n) (hj : j0 < n) (hne : i0 ≠ j0) : smF (fun i => smF (f i) n) n = (f i0 i0 + f i0 j0 + f j0 i0 + f j0 j0) + smF (mk2 i0 j0 (fun m => f i0 m + f j0 m + f m i0 + f m j0)) n + smF (mk2 i0 j0 (fun i => smF (mk2 i0 j0 (f i)) n)) n := by
  rw [sm_sp2 (f := fun i => smF (f i) n) hi hj hne]
  rw [sm_sp2 (f := f i0) hi hj hne, sm_sp2 (f := f j0) hi hj hne]
  have e1 : smF (mk2 i0 j0 (fun i => smF (f i) n)) n = smF (mk2 i0 j0 (fun m => f m i0 + f m j0)) n + smF (mk2 i0 j0 (fun i => smF (mk2 i0 j0 (f i)) n)) n := by
    rw [← sm_add]
    refine sm_eq n (fun i _ => ?_)
    unfold mk2
    by_cases q : i = i0 ∨ i = j0
    · rw [if_pos q, if_pos q, if_pos q]
    · rw [if_neg q, if_neg q, if_neg q]
      have := sm_sp2 (f := f i) hi hj hne
      unfold mk2 at this
      exact this
  have e2 : smF (mk2 i0 j0 (fun m => f i0 m + f j0 m + f m i0 + f m j0)) n = smF (mk2 i0 j0 (f i0)) n + smF (mk2 i0 j0 (f j0)) n + smF (mk2 i0 j0 (fun m => f m i0 + f m j0)) n := by
    rw [← sm_add, ← sm_add]
    refine sm_eq n (fun i _ => ?_)
    unfold mk2
    by_cases q : i = i0 ∨ i = j0
    · rw [if_pos q, if_pos q, if_pos q, if_pos q]
    · rw [if_neg q, if_neg q, if_neg q, if_neg q]
      show f i0 i + f j0 i + f i i0 + f i j0 = (f i0 i + f j0 i) + (f i i0 + f i j0)
      omega
  rw [e1, e2]; omega
theorem sw_a {a : Nat → Nat} {i0 j0 : Nat} : sw a i0 j0 i0 = a j0 := by show (if i0 = i0 then a j0 else if i0 = j0 then a i0 else a i0) = a j0; rw [if_pos rfl]
theorem sw_b {a : Nat → Nat} {i0 j0 : Nat} (hne : i0 ≠ j0) : sw a i0 j0 j0 = a i0 := by show (if j0 = i0 then a j0 else if j0 = j0 then a i0 else a j0) = a i0; rw [if_neg (fun q => hne q.symm), if_pos rfl]
theorem sw_c {a : Nat → Nat} {i0 j0 m : Nat} (h1 : m ≠ i0) (h2 : m ≠ j0) : sw a i0 j0 m = a m := by show (if m = i0 then a j0 else if m = j0 then a i0 else a m) = a m; rw [if_neg h1, if_neg h2]
theorem sw_inj {a : Nat → Nat} {n i0 j0 : Nat} (hne : i0 ≠ j0) (hi : ∀ i j : Nat, i < n → j < n → a i = a j → i = j) (h1 : i0 < n) (h2 : j0 < n) : ∀ i j : Nat, i < n → j < n → sw a i0 j0 i = sw a i0 j0 j → i = j := by
  intro i j hi' hj' e
  rcases (show i = i0 ∨ i = j0 ∨ (i ≠ i0 ∧ i ≠ j0) by omega) with q | q | q <;> rcases (show j = i0 ∨ j = j0 ∨ (j ≠ i0 ∧ j ≠ j0) by omega) with z | z | z
  · omega
  · subst q; subst z; rw [sw_a, sw_b hne] at e; exact (hi _ _ h2 h1 e).symm
  · subst q; rw [sw_a, sw_c z.1 z.2] at e; have := hi _ _ h2 hj' e; omega
  · subst q; subst z; rw [sw_a, sw_b hne] at e; exact (hi _ _ h1 h2 e).symm
  · omega
  · subst q; rw [sw_b hne, sw_c z.1 z.2] at e; have := hi _ _ h1 hj' e; omega
  · subst z; rw [sw_a, sw_c q.1 q.2] at e; have := hi _ _ hi' h2 e; omega
  · subst z; rw [sw_b hne, sw_c q.1 q.2] at e; have := hi _ _ hi' h1 e; omega
  · rw [sw_c q.1 q.2, sw_c z.1 z.2] at e; exact hi _ _ hi' hj' e
theorem sw_on {a : Nat → Nat} {n i0 j0 : Nat} (h1 : i0 < n) (h2 : j0 < n) {k : Nat} (hk : k < n) : ∃ j : Nat, j < n ∧ sw a i0 j0 j = a k := by
  by_cases q : k = j0
  · refine ⟨i0, h1, ?_⟩
    show (if i0 = i0 then a j0 else if i0 = j0 then a i0 else a i0) = a k
    rw [if_pos rfl, q]
  · by_cases q2 : k = i0
    · refine ⟨j0, h2, ?_⟩
      show (if j0 = i0 then a j0 else if j0 = j0 then a i0 else a j0) = a k
      by_cases q3 : j0 = i0
      · rw [if_pos q3, q2, q3]
      · rw [if_neg q3, if_pos rfl, q2]
    · refine ⟨k, hk, ?_⟩
      show (if k = i0 then a j0 else if k = j0 then a i0 else a k) = a k
      rw [if_neg q2, if_neg q]
-- inversions
def ivT (h v : Nat → Int) (t : Int) (a : Nat → Nat) (i j : Nat) : Nat := if i < j ∧ bef h v t (a j) (a i) then 1 else 0
def ivS (h v : Nat → Int) (t : Int) (a : Nat → Nat) (n : Nat) : Nat := smF (fun i => smF (ivT h v t a i) n) n
theorem iv_lt {h v : Nat → Int} {t : Int} {a : Nat → Nat} {n i0 j0 : Nat} (hij : i0 < j0) (hj : j0 < n) (hb : bef h v t (a j0) (a i0)) : ivS h v t (sw a i0 j0) n < ivS h v t a n := by
  have hne : i0 ≠ j0 := by omega
  have hi : i0 < n := by omega
  have ei : sw a i0 j0 i0 = a j0 := by show (if i0 = i0 then a j0 else if i0 = j0 then a i0 else a i0) = a j0; rw [if_pos rfl]
  have ej : sw a i0 j0 j0 = a i0 := by show (if j0 = i0 then a j0 else if j0 = j0 then a i0 else a j0) = a i0; rw [if_neg (by omega), if_pos rfl]
  have eo : ∀ m : Nat, m ≠ i0 → m ≠ j0 → sw a i0 j0 m = a m := fun m h1 h2 => by show (if m = i0 then a j0 else if m = j0 then a i0 else a m) = a m; rw [if_neg h1, if_neg h2]
  unfold ivS
  rw [sq_sp (f := ivT h v t (sw a i0 j0)) hi hj hne, sq_sp (f := ivT h v t a) hi hj hne]
  have c1 : ivT h v t (sw a i0 j0) i0 i0 + ivT h v t (sw a i0 j0) i0 j0 + ivT h v t (sw a i0 j0) j0 i0 + ivT h v t (sw a i0 j0) j0 j0 = 0 := by
    unfold ivT
    rw [ei, ej, if_neg (fun q => by omega), if_neg (fun q => bf_as hb q.2), if_neg (fun q => by omega), if_neg (fun q => by omega)]
  have c2 : 1 ≤ ivT h v t a i0 i0 + ivT h v t a i0 j0 + ivT h v t a j0 i0 + ivT h v t a j0 j0 := by
    have : ivT h v t a i0 j0 = 1 := by unfold ivT; rw [if_pos ⟨hij, hb⟩]
    omega
  have c3 : smF (mk2 i0 j0 (fun i => smF (mk2 i0 j0 (ivT h v t (sw a i0 j0) i)) n)) n = smF (mk2 i0 j0 (fun i => smF (mk2 i0 j0 (ivT h v t a i)) n)) n := by
    refine sm_eq n (fun i _ => ?_)
    unfold mk2
    by_cases q : i = i0 ∨ i = j0
    · rw [if_pos q, if_pos q]
    · rw [if_neg q, if_neg q]
      refine sm_eq n (fun j _ => ?_)
      by_cases z : j = i0 ∨ j = j0
      · rw [if_pos z, if_pos z]
      · rw [if_neg z, if_neg z]
        unfold ivT
        rw [eo i (fun y => q (Or.inl y)) (fun y => q (Or.inr y)), eo j (fun y => z (Or.inl y)) (fun y => z (Or.inr y))]
  have c4 : smF (mk2 i0 j0 (fun m => ivT h v t (sw a i0 j0) i0 m + ivT h v t (sw a i0 j0) j0 m + ivT h v t (sw a i0 j0) m i0 + ivT h v t (sw a i0 j0) m j0)) n ≤ smF (mk2 i0 j0 (fun m => ivT h v t a i0 m + ivT h v t a j0 m + ivT h v t a m i0 + ivT h v t a m j0)) n := by
    refine sm_le n (fun m _ => ?_)
    unfold mk2
    by_cases q : m = i0 ∨ m = j0
    · rw [if_pos q, if_pos q]; exact Nat.le_refl _
    · rw [if_neg q, if_neg q]
      have q1 : m ≠ i0 := fun y => q (Or.inl y)
      have q2 : m ≠ j0 := fun y => q (Or.inr y)
      unfold ivT
      dsimp only
      rw [ei, ej, eo m q1 q2]
      obtain ⟨x, hx⟩ : ∃ x, x = a i0 := ⟨_, rfl⟩
      obtain ⟨y, hy⟩ : ∃ y, y = a j0 := ⟨_, rfl⟩
      obtain ⟨z, hz⟩ : ∃ z, z = a m := ⟨_, rfl⟩
      rw [← hx, ← hy, ← hz]
      rw [← hx, ← hy] at hb
      by_cases b1 : bef h v t z x <;> by_cases b2 : bef h v t z y <;> by_cases b3 : bef h v t x z <;> by_cases b4 : bef h v t y z <;>
        first
        | exact absurd b3 (bf_as b1)
        | exact absurd b4 (bf_as b2)
        | exact absurd (bf_tr b2 hb) b1
        | exact absurd (bf_tr hb b3) b4
        | (rcases (show m < i0 ∨ (i0 < m ∧ m < j0) ∨ j0 < m by omega) with c | c | c <;>
           simp [b1, b2, b3, b4, show (i0 < m) = (i0 < m) from rfl] <;> (repeat' split) <;> omega)
  omega
theorem iv_276 (h v : Nat → Int) (t : Int) (a : Nat → Nat) {n : Nat} (hn : n ≤ 24) : ivS h v t a n ≤ 276 := by
  have h1 : ivS h v t a n ≤ smF (fun i => smF (fun j => if i < j then 1 else 0) n) n := sm_le n (fun i _ => sm_le n (fun j _ => by unfold ivT; split <;> split <;> omega))
  have h2 : ∀ k : Nat, k < 25 → smF (fun i => smF (fun j => if i < j then 1 else 0) k) k ≤ 276 := by decide +kernel
  have h3 := h2 n (by omega)
  omega
theorem stl_end {h v : Nat → Int} {t : Int} {n : Nat} : ∀ (f : Nat) (s : (Nat → Nat) × Int64 × Int64), (∀ i j : Nat, i < n → j < n → s.1 i = s.1 j → i = j) → ivS h v t s.1 n ≤ f → bkF h v t (stl h v t n f s).1 n = 0 := by
  intro f
  induction f with
  | zero =>
    intro s hi h0
    show bkF h v t s.1 n = 0
    rcases bk_lt h v t s.1 n with q | q
    · exact q
    · have hb := bk_spec (h := h) (v := v) (t := t) (a := s.1) n (by omega)
      have hne : s.1 ((bkF h v t s.1 n - 1) / 2) ≠ s.1 (bkF h v t s.1 n) := fun e => by have := hi _ _ (by omega) q.2 e; omega
      have := iv_lt (h := h) (v := v) (t := t) (a := s.1) (n := n) (i0 := (bkF h v t s.1 n - 1) / 2) (j0 := bkF h v t s.1 n) (by omega) q.2 (bf_to hne hb)
      omega
  | succ f ih =>
    intro s hi h0
    show bkF h v t (if bkF h v t s.1 n = 0 then s else stl h v t n f (xch s (bkF h v t s.1 n))).1 n = 0
    by_cases q : bkF h v t s.1 n = 0
    · rw [if_pos q]; exact q
    · rw [if_neg q]
      have q2 := bk_lt h v t s.1 n
      have hb := bk_spec (h := h) (v := v) (t := t) (a := s.1) n q
      have hne : s.1 ((bkF h v t s.1 n - 1) / 2) ≠ s.1 (bkF h v t s.1 n) := fun e => by have := hi _ _ (by omega) (by omega) e; omega
      have hlt := iv_lt (h := h) (v := v) (t := t) (a := s.1) (n := n) (i0 := (bkF h v t s.1 n - 1) / 2) (j0 := bkF h v t s.1 n) (by omega) (by omega) (bf_to hne hb)
      exact ih (xch s (bkF h v t s.1 n)) (sw_inj (by omega) hi (by omega) (by omega)) (by show ivS h v t (sw s.1 ((bkF h v t s.1 n - 1) / 2) (bkF h v t s.1 n)) n ≤ f; omega)
