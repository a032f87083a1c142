/-! p26, pure: counts, sets of places, and what is told of now -/
theorem g_l1 {x : Int64} (h0 : 0 ≤ x.toInt) (h1 : x.toInt ≤ 1000000000000) : (x + 1).toInt = x.toInt + 1 := by
  have e : (1 : Int64).toInt = 1 := rfl
  rw [b_ladd (by omega) (by omega), e]
theorem g_stl {h v : Nat → Int} {t : Int} {n : Nat} : ∀ (f : Nat) (s : (Nat → Nat) × Int64 × Int64), f ≤ 300 → 0 ≤ s.2.2.toInt → s.2.2.toInt ≤ s.2.1.toInt → s.2.1.toInt + f ≤ 100000000000 → 0 ≤ (stl h v t n f s).2.2.toInt ∧ (stl h v t n f s).2.2.toInt ≤ (stl h v t n f s).2.1.toInt ∧ s.2.1.toInt ≤ (stl h v t n f s).2.1.toInt ∧ (stl h v t n f s).2.1.toInt ≤ s.2.1.toInt + f := by
  intro f
  induction f with
  | zero => intro s _ h1 h2 h3; exact ⟨h1, h2, Int.le_refl _, by show s.2.1.toInt ≤ s.2.1.toInt + ((0 : Nat) : Int); omega⟩
  | succ f ih =>
    intro s hf h1 h2 h3
    have e : stl h v t n (f + 1) s = if bkF h v t s.1 n = 0 then s else stl h v t n f (xch s (bkF h v t s.1 n)) := rfl
    rw [e]
    by_cases q : bkF h v t s.1 n = 0
    · rw [if_pos q]; exact ⟨h1, h2, Int.le_refl _, by omega⟩
    · rw [if_neg q]
      have eE : (xch s (bkF h v t s.1 n)).2.1.toInt = s.2.1.toInt + 1 := g_l1 (by omega) (by omega)
      have eX : (xch s (bkF h v t s.1 n)).2.2.toInt = s.2.2.toInt ∨ (xch s (bkF h v t s.1 n)).2.2.toInt = s.2.2.toInt + 1 := by
        show (if (bkF h v t s.1 n - 1) / 2 = 0 then s.2.2 + 1 else s.2.2).toInt = _ ∨ (if (bkF h v t s.1 n - 1) / 2 = 0 then s.2.2 + 1 else s.2.2).toInt = _
        by_cases z : (bkF h v t s.1 n - 1) / 2 = 0
        · rw [if_pos z]; exact Or.inr (g_l1 (by omega) (by omega))
        · rw [if_neg z]; exact Or.inl rfl
      have h4 := ih (xch s (bkF h v t s.1 n)) (by omega) (by omega) (by omega) (by omega)
      omega
theorem g_stl1 {h v : Nat → Int} {t : Int} {n f : Nat} {s : (Nat → Nat) × Int64 × Int64} (hf : f < 300) (h1 : 0 ≤ s.2.2.toInt) (h2 : s.2.2.toInt ≤ s.2.1.toInt) (h3 : s.2.1.toInt + 300 ≤ 100000000000) (hb : bkF h v t s.1 n ≠ 0) : s.2.1.toInt + 1 ≤ (stl h v t n (f + 1) s).2.1.toInt := by
  have e : stl h v t n (f + 1) s = if bkF h v t s.1 n = 0 then s else stl h v t n f (xch s (bkF h v t s.1 n)) := rfl
  rw [e, if_neg hb]
  have eE : (xch s (bkF h v t s.1 n)).2.1.toInt = s.2.1.toInt + 1 := g_l1 (by omega) (by omega)
  have eX : (xch s (bkF h v t s.1 n)).2.2.toInt = s.2.2.toInt ∨ (xch s (bkF h v t s.1 n)).2.2.toInt = s.2.2.toInt + 1 := by
    show (if (bkF h v t s.1 n - 1) / 2 = 0 then s.2.2 + 1 else s.2.2).toInt = _ ∨ (if (bkF h v t s.1 n - 1) / 2 = 0 then s.2.2 + 1 else s.2.2).toInt = _
    by_cases z : (bkF h v t s.1 n - 1) / 2 = 0
    · rw [if_pos z]; exact Or.inr (g_l1 (by omega) (by omega))
    · rw [if_neg z]; exact Or.inl rfl
  have h4 := (g_stl (h := h) (v := v) (t := t) (n := n) f (xch s (bkF h v t s.1 n)) (by omega) (by omega) (by omega) (by omega)).2.2.1
  omega
/-- what holds behind k acts -/
def Jg (k : Nat) (s : MS) : Prop := Inv s ∧ (∀ p : Nat, p < 24 → (mL s).1 p = true → mb s p ≤ mt s) ∧ mm s ≤ k ∧ 0 ≤ (mX s).toInt ∧ (mX s).toInt ≤ (mE s).toInt ∧ (mE s).toInt ≤ 80000 * (k : Int) ∧ 0 ≤ (mS s).toInt ∧ (mS s).toInt ≤ 300 * (k : Int)
theorem jg_up {k : Nat} {s : MS} (hJ : Jg k s) : Jg (k + 1) s := by
  obtain ⟨i0, i1, i2, i3, i4, i5, i6, i7⟩ := hJ
  exact ⟨i0, i1, by omega, i3, i4, by omega, i6, by omega⟩
theorem jg_op {k : Nat} {s : MS} (hJ : Jg k s) (hk : k ≤ 100) {L : LinT} {a : Nat → Nat} {n : Nat} {b : Nat → Int} {p : Nat} (hI : Inv (opF s L a n b p)) (hb : ∀ q : Nat, q < 24 → L.1 q = true → b q ≤ mt s) : Jg (k + 1) (opF s L a n b p) := by
  obtain ⟨i0, i1, i2, i3, i4, i5, i6, i7⟩ := hJ
  have h1 := g_stl (h := L.2.1) (v := L.2.2) (t := mt s) (n := n) 276 (a, mE s, mX s) (by decide) i3 i4 (by show (mE s).toInt + ((276 : Nat) : Int) ≤ 100000000000; omega)
  have h3 : (mE (opF s L a n b p)).toInt ≤ (mE s).toInt + ((276 : Nat) : Int) := h1.2.2.2
  refine ⟨hI, hb, ?_, h1.1, h1.2.1, ?_, i6, ?_⟩
  · show mm s + 1 ≤ k + 1; omega
  · omega
  · show (mS s).toInt ≤ 300 * ((k + 1 : Nat) : Int); omega
-- sets of numbers below n, and how many are in them
theorem c_le {f g : Nat → Bool} : ∀ n : Nat, (∀ i : Nat, i < n → f i = true → g i = true) → cntF f n ≤ cntF g n := by
  intro n
  induction n with
  | zero => intro _; exact Nat.le_refl _
  | succ n ih =>
    intro h0
    have h1 := ih (fun i hi => h0 i (by omega))
    show cntF f n + (if f n = true then 1 else 0) ≤ cntF g n + (if g n = true then 1 else 0)
    by_cases z : f n = true
    · rw [if_pos z, if_pos (h0 n (Nat.lt_succ_self n) z)]; omega
    · rw [if_neg z]; omega
theorem c_eq {f g : Nat → Bool} (n : Nat) (h0 : ∀ i : Nat, i < n → f i = g i) : cntF f n = cntF g n := Nat.le_antisymm (c_le n (fun i hi z => by rw [← h0 i hi]; exact z)) (c_le n (fun i hi z => by rw [h0 i hi]; exact z))
theorem c_ex {f g : Nat → Bool} {n : Nat} (h0 : cntF f n < cntF g n) : ∃ i : Nat, i < n ∧ f i = false ∧ g i = true := by
  refine Classical.byContradiction (fun c => ?_)
  have h1 := c_le (f := g) (g := f) n (fun i hi z => by
    cases y : f i with
    | true => rfl
    | false => exact absurd ⟨i, hi, y, z⟩ c)
  omega
theorem c_add {f : Nat → Bool} {k n : Nat} (hk : k < n) (hf : f k = false) : cntF (updB f k true) n = cntF f n + 1 := by
  have h1 := cnt_set f k true n
  rw [if_pos hk, hf] at h1
  simp at h1
  omega
-- ranks of certificates
def cC (g : Nat → Int) (k : Nat) : Bool := decide (1 ≤ k ∧ g k ≠ 1000001)
def cE (g : Nat → Int) (k j : Nat) : Bool := decide (1 ≤ j ∧ (g j < g k ∨ (g j = g k ∧ j < k)))
theorem cC_iff {g : Nat → Int} {k : Nat} : cC g k = true ↔ 1 ≤ k ∧ g k ≠ 1000001 := by unfold cC; exact decide_eq_true_iff
theorem cE_iff {g : Nat → Int} {k j : Nat} : cE g k j = true ↔ 1 ≤ j ∧ (g j < g k ∨ (g j = g k ∧ j < k)) := by unfold cE; exact decide_eq_true_iff
theorem et_cnt (g : Nat → Int) (k : Nat) : ∀ n : Nat, etF g k (g k) n = cntF (cE g k) n := by
  intro n
  induction n with
  | zero => rfl
  | succ n ih =>
    show etF g k (g k) n + (if 1 ≤ n ∧ (g n < g k ∨ (g n = g k ∧ n < k)) then 1 else 0) = cntF (cE g k) n + (if cE g k n = true then 1 else 0)
    rw [ih]
    by_cases z : cE g k n = true
    · rw [if_pos z, if_pos (cE_iff.mp z)]
    · rw [if_neg z, if_neg (fun y => z (cE_iff.mpr y))]
theorem cl_cnt (h v : Nat → Int) (t : Int) (a : Nat → Nat) : ∀ n : Nat, clF h v t a n = cntF (cC (er h v t a)) n := by
  intro n
  induction n with
  | zero => rfl
  | succ n ih =>
    show clF h v t a n + (if 1 ≤ n ∧ er h v t a n ≠ 1000001 then 1 else 0) = cntF (cC (er h v t a)) n + (if cC (er h v t a) n = true then 1 else 0)
    rw [ih]
    by_cases z : cC (er h v t a) n = true
    · rw [if_pos z, if_pos (cC_iff.mp z)]
    · rw [if_neg z, if_neg (fun y => z (cC_iff.mpr y))]
/-- a set that the certificates' order closes downwards, of x of them: the next one has rank x, and just those are before it -/
theorem c_next {g : Nat → Int} {n x : Nat} (hg : ∀ k : Nat, g k ≤ 1000001) {S : Nat → Bool} (hS : ∀ i : Nat, i < n → S i = true → cC g i = true) (hd : ∀ i j : Nat, i < n → j < n → cC g i = true → S i = false → S j = true → cE g i j = true) (hx : cntF S n = x) (hlt : x < cntF (cC g) n) : ∃ k : Nat, k < n ∧ cC g k = true ∧ S k = false ∧ etF g k (g k) n = x ∧ ∀ j : Nat, j < n → cE g k j = S j := by
  obtain ⟨i0, h1, h2, h3⟩ := c_ex (f := S) (g := cC g) (n := n) (by omega)
  obtain ⟨r, ⟨k, hk, hC, hSk, hr⟩, hmin⟩ := pk_least (fun r => ∃ k : Nat, k < n ∧ cC g k = true ∧ S k = false ∧ cntF (cE g k) n = r) ⟨_, i0, h1, h3, h2, rfl⟩
  have hC2 := cC_iff.mp hC
  have hsub : ∀ j : Nat, j < n → cE g k j = S j := by
    intro j hj
    cases z : S j with
    | true => exact hd k j hk hj hC hSk z
    | false =>
      cases y : cE g k j with
      | false => rfl
      | true =>
        have y2 := cE_iff.mp y
        have hgj := hg j
        have hgk := hg k
        have hCj : cC g j = true := cC_iff.mpr ⟨y2.1, by omega⟩
        have hlt2 : cntF (cE g j) n < cntF (cE g k) n := by
          have q1 := c_add (f := cE g j) (k := j) (n := n) hj (by
            cases w : cE g j j with
            | false => rfl
            | true => have := cE_iff.mp w; omega)
          have q2 := c_le (f := updB (cE g j) j true) (g := cE g k) n (fun i hi w => by
            unfold updB at w
            by_cases e : i = j
            · rw [e]; exact y
            · rw [if_neg e] at w
              have w2 := cE_iff.mp w
              exact cE_iff.mpr ⟨w2.1, by omega⟩)
          omega
        exact absurd ⟨j, hj, hCj, z, rfl⟩ (hmin _ (by omega))
  exact ⟨k, hk, hC, hSk, by rw [et_cnt, c_eq n hsub, hx], hsub⟩
theorem c_all {g : Nat → Int} {n : Nat} (hg : ∀ k : Nat, g k ≤ 1000001) : ∀ x : Nat, x ≤ cntF (cC g) n → ∃ S : Nat → Bool, (∀ i : Nat, i < n → S i = true → cC g i = true) ∧ (∀ i j : Nat, i < n → j < n → cC g i = true → S i = false → S j = true → cE g i j = true) ∧ cntF S n = x := by
  intro x
  induction x with
  | zero =>
    intro _
    refine ⟨fun _ => false, fun _ _ h => by simp at h, fun _ _ _ _ _ _ h => by simp at h, ?_⟩
    have : ∀ m : Nat, cntF (fun _ => false) m = 0 := by
      intro m
      induction m with
      | zero => rfl
      | succ m ih => show cntF (fun _ => false) m + (if false = true then 1 else 0) = 0; rw [ih]; rfl
    exact this n
  | succ x ih =>
    intro hx
    obtain ⟨S, h1, h2, h3⟩ := ih (by omega)
    obtain ⟨k, hk, hC, hSk, hr, hsub⟩ := c_next hg h1 h2 h3 (by omega)
    refine ⟨updB S k true, fun i hi z => ?_, fun i j hi hj hCi z y => ?_, by rw [c_add hk hSk, h3]⟩
    · unfold updB at z
      by_cases e : i = k
      · rw [e]; exact hC
      · rw [if_neg e] at z; exact h1 i hi z
    · unfold updB at z y
      by_cases e : i = k
      · rw [if_pos e] at z; simp at z
      · rw [if_neg e] at z
        by_cases e2 : j = k
        · have hn : cE g k i = false := by rw [hsub i hi]; exact z
          have hn2 : ¬ (1 ≤ i ∧ (g i < g k ∨ (g i = g k ∧ i < k))) := fun w => by rw [cE_iff.mpr w] at hn; simp at hn
          have hCi2 := cC_iff.mp hCi
          have hCk2 := cC_iff.mp hC
          rw [e2]
          exact cE_iff.mpr ⟨hCk2.1, by omega⟩
        · rw [if_neg e2] at y; exact h2 i j hi hj hCi z y
theorem c_rank {g : Nat → Int} {n x : Nat} (hg : ∀ k : Nat, g k ≤ 1000001) (hx : x < cntF (cC g) n) : ∃ k : Nat, CE g n (x : Int) k := by
  obtain ⟨S, h1, h2, h3⟩ := c_all (g := g) (n := n) hg x (by omega)
  obtain ⟨k, hk, hC, -, hr, -⟩ := c_next hg h1 h2 h3 hx
  have hC2 := cC_iff.mp hC
  exact ⟨k, hC2.1, hk, hC2.2, by rw [hr]⟩
theorem c_mono {g : Nat → Int} {n x : Nat} {k1 k2 : Nat} (h1 : CE g n (x : Int) k1) (h2 : CE g n ((x + 1 : Nat) : Int) k2) : g k1 ≤ g k2 := by
  by_cases q : g k1 ≤ g k2
  · exact q
  · have e1 := h1.2.2.2
    have e2 := h2.2.2.2
    rw [et_cnt] at e1 e2
    have := c_le (f := cE g k2) (g := cE g k1) n (fun i hi w => by
      have w2 := cE_iff.mp w
      exact cE_iff.mpr ⟨w2.1, by omega⟩)
    omega
theorem c_first {g : Nat → Int} {n : Nat} {k j : Nat} (h1 : CE g n 0 k) (hj1 : 1 ≤ j) (hj : j < n) : g k ≤ g j := by
  by_cases q : g k ≤ g j
  · exact q
  · have e1 := h1.2.2.2
    rw [et_cnt] at e1
    have h2 : cE g k j = true := cE_iff.mpr ⟨hj1, by omega⟩
    have h3 := c_le (f := updB (fun _ => false) j true) (g := cE g k) n (fun i hi w => by
      unfold updB at w
      by_cases e : i = j
      · rw [e]; exact h2
      · rw [if_neg e] at w; simp at w)
    have h4 := c_add (f := fun _ => false) (k := j) (n := n) hj rfl
    omega
theorem ce_of {g : Nat → Int} {n x : Nat} (hg : ∀ k : Nat, g k ≤ 1000001) (hx : x < cntF (cC g) n) : CE g n (x : Int) (ceF g n (x : Int) n) := by
  obtain ⟨k, hk, hmin⟩ := pk_least (fun k => CE g n (x : Int) k) (c_rank hg hx)
  have e : ceF g n (x : Int) n = k := ce_at hk (fun j hj z => hmin j hj z) n (Nat.le_refl n) hk.2.1
  rw [e]; exact hk
