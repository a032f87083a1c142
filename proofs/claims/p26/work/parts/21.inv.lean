/-! what always holds, holds behind each call -/
theorem xch_a (s : (Nat → Nat) × Int64 × Int64) (k : Nat) : (xch s k).1 = sw s.1 ((k - 1) / 2) k := rfl
theorem stl_pr {h v : Nat → Int} {t : Int} {n : Nat} : ∀ (f : Nat) (s : (Nat → Nat) × Int64 × Int64), (∀ i j : Nat, i < n → j < n → s.1 i = s.1 j → i = j) → (∀ k : Nat, k < n → ∃ j : Nat, j < n ∧ (stl h v t n f s).1 k = s.1 j) ∧ (∀ k : Nat, k < n → ∃ j : Nat, j < n ∧ (stl h v t n f s).1 j = s.1 k) ∧ (∀ i j : Nat, i < n → j < n → (stl h v t n f s).1 i = (stl h v t n f s).1 j → i = j) := by
  intro f
  induction f with
  | zero => intro s hi; exact ⟨fun k hk => ⟨k, hk, rfl⟩, fun k hk => ⟨k, hk, rfl⟩, hi⟩
  | succ f ih =>
    intro s hi
    show (∀ k : Nat, k < n → ∃ j : Nat, j < n ∧ (if bkF h v t s.1 n = 0 then s else stl h v t n f (xch s (bkF h v t s.1 n))).1 k = s.1 j) ∧ (∀ k : Nat, k < n → ∃ j : Nat, j < n ∧ (if bkF h v t s.1 n = 0 then s else stl h v t n f (xch s (bkF h v t s.1 n))).1 j = s.1 k) ∧ (∀ i j : Nat, i < n → j < n → (if bkF h v t s.1 n = 0 then s else stl h v t n f (xch s (bkF h v t s.1 n))).1 i = (if bkF h v t s.1 n = 0 then s else stl h v t n f (xch s (bkF h v t s.1 n))).1 j → i = j)
    by_cases q : bkF h v t s.1 n = 0
    · rw [if_pos q]; exact ⟨fun k hk => ⟨k, hk, rfl⟩, fun k hk => ⟨k, hk, rfl⟩, hi⟩
    · rw [if_neg q]
      have q2 := bk_lt h v t s.1 n
      obtain ⟨b, hb⟩ : ∃ b, b = bkF h v t s.1 n := ⟨_, rfl⟩
      rw [← hb] at q q2 ⊢
      have hp : (b - 1) / 2 < n := by omega
      have hbn : b < n := by omega
      obtain ⟨i1, i2, i3⟩ := ih (xch s b) (sw_inj (by omega) hi hp hbn)
      refine ⟨fun k hk => ?_, fun k hk => ?_, i3⟩
      · obtain ⟨j, hj, e⟩ := i1 k hk
        have hw := sw_in (P := fun x => ∃ j : Nat, j < n ∧ x = s.1 j) (a := s.1) (n := n) (i := (b - 1) / 2) (k := b) (fun j hj => ⟨j, hj, rfl⟩) hp hbn j hj
        obtain ⟨j2, hj2, e2⟩ := hw
        exact ⟨j2, hj2, e.trans e2⟩
      · obtain ⟨j, hj, e⟩ := sw_on (a := s.1) hp hbn hk
        obtain ⟨j2, hj2, e2⟩ := i2 j hj
        exact ⟨j2, hj2, e2.trans e⟩
theorem mx {a t x : Int} : a * x = a * t + a * (x - t) := by rw [← Int.mul_add]; congr 1; omega
/-- until its end the order stands -/
theorem eoo_in {h v : Nat → Int} {t x : Int} {a b : Nat} (h0 : bef h v t a b) (htx : t ≤ x) (hx : x < eoo h v t a b) (hx6 : x ≤ 1000000) : bef h v x a b := by
  have ea : v a * x = v a * t + v a * (x - t) := mx
  have eb : v b * x = v b * t + v b * (x - t) := mx
  obtain ⟨d, hd⟩ : ∃ d, d = x - t := ⟨_, rfl⟩
  rw [← hd] at ea eb
  have hd0 : 0 ≤ d := by omega
  unfold eoo at hx
  rw [if_pos h0] at hx
  by_cases hv : v a ≤ v b
  · have hm := Int.mul_le_mul_of_nonneg_right hv hd0
    rcases h0 with q | q
    · exact Or.inl (by omega)
    · by_cases z : v a * d = v b * d
      · exact Or.inr ⟨by omega, q.2⟩
      · exact Or.inl (by omega)
  · rw [if_neg hv] at hx
    obtain ⟨c, hc⟩ : ∃ c, c = v a - v b := ⟨_, rfl⟩
    obtain ⟨g, hg⟩ : ∃ g, g = h b + v b * t - (h a + v a * t) + (if a < b then 1 else 0) := ⟨_, rfl⟩
    rw [← hc, ← hg] at hx
    have hc0 : 0 < c := by omega
    have hq := Int.ediv_mul_le (g + c - 1) (show c ≠ 0 by omega)
    have hdq : d ≤ (g + c - 1) / c - 1 := by
      unfold cro at hx
      split at hx <;> omega
    have hm := Int.mul_le_mul_of_nonneg_right hdq (Int.le_of_lt hc0)
    have e1 : ((g + c - 1) / c - 1) * c = (g + c - 1) / c * c - c := by rw [Int.sub_mul, Int.one_mul]
    have e2 : d * c = v a * d - v b * d := by rw [hc, Int.mul_sub, Int.mul_comm d, Int.mul_comm d]
    rw [e1, e2] at hm
    by_cases hab : a < b
    · rw [if_pos hab] at hg
      by_cases z : h a + v a * x = h b + v b * x
      · exact Or.inr ⟨z, hab⟩
      · exact Or.inl (by omega)
    · rw [if_neg hab] at hg
      exact Or.inl (by omega)
/-- at its end it doesn't stand any more, for the first is the faster -/
theorem eoo_out {h v : Nat → Int} {t : Int} {a b : Nat} (h0 : bef h v t a b) (he : eoo h v t a b ≤ 1000000) : v b < v a ∧ ¬ bef h v (eoo h v t a b) a b := by
  have he2 := he
  unfold eoo at he2
  rw [if_pos h0] at he2
  by_cases hv : v a ≤ v b
  · rw [if_pos hv] at he2; omega
  · refine ⟨by omega, ?_⟩
    have e0 : eoo h v t a b = cro t (h b + v b * t - (h a + v a * t) + (if a < b then 1 else 0)) (v a - v b) := by unfold eoo; rw [if_pos h0, if_neg hv]
    rw [e0] at he ⊢
    obtain ⟨c, hc⟩ : ∃ c, c = v a - v b := ⟨_, rfl⟩
    obtain ⟨g, hg⟩ : ∃ g, g = h b + v b * t - (h a + v a * t) + (if a < b then 1 else 0) := ⟨_, rfl⟩
    rw [← hc, ← hg] at he ⊢
    have hc0 : 0 < c := by omega
    have e1 : cro t g c = t + (g + c - 1) / c := by
      unfold cro at he ⊢
      split
      · rename_i q; rw [if_pos q] at he; omega
      · rfl
    rw [e1]
    obtain ⟨q, hq⟩ : ∃ q, q = (g + c - 1) / c := ⟨_, rfl⟩
    rw [← hq]
    have hm := Int.lt_ediv_add_one_mul_self (g + c - 1) hc0
    rw [← hq] at hm
    have e2 : (q + 1) * c = q * c + c := by rw [Int.add_mul, Int.one_mul]
    have e3 : q * c = v a * q - v b * q := by rw [hc, Int.mul_sub, Int.mul_comm q, Int.mul_comm q]
    have ea : v a * (t + q) = v a * t + v a * q := Int.mul_add _ _ _
    have eb : v b * (t + q) = v b * t + v b * q := Int.mul_add _ _ _
    rw [e2, e3] at hm
    intro hb
    by_cases hab : a < b
    · rw [if_pos hab] at hg
      rcases hb with z | z <;> omega
    · rw [if_neg hab] at hg
      rcases hb with z | z <;> omega
theorem bf_back {h v : Nat → Int} {t x : Int} {a b : Nat} (h0 : bef h v x a b) (hv : v b ≤ v a) (htx : t ≤ x) : bef h v t a b := by
  have ea : v a * x = v a * t + v a * (x - t) := mx
  have eb : v b * x = v b * t + v b * (x - t) := mx
  have hm := Int.mul_le_mul_of_nonneg_right hv (show 0 ≤ x - t by omega)
  rcases h0 with q | q
  · exact Or.inl (by omega)
  · by_cases z : v b * (x - t) = v a * (x - t)
    · exact Or.inr ⟨by omega, q.2⟩
    · exact Or.inl (by omega)
theorem nfF_le (h v : Nat → Int) (t : Int) (a : Nat → Nat) : ∀ n : Nat, nfF h v t a n ≤ 1000001 ∧ ∀ k : Nat, 1 ≤ k → k < n → nfF h v t a n ≤ er h v t a k := by
  intro n
  induction n with
  | zero => exact ⟨Int.le_refl _, fun k _ hk => absurd hk (Nat.not_lt_zero _)⟩
  | succ n ih =>
    have e : nfF h v t a (n + 1) = if 1 ≤ n then min (nfF h v t a n) (er h v t a n) else 1000001 := rfl
    rw [e]
    by_cases q : 1 ≤ n
    · rw [if_pos q]
      refine ⟨by omega, fun k h1 hk => ?_⟩
      rcases Nat.lt_or_eq_of_le (Nat.lt_succ_iff.mp hk) with z | z
      · have := ih.2 k h1 z; omega
      · subst z; omega
    · rw [if_neg q]
      exact ⟨Int.le_refl _, fun k h1 hk => absurd hk (by omega)⟩
theorem nfF_at (h v : Nat → Int) (t : Int) (a : Nat → Nat) : ∀ n : Nat, nfF h v t a n = 1000001 ∨ ∃ k : Nat, 1 ≤ k ∧ k < n ∧ nfF h v t a n = er h v t a k := by
  intro n
  induction n with
  | zero => exact Or.inl rfl
  | succ n ih =>
    have e : nfF h v t a (n + 1) = if 1 ≤ n then min (nfF h v t a n) (er h v t a n) else 1000001 := rfl
    rw [e]
    by_cases q : 1 ≤ n
    · rw [if_pos q]
      rcases (show min (nfF h v t a n) (er h v t a n) = er h v t a n ∨ min (nfF h v t a n) (er h v t a n) = nfF h v t a n by omega) with z | z
      · exact Or.inr ⟨n, q, Nat.lt_succ_self n, z⟩
      · rw [z]
        rcases ih with y | ⟨k, h1, h2, h3⟩
        · exact Or.inl y
        · exact Or.inr ⟨k, h1, by omega, h3⟩
    · rw [if_neg q]; exact Or.inl rfl
theorem b_time {x y t u B : Int} (h1 : -1000 ≤ y) (h2 : y ≤ 1000) (htu : t ≤ u) (h3 : -(B + 1000 * t) ≤ x + y * t) (h4 : x + y * t ≤ B + 1000 * t) : -(B + 1000 * u) ≤ x + y * u ∧ x + y * u ≤ B + 1000 * u := by
  have e : y * u = y * t + y * (u - t) := mx
  have hm := m_bd h1 h2 (show 0 ≤ u - t by omega)
  omega
/-- the same points later, the heap in order there -/
theorem inv_later {s s' : MS} (hI : Inv s) (ht : mt s ≤ mt s' ∧ mt s' ≤ 100000) (eL : mL s' = mL s) (en : mn s' = mn s) (eB : mB s' = mB s) (eO : mO s' = mO s) (em : mm s' = mm s) (ek : mk s' = mk s)
    (p1 : ∀ k : Nat, k < mn s → ∃ j : Nat, j < mn s ∧ ma s' k = ma s j) (p2 : ∀ k : Nat, k < mn s → ∃ j : Nat, j < mn s ∧ ma s' j = ma s k) (p3 : ∀ i j : Nat, i < mn s → j < mn s → ma s' i = ma s' j → i = j)
    (hc : ∀ k : Nat, 1 ≤ k → k < mn s → bef (mL s).2.1 (mL s).2.2 (mt s') (ma s' ((k - 1) / 2)) (ma s' k)) : Inv s' := by
  obtain ⟨i1, i2, i3, i4, i5, i6, i7, i8, i9, i10, i11, i12, i13⟩ := hI
  unfold Inv
  rw [eL, en, eB, eO, em, ek]
  refine ⟨⟨by omega, ht.2⟩, i2, fun k hk => ?_, p3, fun p hp hth => ?_, i6, fun p hp hth => ?_, hc, i9, ⟨i10.1, by omega⟩, fun i hi => ?_, i12, i13⟩
  · obtain ⟨j, hj, e⟩ := p1 k hk
    rw [e]; exact i3 j hj
  · obtain ⟨k, hk, e⟩ := i5 p hp hth
    obtain ⟨j, hj, e2⟩ := p2 k hk
    exact ⟨j, hj, e2.trans e⟩
  · obtain ⟨q1, q2, q3, q4⟩ := i7 p hp hth
    exact ⟨q1, q2, b_time q1 q2 ht.1 q3 q4⟩
  · have := i11 i hi
    exact ⟨this.1, by omega, this.2.2⟩
theorem inv_stp {s : MS} (hI : Inv s) {f : Int} (h1 : mt s ≤ f) (h2 : f ≤ 100000) : Inv (stpF s f) := by
  have hp := stl_pr (h := (mL s).2.1) (v := (mL s).2.2) (t := f) (n := mn s) 276 (ma s, mE s, mX s) hI.2.2.2.1
  have hz := stl_end (h := (mL s).2.1) (v := (mL s).2.2) (t := f) (n := mn s) 276 (ma s, mE s, mX s) hI.2.2.2.1 (iv_276 _ _ _ _ hI.2.1)
  exact inv_later (s' := stpF s f) hI ⟨h1, h2⟩ rfl rfl rfl rfl rfl rfl hp.1 hp.2.1 hp.2.2 (fun k q1 q2 => bk_none (mn s) hz k q1 q2)
theorem inv_setT {s : MS} (hI : Inv s) {x : Int} (h1 : mt s ≤ x) (h2 : x ≤ 100000) (hn : x < nfS s) : Inv (setT s x) :=
  inv_later (s' := setT s x) hI ⟨h1, h2⟩ rfl rfl rfl rfl rfl rfl (fun k hk => ⟨k, hk, rfl⟩) (fun k hk => ⟨k, hk, rfl⟩) hI.2.2.2.1 (fun k q1 q2 => by
    have h3 := (nfF_le (mL s).2.1 (mL s).2.2 (mt s) (ma s) (mn s)).2 k q1 q2
    exact eoo_in (hI.2.2.2.2.2.2.2.1 k q1 q2) h1 (show x < er (mL s).2.1 (mL s).2.2 (mt s) (ma s) k from Int.lt_of_lt_of_le hn h3) (Int.le_trans h2 (by decide)))
-- how often it can stop
def phT (L : LinT) (t : Int) (p q : Nat) : Nat := if p < q ∧ L.1 p = true ∧ L.1 q = true ∧ ((bef L.2.1 L.2.2 t p q ∧ L.2.2 q < L.2.2 p) ∨ (bef L.2.1 L.2.2 t q p ∧ L.2.2 p < L.2.2 q)) then 1 else 0
def phS (L : LinT) (t : Int) : Nat := smF (fun p => smF (phT L t p) 24) 24
theorem ph_276 (L : LinT) (t : Int) : phS L t ≤ 276 := by
  have h1 : phS L t ≤ smF (fun p => smF (fun q => if p < q then 1 else 0) 24) 24 := sm_le 24 (fun i _ => sm_le 24 (fun j _ => by unfold phT; split <;> split <;> omega))
  have h2 : smF (fun p => smF (fun q => if p < q then 1 else 0) 24) 24 ≤ 276 := by decide +kernel
  omega
theorem phT_le {L : LinT} {t u : Int} (htu : t ≤ u) (p q : Nat) : phT L u p q ≤ phT L t p q := by
  unfold phT
  by_cases h0 : p < q ∧ L.1 p = true ∧ L.1 q = true ∧ ((bef L.2.1 L.2.2 u p q ∧ L.2.2 q < L.2.2 p) ∨ (bef L.2.1 L.2.2 u q p ∧ L.2.2 p < L.2.2 q))
  · have h1 : p < q ∧ L.1 p = true ∧ L.1 q = true ∧ ((bef L.2.1 L.2.2 t p q ∧ L.2.2 q < L.2.2 p) ∨ (bef L.2.1 L.2.2 t q p ∧ L.2.2 p < L.2.2 q)) := by
      obtain ⟨z1, z2, z3, z4⟩ := h0
      refine ⟨z1, z2, z3, ?_⟩
      rcases z4 with y | y
      · exact Or.inl ⟨bf_back y.1 (Int.le_of_lt y.2) htu, y.2⟩
      · exact Or.inr ⟨bf_back y.1 (Int.le_of_lt y.2) htu, y.2⟩
    rw [if_pos h0, if_pos h1]; exact Nat.le_refl _
  · rw [if_neg h0]; exact Nat.zero_le _
theorem ph_lt {L : LinT} {t u : Int} (htu : t ≤ u) {a b : Nat} (ha : a < 24) (hb : b < 24) (hta : L.1 a = true) (htb : L.1 b = true) (h0 : bef L.2.1 L.2.2 t a b) (hv : L.2.2 b < L.2.2 a) (h1 : ¬ bef L.2.1 L.2.2 u a b) : phS L u < phS L t := by
  have hne : a ≠ b := fun e => by subst e; exact bf_ir h0
  unfold phS
  rcases (show a < b ∨ b < a by omega) with q | q
  · refine sm_lt 24 (fun p _ => sm_le 24 (fun q _ => phT_le htu p q)) ⟨a, ha, sm_lt 24 (fun q _ => phT_le htu a q) ⟨b, hb, ?_⟩⟩
    unfold phT
    rw [if_neg (fun z => z.2.2.2.elim (fun y => h1 y.1) (fun y => by omega)), if_pos ⟨q, hta, htb, Or.inl ⟨h0, hv⟩⟩]
    exact Nat.lt_succ_self 0
  · refine sm_lt 24 (fun p _ => sm_le 24 (fun q _ => phT_le htu p q)) ⟨b, hb, sm_lt 24 (fun q _ => phT_le htu b q) ⟨a, ha, ?_⟩⟩
    unfold phT
    rw [if_neg (fun z => z.2.2.2.elim (fun y => by omega) (fun y => h1 y.1)), if_pos ⟨q, htb, hta, Or.inr ⟨h0, hv⟩⟩]
    exact Nat.lt_succ_self 0
/-- a stop uses up a pair -/
theorem ph_stp {s : MS} (hI : Inv s) (hf : nfS s ≤ 100000) : phS (mL s) (nfS s) < phS (mL s) (mt s) := by
  rcases nfF_at (mL s).2.1 (mL s).2.2 (mt s) (ma s) (mn s) with q | ⟨k, h1, h2, h3⟩
  · unfold nfS at hf; omega
  · have hb := hI.2.2.2.2.2.2.2.1 k h1 h2
    have hk := hI.2.2.1 k h2
    have hp := hI.2.2.1 ((k - 1) / 2) (by omega)
    have e : nfS s = eoo (mL s).2.1 (mL s).2.2 (mt s) (ma s ((k - 1) / 2)) (ma s k) := h3
    have ho := eoo_out hb (by rw [← e]; omega)
    rw [← e] at ho
    exact ph_lt (nf_ge hI) hp.1 hk.1 hp.2 hk.2 hb ho.1 ho.2
theorem ps_inv {x : Int} (hx : x ≤ 100000) : ∀ (f : Nat) (s : MS), Inv s → mt s ≤ x → Inv (psF x f s).2 ∧ mt (psF x f s).2 ≤ x := by
  intro f
  induction f with
  | zero => intro s hI hs; exact ⟨hI, hs⟩
  | succ f ih =>
    intro s hI hs
    have e : psF x (f + 1) s = if nfS s ≤ x then ((psF x f (stpF s (nfS s))).1 + 1, (psF x f (stpF s (nfS s))).2) else (0, s) := rfl
    rw [e]
    by_cases q : nfS s ≤ x
    · rw [if_pos q]
      exact ih (stpF s (nfS s)) (inv_stp hI (nf_ge hI) (by omega)) q
    · rw [if_neg q]; exact ⟨hI, hs⟩
theorem ps_end {x : Int} (hx : x ≤ 100000) : ∀ (f : Nat) (s : MS), Inv s → phS (mL s) (mt s) ≤ f → x < nfS (psF x f s).2 := by
  intro f
  induction f with
  | zero =>
    intro s hI h0
    show x < nfS s
    by_cases q : nfS s ≤ x
    · have := ph_stp hI (by omega); omega
    · omega
  | succ f ih =>
    intro s hI h0
    have e : psF x (f + 1) s = if nfS s ≤ x then ((psF x f (stpF s (nfS s))).1 + 1, (psF x f (stpF s (nfS s))).2) else (0, s) := rfl
    rw [e]
    by_cases q : nfS s ≤ x
    · rw [if_pos q]
      have hlt := ph_stp hI (by omega)
      exact ih (stpF s (nfS s)) (inv_stp hI (nf_ge hI) (by omega)) (by show phS (mL s) (nfS s) ≤ f; omega)
    · rw [if_neg q]; show x < nfS s; omega
