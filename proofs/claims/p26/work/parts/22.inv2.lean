/-! what always holds, holds behind the operations -/
theorem ps_stop {x : Int} {s : MS} (hn : x < nfS s) : ∀ f : Nat, psF x f s = (0, s) := by
  intro f
  cases f with
  | zero => rfl
  | succ f =>
    show (if nfS s ≤ x then _ else _) = _
    rw [if_neg (by omega)]
theorem ps_step {x : Int} {s : MS} {i : Nat} (hi : i < 276) (hn : nfS s ≤ x) : psF x (276 - i) s = ((psF x (276 - (i + 1)) (stpF s (nfS s))).1 + 1, (psF x (276 - (i + 1)) (stpF s (nfS s))).2) := by
  rw [show 276 - i = (276 - (i + 1)) + 1 by omega]
  show (if nfS s ≤ x then _ else _) = _
  rw [if_pos hn]
theorem rp_congr {B : LinT} {O O' : Nat → OpT} : ∀ m : Nat, (∀ i : Nat, i < m → O i = O' i) → rp B O m = rp B O' m := by
  intro m
  induction m with
  | zero => intro _; rfl
  | succ m ih =>
    intro h0
    show apO (rp B O m) (O m) = apO (rp B O' m) (O' m)
    rw [ih (fun i hi => h0 i (by omega)), h0 m (Nat.lt_succ_self m)]
theorem inv_op {s : MS} (hI : Inv s) {L : LinT} {a : Nat → Nat} {n : Nat} {b : Nat → Int} {p : Nat} (hm : mm s < 200) (hp : p < 24) (hn : n ≤ 24) (ha : ∀ k : Nat, k < n → a k < 24 ∧ L.1 (a k) = true) (hinj : ∀ i j : Nat, i < n → j < n → a i = a j → i = j) (hon : ∀ q : Nat, q < 24 → L.1 q = true → ∃ k : Nat, k < n ∧ a k = q) (hcnt : cntF L.1 24 = n)
    (hbd : ∀ q : Nat, q < 24 → L.1 q = true → -1000 ≤ L.2.2 q ∧ L.2.2 q ≤ 1000 ∧ -(1000000 + 1000 * mt s) ≤ L.2.1 q + L.2.2 q * mt s ∧ L.2.1 q + L.2.2 q * mt s ≤ 1000000 + 1000 * mt s)
    (hoth : ∀ q : Nat, q < 24 → q ≠ p → L.1 q = (mL s).1 q ∧ (L.1 q = true → L.2.1 q = (mL s).2.1 q ∧ L.2.2 q = (mL s).2.2 q)) : Inv (opF s L a n b p) := by
  obtain ⟨i1, i2, i3, i4, i5, i6, i7, i8, i9, i10, i11, i12, i13⟩ := hI
  have hz := stl_end (h := L.2.1) (v := L.2.2) (t := mt s) (n := n) 276 (a, mE s, mX s) hinj (iv_276 _ _ _ _ hn)
  obtain ⟨p1, p2, p3⟩ := stl_pr (h := L.2.1) (v := L.2.2) (t := mt s) (n := n) 276 (a, mE s, mX s) hinj
  have eO : ∀ i : Nat, i < mm s → updO (mO s) (mm s) (mt s, p, L.1 p, L.2.1 p, L.2.2 p) i = mO s i := fun i hi => by unfold updO; rw [if_neg (by omega)]
  have eM : updO (mO s) (mm s) (mt s, p, L.1 p, L.2.1 p, L.2.2 p) (mm s) = (mt s, p, L.1 p, L.2.1 p, L.2.2 p) := by unfold updO; rw [if_pos rfl]
  refine ⟨i1, hn, fun k hk => ?_, p3, fun q hq hth => ?_, hcnt, hbd, fun k q1 q2 => bk_none n hz k q1 q2, by show mm s + 1 ≤ 200; omega, i10, fun i hi => ?_, fun i j hij hj => ?_, fun q hq => ?_⟩
  · obtain ⟨j, hj, e⟩ := p1 k hk
    show (stl L.2.1 L.2.2 (mt s) n 276 (a, mE s, mX s)).1 k < 24 ∧ L.1 ((stl L.2.1 L.2.2 (mt s) n 276 (a, mE s, mX s)).1 k) = true
    rw [e]; exact ha j hj
  · obtain ⟨k, hk, e⟩ := hon q hq hth
    obtain ⟨j, hj, e2⟩ := p2 k hk
    exact ⟨j, hj, e2.trans e⟩
  · have hi' : i < mm s + 1 := hi
    show mk s ≤ (updO (mO s) (mm s) (mt s, p, L.1 p, L.2.1 p, L.2.2 p) i).1 ∧ (updO (mO s) (mm s) (mt s, p, L.1 p, L.2.1 p, L.2.2 p) i).1 ≤ mt s ∧ (updO (mO s) (mm s) (mt s, p, L.1 p, L.2.1 p, L.2.2 p) i).2.1 < 24
    rcases Nat.lt_or_eq_of_le (Nat.lt_succ_iff.mp hi') with z | z
    · rw [eO i z]; exact i11 i z
    · rw [z, eM]; exact ⟨i10.2, Int.le_refl _, hp⟩
  · have hj' : j < mm s + 1 := hj
    show (updO (mO s) (mm s) (mt s, p, L.1 p, L.2.1 p, L.2.2 p) i).1 ≤ (updO (mO s) (mm s) (mt s, p, L.1 p, L.2.1 p, L.2.2 p) j).1
    rw [eO i (by omega)]
    rcases Nat.lt_or_eq_of_le (Nat.lt_succ_iff.mp hj') with z | z
    · rw [eO j z]; exact i12 i j hij z
    · rw [z, eM]; exact (i11 i (by omega)).2.1
  · show (rp (mB s) (updO (mO s) (mm s) (mt s, p, L.1 p, L.2.1 p, L.2.2 p)) (mm s + 1)).1 q = L.1 q ∧ (L.1 q = true → (rp (mB s) (updO (mO s) (mm s) (mt s, p, L.1 p, L.2.1 p, L.2.2 p)) (mm s + 1)).2.1 q = L.2.1 q ∧ (rp (mB s) (updO (mO s) (mm s) (mt s, p, L.1 p, L.2.1 p, L.2.2 p)) (mm s + 1)).2.2 q = L.2.2 q)
    have er : rp (mB s) (updO (mO s) (mm s) (mt s, p, L.1 p, L.2.1 p, L.2.2 p)) (mm s + 1) = apO (rp (mB s) (mO s) (mm s)) (mt s, p, L.1 p, L.2.1 p, L.2.2 p) := by
      show apO (rp (mB s) (updO (mO s) (mm s) (mt s, p, L.1 p, L.2.1 p, L.2.2 p)) (mm s)) (updO (mO s) (mm s) (mt s, p, L.1 p, L.2.1 p, L.2.2 p) (mm s)) = _
      rw [eM, rp_congr (mm s) eO]
    rw [er]
    unfold apO
    dsimp only
    by_cases hL : L.1 p = true
    · rw [if_pos hL]
      by_cases e : q = p
      · subst e
        refine ⟨by simp [updB, hL], fun _ => ⟨by simp [updN], by simp [updN]⟩⟩
      · have h1 := hoth q hq e
        have h2 := i13 q hq
        refine ⟨by simp only [updB, if_neg e]; rw [h2.1, h1.1], fun hth => ?_⟩
        simp only [updN, if_neg e]
        have h3 := h2.2 (by rw [← h1.1]; exact hth)
        have h4 := h1.2 hth
        exact ⟨h3.1.trans h4.1.symm, h3.2.trans h4.2.symm⟩
    · rw [if_neg hL]
      by_cases e : q = p
      · subst e
        refine ⟨by simp only [updB, if_true]; exact (Bool.not_eq_true _ ▸ hL).symm, fun hth => absurd hth hL⟩
      · have h1 := hoth q hq e
        have h2 := i13 q hq
        refine ⟨by simp only [updB, if_neg e]; rw [h2.1, h1.1], fun hth => ?_⟩
        have h3 := h2.2 (by rw [← h1.1]; exact hth)
        have h4 := h1.2 hth
        exact ⟨h3.1.trans h4.1.symm, h3.2.trans h4.2.symm⟩
theorem set_val {y w t : Int} : (y - w * t) + w * t = y := by omega
theorem inv_ins {s : MS} (hI : Inv s) (y w : Int) : Inv (insF s y w).2 := by
  unfold insF
  by_cases h1 : ¬ (okV y ∧ okW w)
  · rw [if_pos h1]; exact hI
  · rw [if_neg h1]
    by_cases h2 : lowF (mL s).1 24 = 24 ∨ 200 ≤ mm s
    · rw [if_pos h2]; exact hI
    · rw [if_neg h2]
      obtain ⟨p, hp⟩ : ∃ p, p = lowF (mL s).1 24 := ⟨_, rfl⟩
      have hok : okV y ∧ okW w := Classical.byContradiction h1
      have hlow : p < 24 ∧ (mL s).1 p = false := by
        have h0 : (∃ q : Nat, q < 24 ∧ (mL s).1 q = false) ∨ ∀ q : Nat, q < 24 → (mL s).1 q = true := by
          by_cases z : ∀ q : Nat, q < 24 → (mL s).1 q = true
          · exact Or.inr z
          · refine Or.inl (Classical.byContradiction (fun c => z (fun q hq => ?_)))
            cases hc : (mL s).1 q with
            | true => rfl
            | false => exact absurd ⟨q, hq, hc⟩ c
        rcases h0 with ⟨q, hq, hf⟩ | h0
        · obtain ⟨r, hr1, hr2⟩ := pk_least (fun k => k < 24 ∧ (mL s).1 k = false) ⟨q, hq, hf⟩
          have := low_at hr1.2 (fun j hj => by
            cases hc : (mL s).1 j with
            | true => rfl
            | false => exact absurd ⟨by omega, hc⟩ (hr2 j hj)) 24 hr1.1
          rw [hp, this]; exact hr1
        · exact absurd (Or.inl (low_all 24 h0)) h2
      rw [← hp]
      obtain ⟨hp24, hpf⟩ := hlow
      have hn24 : mn s < 24 := by rw [← hI.2.2.2.2.2.1]; exact cnt_lt hpf 24 hp24
      have hno : ∀ k : Nat, k < mn s → ma s k ≠ p := fun k hk q => by have := (hI.2.2.1 k hk).2; rw [q, hpf] at this; exact absurd this (by decide)
      have hcs := cnt_set (mL s).1 p true 24
      rw [if_pos hp24, hpf, hI.2.2.2.2.2.1] at hcs
      simp at hcs
      refine inv_op hI (by omega) hp24 (by omega) (fun k hk => ?_) (fun i j hi hj e => ?_) (fun q hq hth => ?_) (by show cntF (updB (mL s).1 p true) 24 = mn s + 1; omega) (fun q hq hth => ?_) (fun q hq hne => ?_)
      · refine ⟨?_, ht_app (fun k hk => (hI.2.2.1 k hk).2) k hk⟩
        unfold updA
        split
        · exact hp24
        · exact (hI.2.2.1 k (by omega)).1
      · unfold updA at e
        by_cases z1 : i = mn s <;> by_cases z2 : j = mn s
        · omega
        · rw [if_pos z1, if_neg z2] at e; exact absurd e.symm (hno j (by omega))
        · rw [if_neg z1, if_pos z2] at e; exact absurd e (hno i (by omega))
        · rw [if_neg z1, if_neg z2] at e; exact hI.2.2.2.1 i j (by omega) (by omega) e
      · by_cases z : q = p
        · exact ⟨mn s, by omega, by unfold updA; rw [if_pos rfl, z]⟩
        · have hth2 : (mL s).1 q = true := by
            have h5 : updB (mL s).1 p true q = true := hth
            unfold updB at h5; rw [if_neg z] at h5; exact h5
          obtain ⟨k, hk, e⟩ := hI.2.2.2.2.1 q hq hth2
          exact ⟨k, by omega, by unfold updA; rw [if_neg (by omega), e]⟩
      · show -1000 ≤ updN (mL s).2.2 p w q ∧ updN (mL s).2.2 p w q ≤ 1000 ∧ -(1000000 + 1000 * mt s) ≤ updN (mL s).2.1 p (y - w * mt s) q + updN (mL s).2.2 p w q * mt s ∧ updN (mL s).2.1 p (y - w * mt s) q + updN (mL s).2.2 p w q * mt s ≤ 1000000 + 1000 * mt s
        by_cases z : q = p
        · have e1 : updN (mL s).2.2 p w q = w := by unfold updN; rw [if_pos z]
          have e2 : updN (mL s).2.1 p (y - w * mt s) q = y - w * mt s := by unfold updN; rw [if_pos z]
          have h3 := hI.1
          obtain ⟨⟨o1, o2⟩, o3, o4⟩ := hok
          rw [e1, e2, set_val]; omega
        · have hth2 : (mL s).1 q = true := by
            have h5 : updB (mL s).1 p true q = true := hth
            unfold updB at h5; rw [if_neg z] at h5; exact h5
          have e1 : updN (mL s).2.2 p w q = (mL s).2.2 q := by unfold updN; rw [if_neg z]
          have e2 : updN (mL s).2.1 p (y - w * mt s) q = (mL s).2.1 q := by unfold updN; rw [if_neg z]
          rw [e1, e2]; exact hI.2.2.2.2.2.2.1 q hq hth2
      · show updB (mL s).1 p true q = (mL s).1 q ∧ (updB (mL s).1 p true q = true → updN (mL s).2.1 p (y - w * mt s) q = (mL s).2.1 q ∧ updN (mL s).2.2 p w q = (mL s).2.2 q)
        unfold updB updN
        rw [if_neg hne, if_neg hne, if_neg hne]
        exact ⟨rfl, fun _ => ⟨rfl, rfl⟩⟩
theorem inv_set {s : MS} (hI : Inv s) {p : Nat} {y w : Int} (hp : p < 24) (hth : (mL s).1 p = true) (hw : -1000 ≤ w ∧ w ≤ 1000) (hy : -(1000000 + 1000 * mt s) ≤ y ∧ y ≤ 1000000 + 1000 * mt s) (hm : mm s < 200) : Inv (opF s (setL (mL s) p y w (mt s)) (ma s) (mn s) (mb s) p) := by
  have hcs := cnt_set (mL s).1 p true 24
  rw [if_pos hp, hth, hI.2.2.2.2.2.1] at hcs
  simp at hcs
  have hB : ∀ q : Nat, updB (mL s).1 p true q = (mL s).1 q := fun q => by
    unfold updB
    by_cases z : q = p
    · rw [if_pos z, z, hth]
    · rw [if_neg z]
  refine inv_op hI hm hp hI.2.1 (fun k hk => ⟨(hI.2.2.1 k hk).1, ?_⟩) hI.2.2.2.1 (fun q hq hq2 => ?_) (by show cntF (updB (mL s).1 p true) 24 = mn s; omega) (fun q hq hq2 => ?_) (fun q hq hne => ?_)
  · show updB (mL s).1 p true (ma s k) = true
    rw [hB]; exact (hI.2.2.1 k hk).2
  · have h5 : updB (mL s).1 p true q = true := hq2
    rw [hB] at h5
    exact hI.2.2.2.2.1 q hq h5
  · show -1000 ≤ updN (mL s).2.2 p w q ∧ updN (mL s).2.2 p w q ≤ 1000 ∧ -(1000000 + 1000 * mt s) ≤ updN (mL s).2.1 p (y - w * mt s) q + updN (mL s).2.2 p w q * mt s ∧ updN (mL s).2.1 p (y - w * mt s) q + updN (mL s).2.2 p w q * mt s ≤ 1000000 + 1000 * mt s
    by_cases z : q = p
    · have e1 : updN (mL s).2.2 p w q = w := by unfold updN; rw [if_pos z]
      have e2 : updN (mL s).2.1 p (y - w * mt s) q = y - w * mt s := by unfold updN; rw [if_pos z]
      rw [e1, e2, set_val]; exact ⟨hw.1, hw.2, hy.1, hy.2⟩
    · have h5 : updB (mL s).1 p true q = true := hq2
      rw [hB] at h5
      have e1 : updN (mL s).2.2 p w q = (mL s).2.2 q := by unfold updN; rw [if_neg z]
      have e2 : updN (mL s).2.1 p (y - w * mt s) q = (mL s).2.1 q := by unfold updN; rw [if_neg z]
      rw [e1, e2]; exact hI.2.2.2.2.2.2.1 q hq h5
  · show updB (mL s).1 p true q = (mL s).1 q ∧ (updB (mL s).1 p true q = true → updN (mL s).2.1 p (y - w * mt s) q = (mL s).2.1 q ∧ updN (mL s).2.2 p w q = (mL s).2.2 q)
    unfold updB updN
    rw [if_neg hne, if_neg hne, if_neg hne]
    exact ⟨rfl, fun _ => ⟨rfl, rfl⟩⟩
theorem inv_vel {s : MS} (hI : Inv s) (x w : Int) : Inv (velF s x w).2 := by
  unfold velF
  by_cases h1 : ¬ (isP (mL s) x ∧ okW w)
  · rw [if_pos h1]; exact hI
  · rw [if_neg h1]
    by_cases h2 : 200 ≤ mm s
    · rw [if_pos h2]; exact hI
    · rw [if_neg h2]
      obtain ⟨⟨z1, z2, z3⟩, z4, z5⟩ := Classical.byContradiction h1
      have hb := hI.2.2.2.2.2.2.1 x.toNat (by omega) z3
      exact inv_set hI (by omega) z3 ⟨z4, z5⟩ ⟨hb.2.2.1, hb.2.2.2⟩ (by omega)
theorem inv_jmp {s : MS} (hI : Inv s) (x y : Int) : Inv (jmpF s x y).2 := by
  unfold jmpF
  by_cases h1 : ¬ (isP (mL s) x ∧ okV y)
  · rw [if_pos h1]; exact hI
  · rw [if_neg h1]
    by_cases h2 : 200 ≤ mm s
    · rw [if_pos h2]; exact hI
    · rw [if_neg h2]
      obtain ⟨⟨z1, z2, z3⟩, z4, z5⟩ := Classical.byContradiction h1
      have hb := hI.2.2.2.2.2.2.1 x.toNat (by omega) z3
      have h3 := hI.1
      exact inv_set hI (by omega) z3 ⟨hb.1, hb.2.1⟩ ⟨by omega, by omega⟩ (by omega)
theorem inv_rem {s : MS} (hI : Inv s) (x : Int) : Inv (remF s x).2 := by
  unfold remF
  by_cases h1 : ¬ isP (mL s) x
  · rw [if_pos h1]; exact hI
  · rw [if_neg h1]
    by_cases h2 : 200 ≤ mm s
    · rw [if_pos h2]; exact hI
    · rw [if_neg h2]
      obtain ⟨z1, z2, z3⟩ := Classical.byContradiction h1
      obtain ⟨p, hp⟩ : ∃ p, p = x.toNat := ⟨_, rfl⟩
      rw [← hp] at z3 ⊢
      have hp24 : p < 24 := by omega
      obtain ⟨hk, hak⟩ := inv_pl hI hp24 z3
      obtain ⟨k, hkk⟩ : ∃ k, k = plF (ma s) p (mn s) := ⟨_, rfl⟩
      rw [← hkk] at hk hak ⊢
      have hcs := cnt_set (mL s).1 p false 24
      rw [if_pos hp24, z3, hI.2.2.2.2.2.1] at hcs
      simp at hcs
      have hi4 := hI.2.2.2.1
      have hB : ∀ q : Nat, q ≠ p → updB (mL s).1 p false q = (mL s).1 q := fun q z => by unfold updB; rw [if_neg z]
      have hBp : updB (mL s).1 p false p = false := by unfold updB; rw [if_pos rfl]
      have hT := ht_take (p := p) (fun j hj => (hI.2.2.1 j hj).2) hi4 hk hak
      refine inv_op hI (by omega) hp24 (by have := hI.2.1; omega) (fun j hj => ⟨?_, hT j hj⟩) (fun i j hi hj e => ?_) (fun q hq hq2 => ?_) (by show cntF (updB (mL s).1 p false) 24 = mn s - 1; omega) (fun q hq hq2 => ?_) (fun q hq hne => ?_)
      · unfold updA
        split
        · exact (hI.2.2.1 (mn s - 1) (by omega)).1
        · exact (hI.2.2.1 j (by omega)).1
      · unfold updA at e
        by_cases y1 : i = k <;> by_cases y2 : j = k
        · omega
        · rw [if_pos y1, if_neg y2] at e; have := hi4 (mn s - 1) j (by omega) (by omega) e; omega
        · rw [if_neg y1, if_pos y2] at e; have := hi4 i (mn s - 1) (by omega) (by omega) e; omega
        · rw [if_neg y1, if_neg y2] at e; exact hi4 i j (by omega) (by omega) e
      · have h5 : updB (mL s).1 p false q = true := hq2
        have hne : q ≠ p := fun z => by rw [z, hBp] at h5; exact absurd h5 (by decide)
        rw [hB q hne] at h5
        obtain ⟨j, hj, e⟩ := hI.2.2.2.2.1 q hq h5
        have hjk : j ≠ k := fun z => by rw [z, hak] at e; exact hne e.symm
        by_cases y : j = mn s - 1
        · exact ⟨k, by omega, by unfold updA; rw [if_pos rfl, ← y, e]⟩
        · exact ⟨j, by omega, by unfold updA; rw [if_neg hjk, e]⟩
      · have h5 : updB (mL s).1 p false q = true := hq2
        have hne : q ≠ p := fun z => by rw [z, hBp] at h5; exact absurd h5 (by decide)
        rw [hB q hne] at h5
        exact hI.2.2.2.2.2.2.1 q hq h5
      · exact ⟨hB q hne, fun _ => ⟨rfl, rfl⟩⟩
theorem inv_pas {s : MS} (hI : Inv s) (x : Int) : Inv (pasF s x).2 := by
  unfold pasF
  by_cases h1 : x < mt s ∨ 100000 < x
  · rw [if_pos h1]; exact hI
  · rw [if_neg h1]
    have h2 := ps_inv (x := x) (by omega) 276 s hI (by omega)
    exact inv_setT h2.1 h2.2 (by omega) (ps_end (by omega) 276 s hI (ph_276 _ _))
theorem inv_ste {s : MS} (hI : Inv s) : Inv (steF s).2 := by
  unfold steF
  by_cases h1 : nfS s ≤ 100000
  · rw [if_pos h1]; exact inv_stp hI (nf_ge hI) h1
  · rw [if_neg h1]; exact hI
theorem inv_fog {s : MS} (hI : Inv s) : Inv (fogF s).2 := by
  obtain ⟨i1, i2, i3, i4, i5, i6, i7, i8, i9, i10, i11, i12, i13⟩ := hI
  exact ⟨i1, i2, i3, i4, i5, i6, i7, i8, Nat.zero_le _, ⟨i1.1, Int.le_refl _⟩, fun i hi => absurd hi (Nat.not_lt_zero _), fun i j _ hj => absurd hj (Nat.not_lt_zero _), fun p _ => ⟨rfl, fun _ => ⟨rfl, rfl⟩⟩⟩
