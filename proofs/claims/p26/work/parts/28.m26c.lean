/-! p26, pure: what an act does -/
theorem q_low {s : MS} (hI : Inv s) : (lowF (mL s).1 24 = 24 ∧ mn s = 24) ∨ (lowF (mL s).1 24 < 24 ∧ (mL s).1 (lowF (mL s).1 24) = false) := by
  by_cases h0 : ∀ q : Nat, q < 24 → (mL s).1 q = true
  · left
    refine ⟨low_all 24 h0, ?_⟩
    rw [← hI.2.2.2.2.2.1, c_eq (g := fun _ => true) 24 h0]
    decide
  · right
    have h1 : ∃ q : Nat, q < 24 ∧ (mL s).1 q = false := Classical.byContradiction (fun c => h0 (fun q hq => by
      cases z : (mL s).1 q with
      | true => rfl
      | false => exact absurd ⟨q, hq, z⟩ c))
    obtain ⟨r, hr1, hr2⟩ := pk_least (fun k => k < 24 ∧ (mL s).1 k = false) h1
    have e := low_at hr1.2 (fun j hj => by
      cases z : (mL s).1 j with
      | true => rfl
      | false => exact absurd ⟨by omega, z⟩ (hr2 j hj)) 24 hr1.1
    rw [e]; exact hr1
theorem q_ins {k : Nat} {s : MS} (hJ : Jg k s) (hk : k ≤ 100) {y w : Int} (hy : okV y) (hw : okW w) : Jg (k + 1) (insF s y w).2 ∧ (((insF s y w).1 = aLIM ∧ mn s = 24) ∨ (0 ≤ (insF s y w).1 ∧ (insF s y w).1 < 24 ∧ mn (insF s y w).2 = mn s + 1 ∧ ptF (insF s y w).2 (insF s y w).1 3 = mt (insF s y w).2)) := by
  have hI := hJ.1
  have hI2 := inv_ins hI y w
  have hmm := hJ.2.2.1
  have hlw := q_low hI
  unfold insF at hI2 ⊢
  rw [if_neg (not_not_intro ⟨hy, hw⟩)] at hI2 ⊢
  rcases hlw with ⟨e1, e2⟩ | ⟨h1, h2⟩
  · rw [if_pos (Or.inl e1)]
    exact ⟨jg_up hJ, Or.inl ⟨rfl, e2⟩⟩
  · rw [if_neg (by omega)] at hI2 ⊢
    obtain ⟨p, hp⟩ : ∃ p, p = lowF (mL s).1 24 := ⟨_, rfl⟩
    rw [← hp] at h1 h2 hI2 ⊢
    have hth : updB (mL s).1 p true p = true := by unfold updB; rw [if_pos rfl]
    refine ⟨jg_op hJ hk hI2 (fun q hq hqt => ?_), Or.inr ⟨Int.natCast_nonneg p, by show (p : Int) < 24; omega, rfl, ?_⟩⟩
    · show updN (mb s) p (mt s) q ≤ mt s
      have hqt2 : updB (mL s).1 p true q = true := hqt
      unfold updB at hqt2
      unfold updN
      by_cases z : q = p
      · rw [if_pos z]; exact Int.le_refl _
      · rw [if_neg z] at hqt2 ⊢; exact hJ.2.1 q hq hqt2
    · have e3 := g_p3 (s := opF s (setL (mL s) p y w (mt s)) (updA (ma s) (mn s) p) (mn s + 1) (updN (mb s) p (mt s)) p) h1 hth
      refine e3.trans ?_
      show updN (mb s) p (mt s) p = mt s
      unfold updN; rw [if_pos rfl]
theorem q_val {s : MS} (hI : Inv s) {p : Nat} (hp : p < 24) (ht : (mL s).1 p = true) : -101000000 ≤ valP s p ∧ valP s p ≤ 101000000 := ⟨(inv_h hI hp ht).1, (inv_h hI hp ht).2.1⟩
theorem q_isP {s : MS} {x : Int} (hx : 0 ≤ x ∧ x < 24) : (isP (mL s) x ∧ (mL s).1 x.toNat = true) ∨ (¬ isP (mL s) x ∧ (mL s).1 x.toNat = false) := by
  cases z : (mL s).1 x.toNat with
  | true => exact Or.inl ⟨⟨hx.1, hx.2, z⟩, rfl⟩
  | false => exact Or.inr ⟨fun y => by have y2 := y.2.2; rw [z] at y2; exact absurd y2 (by decide), rfl⟩
theorem q_rem {k : Nat} {s : MS} (hJ : Jg k s) (hk : k ≤ 100) {x : Int} (hx : 0 ≤ x ∧ x < 24) : Jg (k + 1) (remF s x).2 ∧ (((remF s x).1 = aINV ∧ mn (remF s x).2 = mn s) ∨ ((remF s x).1 ≠ aINV ∧ (mn (remF s x).2 : Int) = (mn s : Int) - 1 ∧ vaaF (remF s x).2 x (mt (remF s x).2) = aNF)) := by
  have hI := hJ.1
  have hI2 := inv_rem hI x
  have hmm := hJ.2.2.1
  rcases q_isP (s := s) hx with ⟨h1, h2⟩ | ⟨h1, h2⟩
  · unfold remF at hI2 ⊢
    rw [if_neg (not_not_intro h1), if_neg (by omega)] at hI2 ⊢
    obtain ⟨p, hp⟩ : ∃ p, p = x.toNat := ⟨_, rfl⟩
    rw [← hp] at h2 hI2 ⊢
    have hp24 : p < 24 := by omega
    have hv := q_val hI hp24 h2
    obtain ⟨j, hj, _⟩ := hI.2.2.2.2.1 p hp24 h2
    refine ⟨jg_op hJ hk hI2 (fun q hq hqt => ?_), Or.inr ⟨?_, ?_, ?_⟩⟩
    · have hqt2 : updB (mL s).1 p false q = true := hqt
      unfold updB at hqt2
      by_cases z : q = p
      · rw [if_pos z] at hqt2; exact absurd hqt2 (by decide)
      · rw [if_neg z] at hqt2; exact hJ.2.1 q hq hqt2
    · show valP s p ≠ -1000000000001; omega
    · show ((mn s - 1 : Nat) : Int) = (mn s : Int) - 1; omega
    · rw [show x = (p : Int) by omega]
      refine g_va0 hI2 hp24 ?_
      show updB (mL s).1 p false p = false
      unfold updB; rw [if_pos rfl]
  · unfold remF
    rw [if_pos h1]
    exact ⟨jg_up hJ, Or.inl ⟨rfl, rfl⟩⟩
theorem q_setB {s : MS} {p : Nat} (ht : (mL s).1 p = true) {q : Nat} (hq : updB (mL s).1 p true q = true) : (mL s).1 q = true := by
  unfold updB at hq
  by_cases z : q = p
  · rw [z]; exact ht
  · rw [if_neg z] at hq; exact hq
theorem q_vel {k : Nat} {s : MS} (hJ : Jg k s) (hk : k ≤ 100) {x w : Int} (hx : 0 ≤ x ∧ x < 24) (hw : okW w) : Jg (k + 1) (velF s x w).2 ∧ ((ptF s x 0 = aINV ∧ (velF s x w).1 = aINV) ∨ (ptF s x 0 ≠ aINV ∧ ptF (velF s x w).2 x 0 = ptF s x 0 ∧ ptF (velF s x w).2 x 1 = w ∧ -1000 ≤ (velF s x w).1 ∧ (velF s x w).1 ≤ 1000)) := by
  have hI := hJ.1
  have hI2 := inv_vel hI x w
  have hmm := hJ.2.2.1
  rcases q_isP (s := s) hx with ⟨h1, h2⟩ | ⟨h1, h2⟩
  · unfold velF at hI2 ⊢
    rw [if_neg (not_not_intro ⟨h1, hw⟩), if_neg (by omega)] at hI2 ⊢
    obtain ⟨p, hp⟩ : ∃ p, p = x.toNat := ⟨_, rfl⟩
    rw [← hp] at h2 hI2 ⊢
    have hp24 : p < 24 := by omega
    have ex : x = (p : Int) := by omega
    have hv := inv_h hI hp24 h2
    have hth : updB (mL s).1 p true p = true := by unfold updB; rw [if_pos rfl]
    have e0 := g_p0 hp24 h2
    have e1 := g_p0 (s := opF s (setL (mL s) p (valP s p) w (mt s)) (ma s) (mn s) (mb s) p) hp24 hth
    have e2 := g_p1 (s := opF s (setL (mL s) p (valP s p) w (mt s)) (ma s) (mn s) (mb s) p) hp24 hth
    rw [ex]
    refine ⟨jg_op hJ hk hI2 (fun q hq hqt => hJ.2.1 q hq (q_setB h2 hqt)), Or.inr ⟨by rw [e0]; show valP s p ≠ -1000000000001; omega, ?_, ?_, hv.2.2.1, hv.2.2.2⟩⟩
    · rw [e0]
      refine e1.trans ?_
      show updN (mL s).2.1 p (valP s p - w * mt s) p + updN (mL s).2.2 p w p * mt s = valP s p
      unfold updN; rw [if_pos rfl, if_pos rfl]; exact set_val
    · refine e2.trans ?_
      show updN (mL s).2.2 p w p = w
      unfold updN; rw [if_pos rfl]
  · unfold velF ptF
    rw [if_pos (fun z => h1 z.1), if_pos h1]
    exact ⟨jg_up hJ, Or.inl ⟨rfl, rfl⟩⟩
theorem q_jmp {k : Nat} {s : MS} (hJ : Jg k s) (hk : k ≤ 100) {x y : Int} (hx : 0 ≤ x ∧ x < 24) (hy : okV y) : Jg (k + 1) (jmpF s x y).2 ∧ (jmpF s x y).1 = ptF s x 0 ∧ (ptF s x 0 = aINV ∨ ptF (jmpF s x y).2 x 0 = y) := by
  have hI := hJ.1
  have hI2 := inv_jmp hI x y
  have hmm := hJ.2.2.1
  rcases q_isP (s := s) hx with ⟨h1, h2⟩ | ⟨h1, h2⟩
  · unfold jmpF at hI2 ⊢
    rw [if_neg (not_not_intro ⟨h1, hy⟩), if_neg (by omega)] at hI2 ⊢
    obtain ⟨p, hp⟩ : ∃ p, p = x.toNat := ⟨_, rfl⟩
    rw [← hp] at h2 hI2 ⊢
    have hp24 : p < 24 := by omega
    have ex : x = (p : Int) := by omega
    have hth : updB (mL s).1 p true p = true := by unfold updB; rw [if_pos rfl]
    have e0 := g_p0 hp24 h2
    have e1 := g_p0 (s := opF s (setL (mL s) p y ((mL s).2.2 p) (mt s)) (ma s) (mn s) (mb s) p) hp24 hth
    rw [ex]
    refine ⟨jg_op hJ hk hI2 (fun q hq hqt => hJ.2.1 q hq (q_setB h2 hqt)), e0.symm, Or.inr ?_⟩
    refine e1.trans ?_
    show updN (mL s).2.1 p (y - (mL s).2.2 p * mt s) p + updN (mL s).2.2 p ((mL s).2.2 p) p * mt s = y
    unfold updN; rw [if_pos rfl, if_pos rfl]; exact set_val
  · unfold jmpF ptF
    rw [if_pos (fun z => h1 z.1), if_pos h1]
    exact ⟨jg_up hJ, rfl, Or.inl rfl⟩
/-- at the next failure a certificate is broken -/
theorem q_brk {s : MS} (hI : Inv s) (hf : nfS s ≤ 100000) : bkF (mL s).2.1 (mL s).2.2 (nfS s) (ma s) (mn s) ≠ 0 := by
  intro h0
  rcases nfF_at (mL s).2.1 (mL s).2.2 (mt s) (ma s) (mn s) with q | ⟨k, h1, h2, h3⟩
  · unfold nfS at hf; omega
  · have e : nfS s = eoo (mL s).2.1 (mL s).2.2 (mt s) (ma s ((k - 1) / 2)) (ma s k) := h3
    have ho := eoo_out (g_hp hI h1 h2) (by rw [← e]; omega)
    rw [← e] at ho
    exact ho.2 (bk_none (mn s) h0 k h1 h2)
/-- one stop -/
theorem q_stp {s : MS} (hI : Inv s) (hf : nfS s ≤ 100000) {B : Int} (h3 : 0 ≤ (mX s).toInt) (h4 : (mX s).toInt ≤ (mE s).toInt) (h5 : (mE s).toInt ≤ B) (hB : B ≤ 10000000000) (h6 : 0 ≤ (mS s).toInt) (h7 : (mS s).toInt ≤ B) : 0 ≤ (mX (stpF s (nfS s))).toInt ∧ (mX (stpF s (nfS s))).toInt ≤ (mE (stpF s (nfS s))).toInt ∧ (mE s).toInt + 1 ≤ (mE (stpF s (nfS s))).toInt ∧ (mE (stpF s (nfS s))).toInt ≤ (mE s).toInt + 276 ∧ (mS (stpF s (nfS s))).toInt = (mS s).toInt + 1 := by
  have h1 := g_stl (h := (mL s).2.1) (v := (mL s).2.2) (t := nfS s) (n := mn s) 276 (ma s, mE s, mX s) (by decide) h3 h4 (by show (mE s).toInt + ((276 : Nat) : Int) ≤ 100000000000; omega)
  have h2 := g_stl1 (h := (mL s).2.1) (v := (mL s).2.2) (t := nfS s) (n := mn s) (f := 275) (s := (ma s, mE s, mX s)) (by decide) h3 h4 (by show (mE s).toInt + 300 ≤ 100000000000; omega) (q_brk hI hf)
  exact ⟨h1.1, h1.2.1, h2, h1.2.2.2, g_l1 (by omega) (by omega)⟩
theorem q_step {k : Nat} {s : MS} (hJ : Jg k s) (hk : k ≤ 100) : Jg (k + 1) (steF s).2 ∧ (((calF s 0 0 < 0 ∨ 100000 < calF s 0 0) ∧ (steF s).1 = aNF) ∨ (0 ≤ calF s 0 0 ∧ calF s 0 0 ≤ 100000 ∧ (steF s).1 = calF s 0 0 ∧ mt (steF s).2 = calF s 0 0 ∧ (mS (steF s).2).toInt = (mS s).toInt + 1)) := by
  have hI2 := inv_ste hJ.1
  obtain ⟨hI, j1, j2, j3, j4, j5, j6, j7⟩ := hJ
  have ht := hI.1
  have hcal : (nfS s = 1000001 ∧ calF s 0 0 = aNF) ∨ (nfS s ≤ 1000000 ∧ calF s 0 0 = nfS s) := by
    have hle := nfF_le (mL s).2.1 (mL s).2.2 (mt s) (ma s) (mn s)
    rcases nfF_at (mL s).2.1 (mL s).2.2 (mt s) (ma s) (mn s) with q | ⟨i, h1, h2, h3⟩
    · left
      refine ⟨q, ?_⟩
      have e : ceF (erS s) (mn s) 0 (mn s) = 0 := ce_none (mn s) (Nat.le_refl _) (fun j hj z => by
        have h4 := hle.2 j z.1 hj
        have h5 := g_er1 hI j
        have h6 : erS s j = er (mL s).2.1 (mL s).2.2 (mt s) (ma s) j := rfl
        exact z.2.2.1 (by omega))
      unfold calF
      rw [if_neg (by decide), if_pos e]
    · by_cases q : nfS s = 1000001
      · left
        refine ⟨q, ?_⟩
        have e : ceF (erS s) (mn s) 0 (mn s) = 0 := ce_none (mn s) (Nat.le_refl _) (fun j hj z => by
          have h4 := hle.2 j z.1 hj
          have h5 := g_er1 hI j
          have h6 : erS s j = er (mL s).2.1 (mL s).2.2 (mt s) (ma s) j := rfl
          have h7 : nfS s = nfF (mL s).2.1 (mL s).2.2 (mt s) (ma s) (mn s) := rfl
          exact z.2.2.1 (by omega))
        unfold calF
        rw [if_neg (by decide), if_pos e]
      · right
        have h6 : erS s i = er (mL s).2.1 (mL s).2.2 (mt s) (ma s) i := rfl
        have h7 : nfS s = nfF (mL s).2.1 (mL s).2.2 (mt s) (ma s) (mn s) := rfl
        have h8 : 0 < cntF (cC (erS s)) (mn s) := by
          have h9 := c_add (f := fun _ => false) (k := i) (n := mn s) h2 rfl
          have h10 := c_le (f := updB (fun _ => false) i true) (g := cC (erS s)) (mn s) (fun j hj w => by
            unfold updB at w
            by_cases e : j = i
            · rw [e]; exact cC_iff.mpr ⟨h1, by omega⟩
            · rw [if_neg e] at w; simp at w)
          omega
        obtain ⟨c, hc, c1, c2, c3, -, -, -⟩ := g_cal hI (x := 0) h8
        have c4 := c_first (g := erS s) (n := mn s) hc h1 h2
        have c5 := hle.2 c c1 c2
        have c6 : erS s c = er (mL s).2.1 (mL s).2.2 (mt s) (ma s) c := rfl
        have c7 := hle.1
        have c8 : calF s 0 0 = erS s c := c3
        exact ⟨by omega, by omega⟩
  have hge := nf_ge hI
  unfold steF at hI2 ⊢
  by_cases q : nfS s ≤ 100000
  · rw [if_pos q] at hI2 ⊢
    have h1 := q_stp hI q (B := 80000 * (k : Int)) j3 j4 j5 (by omega) j6 (by omega)
    rcases hcal with z | z
    · omega
    · refine ⟨⟨hI2, fun p hp hth => ?_, by show mm s ≤ k + 1; omega, h1.1, h1.2.1, by show (mE (stpF s (nfS s))).toInt ≤ 80000 * ((k + 1 : Nat) : Int); omega, by show 0 ≤ (mS (stpF s (nfS s))).toInt; omega, by show (mS (stpF s (nfS s))).toInt ≤ 300 * ((k + 1 : Nat) : Int); omega⟩, Or.inr ⟨by omega, by omega, z.2.symm, z.2.symm, h1.2.2.2.2⟩⟩
      show mb s p ≤ nfS s
      have := j1 p hp hth
      omega
  · rw [if_neg q]
    refine ⟨jg_up ⟨hI, j1, j2, j3, j4, j5, j6, j7⟩, Or.inl ⟨?_, rfl⟩⟩
    rcases hcal with z | z
    · left; rw [z.2]; decide
    · right; omega
theorem q_ps {x : Int} (hx : x ≤ 100000) : ∀ (f : Nat) (s : MS) (B : Int), f ≤ 276 → Inv s → mt s ≤ x → 0 ≤ (mX s).toInt → (mX s).toInt ≤ (mE s).toInt → (mE s).toInt + 276 * f ≤ B → B ≤ 10000000000 → 0 ≤ (mS s).toInt → (mS s).toInt + f ≤ B → (psF x f s).1 ≤ f ∧ mL (psF x f s).2 = mL s ∧ mb (psF x f s).2 = mb s ∧ mm (psF x f s).2 = mm s ∧ mt s ≤ mt (psF x f s).2 ∧ 0 ≤ (mX (psF x f s).2).toInt ∧ (mX (psF x f s).2).toInt ≤ (mE (psF x f s).2).toInt ∧ (mE s).toInt + ((psF x f s).1 : Int) ≤ (mE (psF x f s).2).toInt ∧ (mE (psF x f s).2).toInt ≤ (mE s).toInt + 276 * f ∧ (mS (psF x f s).2).toInt = (mS s).toInt + ((psF x f s).1 : Int) := by
  intro f
  induction f with
  | zero => intro s B _ _ _ h3 h4 h5 _ h6 _; exact ⟨Nat.le_refl _, rfl, rfl, rfl, Int.le_refl _, h3, h4, by show (mE s).toInt + ((0 : Nat) : Int) ≤ (mE s).toInt; omega, by show (mE s).toInt ≤ (mE s).toInt + 276 * ((0 : Nat) : Int); omega, by show (mS s).toInt = (mS s).toInt + ((0 : Nat) : Int); omega⟩
  | succ f ih =>
    intro s B hf hI hs h3 h4 h5 hB h6 h7
    have e : psF x (f + 1) s = if nfS s ≤ x then ((psF x f (stpF s (nfS s))).1 + 1, (psF x f (stpF s (nfS s))).2) else (0, s) := rfl
    rw [e]
    by_cases q : nfS s ≤ x
    · rw [if_pos q]
      have h1 := q_stp hI (by omega) (B := B) h3 h4 (by omega) hB h6 (by omega)
      obtain ⟨r1, r2, r3, r4, r5, r6, r7, r8, r9, r10⟩ := ih (stpF s (nfS s)) B (by omega) (inv_stp hI (nf_ge hI) (by omega)) q h1.1 h1.2.1 (by omega) hB (by omega) (by omega)
      have hge := nf_ge hI
      have ht : mt (stpF s (nfS s)) = nfS s := rfl
      refine ⟨by show (psF x f (stpF s (nfS s))).1 + 1 ≤ f + 1; omega, r2, r3, r4, by show mt s ≤ mt (psF x f (stpF s (nfS s))).2; omega, r6, r7, ?_, ?_, ?_⟩
      · show (mE s).toInt + (((psF x f (stpF s (nfS s))).1 + 1 : Nat) : Int) ≤ (mE (psF x f (stpF s (nfS s))).2).toInt; omega
      · show (mE (psF x f (stpF s (nfS s))).2).toInt ≤ (mE s).toInt + 276 * ((f + 1 : Nat) : Int); omega
      · show (mS (psF x f (stpF s (nfS s))).2).toInt = (mS s).toInt + (((psF x f (stpF s (nfS s))).1 + 1 : Nat) : Int); omega
    · rw [if_neg q]
      exact ⟨Nat.zero_le _, rfl, rfl, rfl, Int.le_refl _, h3, h4, by show (mE s).toInt + ((0 : Nat) : Int) ≤ (mE s).toInt; omega, by show (mE s).toInt ≤ (mE s).toInt + 276 * ((f + 1 : Nat) : Int); omega, by show (mS s).toInt = (mS s).toInt + ((0 : Nat) : Int); omega⟩
theorem q_pas {k : Nat} {s : MS} (hJ : Jg k s) (hk : k ≤ 100) {x : Int} (h1 : mt s ≤ x) (h2 : x ≤ 100000) : Jg (k + 1) (pasF s x).2 ∧ 0 ≤ (pasF s x).1 ∧ (pasF s x).1 ≤ 276 ∧ mt (pasF s x).2 = x ∧ (mS (pasF s x).2).toInt = (mS s).toInt + (pasF s x).1 ∧ (mE s).toInt + (pasF s x).1 ≤ (mE (pasF s x).2).toInt ∧ (mX (pasF s x).2).toInt ≤ (mE (pasF s x).2).toInt := by
  have hI2 := inv_pas hJ.1 x
  obtain ⟨hI, j1, j2, j3, j4, j5, j6, j7⟩ := hJ
  obtain ⟨r1, r2, r3, r4, r5, r6, r7, r8, r9, r10⟩ := q_ps h2 276 s 10000000000 (Nat.le_refl _) hI h1 j3 j4 (by omega) (by omega) j6 (by omega)
  have hts := (ps_inv h2 276 s hI h1).2
  unfold pasF at hI2 ⊢
  rw [if_neg (by omega)] at hI2 ⊢
  refine ⟨⟨hI2, fun p hp hth => ?_, ?_, r6, r7, ?_, ?_, ?_⟩, Int.natCast_nonneg _, ?_, rfl, r10, r8, r7⟩
  · show mb (psF x 276 s).2 p ≤ x
    have hth2 : (mL (psF x 276 s).2).1 p = true := hth
    rw [r2] at hth2
    rw [r3]
    have := j1 p hp hth2
    omega
  · show mm (psF x 276 s).2 ≤ k + 1; omega
  · show (mE (psF x 276 s).2).toInt ≤ 80000 * ((k + 1 : Nat) : Int); omega
  · show 0 ≤ (mS (psF x 276 s).2).toInt; omega
  · show (mS (psF x 276 s).2).toInt ≤ 300 * ((k + 1 : Nat) : Int); omega
  · show ((psF x 276 s).1 : Int) ≤ 276; omega
theorem q_fog {k : Nat} {s : MS} (hJ : Jg k s) : Jg k (fogF s).2 ∧ 0 ≤ (fogF s).1 ∧ mt (fogF s).2 = mt s ∧ mn (fogF s).2 = mn s ∧ (0 < mt s → toaF (fogF s).2 (mt s - 1) = aNP) ∧ szaF (fogF s).2 (mt s) = (mn s : Int) := by
  have hI2 := inv_fog hJ.1
  obtain ⟨hI, j1, j2, j3, j4, j5, j6, j7⟩ := hJ
  refine ⟨⟨hI2, j1, Nat.zero_le _, j3, j4, j5, j6, j7⟩, Int.natCast_nonneg _, rfl, rfl, fun h0 => ?_, g_sza hI2⟩
  have e : momF (fogF s).2 (mt s - 1) = aNP := by
    show (if mt s - 1 < 0 ∨ mt s < mt s - 1 then aINV else if mt s ≤ mt s - 1 then 0 else aNP) = aNP
    rw [if_neg (by omega), if_neg (by omega)]
  unfold toaF
  rw [e, if_neg (by decide)]
