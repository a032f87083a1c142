/-! p26, pure: two points -/
theorem eoo_same {h v : Nat → Int} {t x : Int} {a b : Nat} (h0 : bef h v t a b) (htx : t ≤ x) (hx : x < eoo h v t a b) (hx6 : x ≤ 1000000) : eoo h v x a b = eoo h v t a b := by
  have h1 := eoo_in h0 htx hx hx6
  unfold eoo
  rw [if_pos h0, if_pos h1]
  by_cases q : v a ≤ v b
  · rw [if_pos q, if_pos q]
  · rw [if_neg q, if_neg q]
    obtain ⟨c, hc⟩ : ∃ c, c = v a - v b := ⟨_, rfl⟩
    obtain ⟨g, hg⟩ : ∃ g, g = h b + v b * t - (h a + v a * t) + (if a < b then 1 else 0) := ⟨_, rfl⟩
    obtain ⟨g', hg'⟩ : ∃ g', g' = h b + v b * x - (h a + v a * x) + (if a < b then 1 else 0) := ⟨_, rfl⟩
    rw [← hc, ← hg, ← hg']
    have ea : v a * x = v a * t + v a * (x - t) := mx
    have eb : v b * x = v b * t + v b * (x - t) := mx
    have e2 : c * (x - t) = v a * (x - t) - v b * (x - t) := by rw [hc, Int.sub_mul]
    have e3 : g + c - 1 = (g' + c - 1) + c * (x - t) := by omega
    have e4 : (g + c - 1) / c = (g' + c - 1) / c + (x - t) := by rw [e3, Int.add_mul_ediv_left _ _ (by omega)]
    have e5 : x + (g' + c - 1) / c = t + (g + c - 1) / c := by omega
    unfold cro
    rw [e5]
/-- two points: f first, g behind it; so many exchanges; all operations at time 0 -/
def Two (s : MS) (f g : Nat) (n : Int) : Prop := Inv s ∧ mn s = 2 ∧ ma s 0 = f ∧ ma s 1 = g ∧ ((f = 0 ∧ g = 1) ∨ (f = 1 ∧ g = 0)) ∧ (∀ p : Nat, p < 24 → (mL s).1 p = decide (p < 2)) ∧ mk s = 0 ∧ (∀ i : Nat, i < mm s → (mO s i).1 = 0) ∧ (mE s).toInt = n
abbrev eo2 (s : MS) (f g : Nat) : Int := eoo (mL s).2.1 (mL s).2.2 (mt s) f g
theorem tw_bef {s : MS} {f g : Nat} {n : Int} (hT : Two s f g n) : bef (mL s).2.1 (mL s).2.2 (mt s) f g := by
  obtain ⟨hI, h2, hf, hg, -⟩ := hT
  have hb := g_hp hI (k := 1) (Nat.le_refl 1) (by omega)
  have hb2 : bef (mL s).2.1 (mL s).2.2 (mt s) (ma s 0) (ma s 1) := hb
  rw [hf, hg] at hb2
  exact hb2
theorem tw_er {s : MS} {f g : Nat} {n : Int} (hT : Two s f g n) : erS s 1 = eo2 s f g := by
  obtain ⟨hI, h2, hf, hg, -⟩ := hT
  show eoo (mL s).2.1 (mL s).2.2 (mt s) (ma s 0) (ma s 1) = _
  rw [hf, hg]
theorem tw_th {s : MS} {f g : Nat} {n : Int} (hT : Two s f g n) {p : Nat} (hp : p = 0 ∨ p = 1) : (mL s).1 p = true := by
  obtain ⟨hI, h2, hf, hg, hfg, hth, -⟩ := hT
  rw [hth p (by omega)]
  exact decide_eq_true (by omega)
theorem tw_cas {s : MS} {f g : Nat} {n : Int} (hT : Two s f g n) : casF s ≤ 1 := by
  obtain ⟨hI, h2, -⟩ := hT
  rw [g_cas, h2]
  show (((0 + (if cC (erS s) 0 = true then 1 else 0)) + (if cC (erS s) 1 = true then 1 else 0) : Nat) : Int) ≤ 1
  rw [if_neg (fun z => by have := cC_iff.mp z; omega)]
  split <;> omega
theorem tw_met {s : MS} {f g : Nat} {n : Int} (hT : Two s f g n) : metF s 0 1 = tonF (eo2 s f g) := by
  have hb := tw_bef hT
  have h0 : isP (mL s) 0 := ⟨by omega, by omega, tw_th hT (Or.inl rfl)⟩
  have h1 : isP (mL s) 1 := ⟨by omega, by omega, tw_th hT (Or.inr rfl)⟩
  unfold metF
  rw [if_neg (not_not_intro ⟨h0, h1, by decide⟩)]
  rcases hT.2.2.2.2.1 with ⟨e1, e2⟩ | ⟨e1, e2⟩
  · subst e1; subst e2
    rw [if_pos (show bef (mL s).2.1 (mL s).2.2 (mt s) (0 : Int).toNat (1 : Int).toNat from hb)]; rfl
  · subst e1; subst e2
    rw [if_neg (show ¬ bef (mL s).2.1 (mL s).2.2 (mt s) (0 : Int).toNat (1 : Int).toNat from bf_as hb)]; rfl
theorem tw_at {s : MS} {f g : Nat} {n : Int} (hT : Two s f g n) : atF s 0 = (f : Int) := by
  obtain ⟨hI, h2, hf, hg, -⟩ := hT
  have e := g_at (s := s) (k := 0) (by omega)
  rw [hf] at e
  exact e
theorem tw_fai {s : MS} {f g : Nat} {n : Int} (hT : Two s f g n) : faiF s 1 = tonF (eo2 s f g) := by
  have h2 := hT.2.1
  have e := g_fai (s := s) (k := 1) (Nat.le_refl 1) (by omega)
  rw [tw_er hT] at e
  exact e
theorem tw_le {s : MS} {f g : Nat} {n : Int} (hT : Two s f g n) : mt s < eo2 s f g ∧ eo2 s f g ≤ 1000001 := g_eoo hT.1.1.2 (tw_bef hT)
theorem tw_nf {s : MS} {f g : Nat} {n : Int} (hT : Two s f g n) : nfS s = eo2 s f g := by
  have h1 := tw_le hT
  have e := tw_er hT
  have h2 := hT.2.1
  unfold nfS
  rw [h2]
  show (if 1 ≤ 1 then min (if 1 ≤ 0 then min 1000001 (er (mL s).2.1 (mL s).2.2 (mt s) (ma s) 0) else 1000001) (er (mL s).2.1 (mL s).2.2 (mt s) (ma s) 1) else 1000001) = _
  have e2 : er (mL s).2.1 (mL s).2.2 (mt s) (ma s) 1 = eo2 s f g := e
  rw [if_pos (Nat.le_refl 1), if_neg (by decide), e2]
  omega
theorem tw_tp {s : MS} {f g : Nat} {n : Int} (hT : Two s f g n) : topS s = (f : Int) := by
  have e := g_tp hT.1 (L := mL s) (fun p _ => ⟨rfl, fun _ => ⟨rfl, rfl⟩⟩)
  have h2 := hT.2.1
  rw [if_neg (by omega), hT.2.2.1] at e
  exact e
theorem tw_toc {s : MS} {f g : Nat} {n : Int} (hT : Two s f g n) : tocF s = tonF (eo2 s f g) := by
  have h1 := tw_le hT
  have h2 := hT.2.1
  unfold tocF
  rw [if_neg (by omega), tw_tp hT]
  have hn : ∀ m : Nat, m ≤ 22 → nxF (mL s).1 (mL s).2.1 (mL s).2.2 (mt s) (f : Int) (m + 2) = eo2 s f g := by
    intro m
    induction m with
    | zero =>
      intro _
      have t0 := tw_th hT (p := 0) (Or.inl rfl)
      have t1 := tw_th hT (p := 1) (Or.inr rfl)
      show (if (mL s).1 1 = true ∧ ((1 : Nat) : Int) ≠ (f : Int) then min (if (mL s).1 0 = true ∧ ((0 : Nat) : Int) ≠ (f : Int) then min 1000001 (eoo (mL s).2.1 (mL s).2.2 (mt s) ((f : Int)).toNat 0) else 1000001) (eoo (mL s).2.1 (mL s).2.2 (mt s) ((f : Int)).toNat 1) else (if (mL s).1 0 = true ∧ ((0 : Nat) : Int) ≠ (f : Int) then min 1000001 (eoo (mL s).2.1 (mL s).2.2 (mt s) ((f : Int)).toNat 0) else 1000001)) = eo2 s f g
      rcases hT.2.2.2.2.1 with ⟨e1, e2⟩ | ⟨e1, e2⟩
      · subst e1; subst e2
        rw [if_pos ⟨t1, by decide⟩, if_neg (fun z => z.2 rfl)]
        show min 1000001 (eo2 s 0 1) = eo2 s 0 1
        omega
      · subst e1; subst e2
        rw [if_neg (fun z => z.2 rfl), if_pos ⟨t0, by decide⟩]
        show min 1000001 (eo2 s 1 0) = eo2 s 1 0
        omega
    | succ m ih =>
      intro hm
      have hf : (mL s).1 (m + 2) = false := by rw [hT.2.2.2.2.2.1 (m + 2) (by omega)]; exact decide_eq_false (by omega)
      show (if (mL s).1 (m + 2) = true ∧ ((m + 2 : Nat) : Int) ≠ (f : Int) then _ else nxF (mL s).1 (mL s).2.1 (mL s).2.2 (mt s) (f : Int) (m + 2)) = eo2 s f g
      rw [if_neg (fun z => by rw [hf] at z; exact absurd z.1 (by decide))]
      exact ih (by omega)
  rw [hn 22 (Nat.le_refl _)]
/-- time passes and nothing happens -/
theorem tw_pas {s : MS} {f g : Nat} {n : Int} (hT : Two s f g n) {x : Int} (h1 : mt s ≤ x) (h2 : x < eo2 s f g) (h3 : x ≤ 100000) : pasF s x = (0, setT s x) ∧ Two (setT s x) f g n ∧ eo2 (setT s x) f g = eo2 s f g := by
  have e : pasF s x = (0, setT s x) := by
    unfold pasF
    rw [if_neg (by omega), ps_stop (by rw [tw_nf hT]; exact h2) 276]
    rfl
  have hI2 := inv_pas hT.1 x
  rw [e] at hI2
  obtain ⟨hI, t1, t2, t3, t4, t5, t6, t7, t8⟩ := id hT
  exact ⟨e, ⟨hI2, t1, t2, t3, t4, t5, t6, t7, t8⟩, eoo_same (tw_bef hT) h1 h2 (show x ≤ 1000000 by omega)⟩
/-- they are exchanged at their meeting, and never again -/
theorem tw_ste {s : MS} {f g : Nat} {n : Int} (hT : Two s f g n) (h1 : eo2 s f g ≤ 100000) (hn : 0 ≤ n ∧ n ≤ 1000) : (steF s).1 = eo2 s f g ∧ Two (steF s).2 g f (n + 1) ∧ mt (steF s).2 = eo2 s f g ∧ mL (steF s).2 = mL s ∧ eo2 (steF s).2 g f = 1000001 := by
  have hb := tw_bef hT
  have hout := eoo_out hb (show eo2 s f g ≤ 1000000 by omega)
  have hnf := tw_nf hT
  have hI2 := inv_ste hT.1
  obtain ⟨hI, t1, t2, t3, t4, t5, t6, t7, t8⟩ := id hT
  obtain ⟨m, hm⟩ : ∃ m, m = eo2 s f g := ⟨_, rfl⟩
  have hout2 : (mL s).2.2 g < (mL s).2.2 f ∧ ¬ bef (mL s).2.1 (mL s).2.2 m f g := by rw [hm]; exact hout
  have hfg : f ≠ g := by omega
  have hb2 : bef (mL s).2.1 (mL s).2.2 m g f := bf_to hfg hout2.2
  have e1 : bkF (mL s).2.1 (mL s).2.2 m (ma s) 2 = 1 := by
    refine bk_at (i := 1) ?_ (Nat.le_refl 1) (by decide) ?_
    · rcases bk_lt (mL s).2.1 (mL s).2.2 m (ma s) 1 with y | y
      · exact y
      · omega
    · show ¬ bef (mL s).2.1 (mL s).2.2 m (ma s 0) (ma s 1)
      rw [t2, t3]; exact hout2.2
  have e2 : bkF (mL s).2.1 (mL s).2.2 m (sw (ma s) 0 1) 2 = 0 := by
    rcases bk_lt (mL s).2.1 (mL s).2.2 m (sw (ma s) 0 1) 2 with q | q
    · exact q
    · have hk : bkF (mL s).2.1 (mL s).2.2 m (sw (ma s) 0 1) 2 = 1 := by omega
      have h5 := bk_spec (h := (mL s).2.1) (v := (mL s).2.2) (t := m) (a := sw (ma s) 0 1) 2 (by omega)
      rw [hk] at h5
      have h6 : ¬ bef (mL s).2.1 (mL s).2.2 m (sw (ma s) 0 1 0) (sw (ma s) 0 1 1) := h5
      rw [sw_a, sw_b (by decide), t2, t3] at h6
      exact absurd hb2 h6
  have e3 : stl (mL s).2.1 (mL s).2.2 m (mn s) 276 (ma s, mE s, mX s) = (sw (ma s) 0 1, mE s + 1, mX s + 1) := by
    rw [t1]
    show (if bkF (mL s).2.1 (mL s).2.2 m (ma s) 2 = 0 then _ else stl (mL s).2.1 (mL s).2.2 m 2 275 (xch (ma s, mE s, mX s) (bkF (mL s).2.1 (mL s).2.2 m (ma s) 2))) = _
    rw [e1, if_neg (by decide)]
    exact stl_stop (f := 275) (E := mE s + 1) (X := mX s + 1) e2
  have e4 : steF s = (m, stpF s m) := by
    unfold steF
    rw [hnf, ← hm, if_pos (by omega)]
  have e5 : stpF s m = (m, mL s, sw (ma s) 0 1, mn s, mb s, mE s + 1, mX s + 1, mS s + 1, mB s, mO s, mm s, mk s) := by
    unfold stpF
    rw [e3]
  rw [e4] at hI2 ⊢
  rw [e5] at hI2 ⊢
  refine ⟨hm, ⟨hI2, t1, ?_, ?_, by omega, t5, t6, t7, ?_⟩, hm, rfl, ?_⟩
  · show sw (ma s) 0 1 0 = g
    rw [sw_a]; exact t3
  · show sw (ma s) 0 1 1 = f
    rw [sw_b (by decide)]; exact t2
  · show (mE s + 1).toInt = n + 1
    rw [g_l1 (by omega) (by omega), t8]
  · show eoo (mL s).2.1 (mL s).2.2 m g f = 1000001
    unfold eoo
    rw [if_pos hb2, if_pos (by omega)]
theorem tw_sta {s : MS} {f g : Nat} {n : Int} (hT : Two s f g n) {x : Int} (h0 : 0 ≤ x) (hx : x ≤ mt s) : ∀ p : Nat, p < 24 → (stA s x).1 p = (mL s).1 p ∧ ((mL s).1 p = true → (stA s x).2.1 p = (mL s).2.1 p ∧ (stA s x).2.2 p = (mL s).2.2 p) := by
  have e : stA s x = stA s (mt s) := by
    rw [st_of hT.1 (x := x) (r := mm s) ⟨Nat.le_refl _, fun i hi => by rw [hT.2.2.2.2.2.2.2.1 i hi]; exact h0, fun h => absurd h (Nat.lt_irrefl _)⟩, g_sta hT.1]
  rw [e]; exact g_now hT.1
theorem tw_mom {s : MS} {f g : Nat} {n : Int} (hT : Two s f g n) {x : Int} (h0 : 0 ≤ x) (hx : x ≤ mt s) : momF s x = 0 := by
  unfold momF
  rw [if_neg (by omega), hT.2.2.2.2.2.2.1, if_pos h0]
/-- who was first at a time -/
theorem tw_topI {s : MS} {f g : Nat} {n : Int} (hT : Two s f g n) {x : Int} (h0 : 0 ≤ x) (hx : x ≤ mt s) {a b : Nat} (hab : (a = 0 ∧ b = 1) ∨ (a = 1 ∧ b = 0)) (hb : bef (mL s).2.1 (mL s).2.2 x a b) : topI s x = (a : Int) := by
  have hL := tw_sta hT h0 hx
  have ha : (mL s).1 a = true := tw_th hT (by omega)
  have hbt : (mL s).1 b = true := tw_th hT (by omega)
  refine tp_uni (by rw [(hL a (by omega)).1]; exact ha) (by omega) (fun p hp hth hne => ?_)
  have hth2 : (mL s).1 p = true := by rw [← (hL p hp).1]; exact hth
  have hp2 : p < 2 := by
    rw [hT.2.2.2.2.2.1 p hp] at hth2
    exact of_decide_eq_true hth2
  have hpb : p = b := by omega
  subst hpb
  obtain ⟨e1, e2⟩ := (hL a (by omega)).2 ha
  obtain ⟨e3, e4⟩ := (hL p hp).2 hth2
  show (stA s x).2.1 a + (stA s x).2.2 a * x < (stA s x).2.1 p + (stA s x).2.2 p * x ∨ ((stA s x).2.1 a + (stA s x).2.2 a * x = (stA s x).2.1 p + (stA s x).2.2 p * x ∧ a < p)
  rw [e1, e2, e3, e4]; exact hb
theorem tw_toa {s : MS} {f g : Nat} {n : Int} (hT : Two s f g n) {x : Int} (h0 : 0 ≤ x) (hx : x ≤ mt s) {a b : Nat} (hab : (a = 0 ∧ b = 1) ∨ (a = 1 ∧ b = 0)) (hb : bef (mL s).2.1 (mL s).2.2 x a b) : toaF s x = (a : Int) := by
  unfold toaF
  rw [if_pos (tw_mom hT h0 hx), tw_topI hT h0 hx hab hb]
  unfold ponF
  rw [if_neg (by omega)]
theorem tw_tcs {s : MS} {f g : Nat} {n : Int} (hT : Two s f g n) (h1 : 1 ≤ mt s) (hb : bef (mL s).2.1 (mL s).2.2 (mt s - 1) g f) : tcsF s (mt s) (mt s) = 1 := by
  have hfg := hT.2.2.2.2.1
  have e1 : topI s (mt s) = (f : Int) := tw_topI hT (by omega) (Int.le_refl _) hfg (tw_bef hT)
  have e2 : topI s (mt s - 1) = (g : Int) := tw_topI hT (by omega) (by omega) (by omega) hb
  have e3 : spaF s (mt s) (mt s) 1 = 0 := by
    unfold spaF
    rw [if_neg (by omega)]
    exact tw_mom hT (by omega) (by omega)
  unfold tcsF
  rw [if_pos e3, show (mt s - mt s + 1).toNat = 1 by omega]
  show ((0 + (if topI s (mt s + ((0 : Nat) : Int)) ≠ topI s (mt s + ((0 : Nat) : Int) - 1) then 1 else 0) : Nat) : Int) = 1
  rw [show mt s + ((0 : Nat) : Int) = mt s by omega, e1, e2, if_pos (by omega)]
  rfl
theorem tw_v0 {s : MS} {f g : Nat} {n : Int} (hT : Two s f g n) {p : Nat} (hp : p = 0 ∨ p = 1) : ptF s (p : Int) 0 = (mL s).2.1 p + (mL s).2.2 p * mt s := g_p0 (by omega) (tw_th hT hp)
/-- two points inserted into a new object -/
theorem tw_new {a b c d : Int} (ha : okV a) (hb : okV b) (hc : okW c) (hd : okW d) : (insF ss0 a c).1 = 0 ∧ (insF (insF ss0 a c).2 b d).1 = 1 ∧ Inv (insF ss0 a c).2 ∧ mt (insF (insF ss0 a c).2 b d).2 = 0 ∧ (mL (insF (insF ss0 a c).2 b d).2).2.1 0 = a ∧ (mL (insF (insF ss0 a c).2 b d).2).2.2 0 = c ∧ (mL (insF (insF ss0 a c).2 b d).2).2.1 1 = b ∧ (mL (insF (insF ss0 a c).2 b d).2).2.2 1 = d ∧ ((a ≤ b ∧ Two (insF (insF ss0 a c).2 b d).2 0 1 0) ∨ (b < a ∧ Two (insF (insF ss0 a c).2 b d).2 1 0 1)) := by
  have hI1 := inv_ins inv_0 a c
  have hI2 := inv_ins hI1 b d
  have l1 : lowF (mL ss0).1 24 = 0 := low_at (p := 0) rfl (fun q hq => absurd hq (Nat.not_lt_zero _)) 24 (by decide)
  have e1 : insF ss0 a c = (((0 : Nat) : Int), opF ss0 (setL (mL ss0) 0 a c 0) (updA (ma ss0) 0 0) 1 (updN (mb ss0) 0 0) 0) := by
    unfold insF
    rw [if_neg (not_not_intro ⟨ha, hc⟩), l1, if_neg (by rintro (z | z); exact absurd z (by decide); exact absurd (show 200 ≤ 0 from z) (by decide))]
    rfl
  obtain ⟨s1, hs1⟩ : ∃ s1, s1 = opF ss0 (setL (mL ss0) 0 a c 0) (updA (ma ss0) 0 0) 1 (updN (mb ss0) 0 0) 0 := ⟨_, rfl⟩
  rw [← hs1] at e1
  rw [e1] at hI1 hI2 ⊢
  have z1 : stl (setL (mL ss0) 0 a c 0).2.1 (setL (mL ss0) 0 a c 0).2.2 0 1 276 (updA (ma ss0) 0 0, 0, 0) = (updA (ma ss0) 0 0, 0, 0) := stl_stop (by
    rcases bk_lt (setL (mL ss0) 0 a c 0).2.1 (setL (mL ss0) 0 a c 0).2.2 0 (updA (ma ss0) 0 0) 1 with q | q
    · exact q
    · omega)
  have f1 : s1 = (0, setL (mL ss0) 0 a c 0, updA (ma ss0) 0 0, 1, updN (mb ss0) 0 0, 0, 0, 0, mB ss0, updO (mO ss0) 0 (0, 0, (setL (mL ss0) 0 a c 0).1 0, (setL (mL ss0) 0 a c 0).2.1 0, (setL (mL ss0) 0 a c 0).2.2 0), 1, 0) := by
    rw [hs1]
    show (0, setL (mL ss0) 0 a c 0, (stl (setL (mL ss0) 0 a c 0).2.1 (setL (mL ss0) 0 a c 0).2.2 0 1 276 (updA (ma ss0) 0 0, 0, 0)).1, 1, updN (mb ss0) 0 0, (stl (setL (mL ss0) 0 a c 0).2.1 (setL (mL ss0) 0 a c 0).2.2 0 1 276 (updA (ma ss0) 0 0, 0, 0)).2.1, (stl (setL (mL ss0) 0 a c 0).2.1 (setL (mL ss0) 0 a c 0).2.2 0 1 276 (updA (ma ss0) 0 0, 0, 0)).2.2, _, _, _, _, _) = _
    rw [z1]
    rfl
  have t0 : (mL s1).1 0 = true := by rw [f1]; rfl
  have l2 : lowF (mL s1).1 24 = 1 := low_at (p := 1) (by rw [f1]; rfl) (fun q hq => by rw [show q = 0 by omega]; exact t0) 24 (by decide)
  obtain ⟨L2, hL2⟩ : ∃ L2, L2 = setL (mL s1) 1 b d 0 := ⟨_, rfl⟩
  obtain ⟨a2, ha2⟩ : ∃ a2, a2 = updA (ma s1) 1 1 := ⟨_, rfl⟩
  have m1 : mt s1 = 0 := by rw [f1]
  have n1 : mn s1 = 1 := by rw [f1]
  have E1 : mE s1 = 0 := by rw [f1]
  have X1 : mX s1 = 0 := by rw [f1]
  have mm1 : mm s1 = 1 := by rw [f1]
  have e2 : insF s1 b d = (((1 : Nat) : Int), opF s1 L2 a2 2 (updN (mb s1) 1 0) 1) := by
    unfold insF
    rw [if_neg (not_not_intro ⟨hb, hd⟩), l2, if_neg (by rw [mm1]; rintro (z | z) <;> exact absurd z (by decide)), hL2, ha2, m1, n1]
  obtain ⟨s2, hs2⟩ : ∃ s2, s2 = opF s1 L2 a2 2 (updN (mb s1) 1 0) 1 := ⟨_, rfl⟩
  rw [← hs2] at e2
  show ((0 : Nat) : Int) = 0 ∧ (insF s1 b d).1 = 1 ∧ Inv s1 ∧ mt (insF s1 b d).2 = 0 ∧ (mL (insF s1 b d).2).2.1 0 = a ∧ (mL (insF s1 b d).2).2.2 0 = c ∧ (mL (insF s1 b d).2).2.1 1 = b ∧ (mL (insF s1 b d).2).2.2 1 = d ∧ ((a ≤ b ∧ Two (insF s1 b d).2 0 1 0) ∨ (b < a ∧ Two (insF s1 b d).2 1 0 1))
  have hI2 : Inv (insF s1 b d).2 := hI2
  rw [e2] at hI2 ⊢
  have hI2 : Inv s2 := hI2
  have mL2 : mL s2 = L2 := by rw [hs2]; rfl
  have v0 : (mL s2).2.1 0 = a := by
    rw [mL2, hL2, f1]
    show updN (updN (fun _ => 0) 0 (a - c * 0)) 1 (b - d * 0) 0 = a
    simp [updN]
  have w0 : (mL s2).2.2 0 = c := by
    rw [mL2, hL2, f1]
    show updN (updN (fun _ => 0) 0 c) 1 d 0 = c
    simp [updN]
  have v1 : (mL s2).2.1 1 = b := by
    rw [mL2, hL2]
    show updN (mL s1).2.1 1 (b - d * 0) 1 = b
    simp [updN]
  have w1 : (mL s2).2.2 1 = d := by
    rw [mL2, hL2]
    show updN (mL s1).2.2 1 d 1 = d
    simp [updN]
  have m2 : mt s2 = 0 := by rw [hs2]; exact m1
  have n2 : mn s2 = 2 := by rw [hs2]; rfl
  have hth : ∀ p : Nat, p < 24 → (mL s2).1 p = decide (p < 2) := by
    intro p hp
    rw [mL2, hL2, f1]
    show updB (updB (fun _ => false) 0 true) 1 true p = decide (p < 2)
    unfold updB
    rcases (show p = 0 ∨ p = 1 ∨ 2 ≤ p by omega) with q | q | q
    · subst q; rfl
    · subst q; rfl
    · rw [if_neg (by omega), if_neg (by omega), decide_eq_false (by omega)]
  have mk2 : mk s2 = 0 := by rw [hs2]; show mk s1 = 0; rw [f1]
  have mo2 : ∀ i : Nat, i < mm s2 → (mO s2 i).1 = 0 := by
    intro i hi
    have h1 := hI2.2.2.2.2.2.2.2.2.2.2.1 i hi
    rw [mk2, m2] at h1
    omega
  have aa : a2 0 = 0 ∧ a2 1 = 1 := by
    rw [ha2, f1]
    exact ⟨rfl, rfl⟩
  have st2 : ma s2 = (stl L2.2.1 L2.2.2 0 2 276 (a2, 0, 0)).1 ∧ mE s2 = (stl L2.2.1 L2.2.2 0 2 276 (a2, 0, 0)).2.1 := by
    rw [hs2]
    show (stl L2.2.1 L2.2.2 (mt s1) 2 276 (a2, mE s1, mX s1)).1 = _ ∧ (stl L2.2.1 L2.2.2 (mt s1) 2 276 (a2, mE s1, mX s1)).2.1 = _
    rw [m1, E1, X1]
    exact ⟨rfl, rfl⟩
  have hbef : bef L2.2.1 L2.2.2 0 0 1 ↔ a ≤ b := by
    show (L2.2.1 0 + L2.2.2 0 * 0 < L2.2.1 1 + L2.2.2 1 * 0 ∨ (L2.2.1 0 + L2.2.2 0 * 0 = L2.2.1 1 + L2.2.2 1 * 0 ∧ 0 < 1)) ↔ a ≤ b
    rw [← mL2, v0, v1, w0, w1]
    omega
  refine ⟨rfl, rfl, hI1, m2, v0, w0, v1, w1, ?_⟩
  by_cases q : a ≤ b
  · left
    have hbk : bkF L2.2.1 L2.2.2 0 a2 2 = 0 := by
      rcases bk_lt L2.2.1 L2.2.2 0 a2 2 with y | y
      · exact y
      · have h5 := bk_spec (h := L2.2.1) (v := L2.2.2) (t := 0) (a := a2) 2 (by omega)
        rw [show bkF L2.2.1 L2.2.2 0 a2 2 = 1 by omega] at h5
        have h6 : ¬ bef L2.2.1 L2.2.2 0 (a2 0) (a2 1) := h5
        rw [aa.1, aa.2] at h6
        exact absurd (hbef.mpr q) h6
    have hst : stl L2.2.1 L2.2.2 0 2 276 (a2, 0, 0) = (a2, 0, 0) := stl_stop hbk
    rw [hst] at st2
    exact ⟨q, hI2, n2, by rw [st2.1]; exact aa.1, by rw [st2.1]; exact aa.2, Or.inl ⟨rfl, rfl⟩, hth, mk2, mo2, by rw [st2.2]; rfl⟩
  · right
    have hnb : ¬ bef L2.2.1 L2.2.2 0 0 1 := fun z => q (hbef.mp z)
    have hbk : bkF L2.2.1 L2.2.2 0 a2 2 = 1 := by
      refine bk_at (i := 1) ?_ (Nat.le_refl 1) (by decide) ?_
      · rcases bk_lt L2.2.1 L2.2.2 0 a2 1 with y | y
        · exact y
        · omega
      · show ¬ bef L2.2.1 L2.2.2 0 (a2 0) (a2 1)
        rw [aa.1, aa.2]; exact hnb
    have hbk2 : bkF L2.2.1 L2.2.2 0 (sw a2 0 1) 2 = 0 := by
      rcases bk_lt L2.2.1 L2.2.2 0 (sw a2 0 1) 2 with y | y
      · exact y
      · have h5 := bk_spec (h := L2.2.1) (v := L2.2.2) (t := 0) (a := sw a2 0 1) 2 (by omega)
        rw [show bkF L2.2.1 L2.2.2 0 (sw a2 0 1) 2 = 1 by omega] at h5
        have h6 : ¬ bef L2.2.1 L2.2.2 0 (sw a2 0 1 0) (sw a2 0 1 1) := h5
        rw [sw_a, sw_b (by decide), aa.1, aa.2] at h6
        exact absurd (bf_to (by decide) hnb) h6
    have hst : stl L2.2.1 L2.2.2 0 2 276 (a2, 0, 0) = (sw a2 0 1, 0 + 1, 0 + 1) := by
      show (if bkF L2.2.1 L2.2.2 0 a2 2 = 0 then _ else stl L2.2.1 L2.2.2 0 2 275 (xch (a2, 0, 0) (bkF L2.2.1 L2.2.2 0 a2 2))) = _
      rw [hbk, if_neg (by decide)]
      exact stl_stop (f := 275) (E := 0 + 1) (X := 0 + 1) hbk2
    rw [hst] at st2
    exact ⟨by omega, hI2, n2, by rw [st2.1]; show sw a2 0 1 0 = 1; rw [sw_a]; exact aa.2, by rw [st2.1]; show sw a2 0 1 1 = 0; rw [sw_b (by decide)]; exact aa.1, Or.inr ⟨rfl, rfl⟩, hth, mk2, mo2, by rw [st2.2]; rfl⟩
