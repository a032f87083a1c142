/-! p26, pure: what is told of now -/
theorem g_th {s : MS} (hI : Inv s) {k : Nat} (hk : k < mn s) : ma s k < 24 ∧ (mL s).1 (ma s k) = true := hI.2.2.1 k hk
theorem g_mom {s : MS} (hI : Inv s) : momF s (mt s) = 0 := by
  have h1 := hI.1
  have h2 := hI.2.2.2.2.2.2.2.2.2.1
  unfold momF
  rw [if_neg (by omega), if_pos (by omega)]
theorem g_sta {s : MS} (hI : Inv s) : stA s (mt s) = rp (mB s) (mO s) (mm s) :=
  st_of hI (r := mm s) ⟨Nat.le_refl _, fun i hi => (hI.2.2.2.2.2.2.2.2.2.2.1 i hi).2.1, fun h => absurd h (Nat.lt_irrefl _)⟩
theorem g_now {s : MS} (hI : Inv s) : ∀ p : Nat, p < 24 → (stA s (mt s)).1 p = (mL s).1 p ∧ ((mL s).1 p = true → (stA s (mt s)).2.1 p = (mL s).2.1 p ∧ (stA s (mt s)).2.2 p = (mL s).2.2 p) := by
  rw [g_sta hI]; exact hI.2.2.2.2.2.2.2.2.2.2.2.2
theorem g_rk {th th' : Nat → Bool} {h h' v v' : Nat → Int} {t : Int} {p : Nat} (hp : h p = h' p ∧ v p = v' p) : ∀ n : Nat, (∀ q : Nat, q < n → th q = th' q ∧ (th q = true → h q = h' q ∧ v q = v' q)) → rkF th h v t p n = rkF th' h' v' t p n := by
  intro n
  induction n with
  | zero => intro _; rfl
  | succ n ih =>
    intro h0
    show rkF th h v t p n + (if th n = true ∧ bef h v t n p then 1 else 0) = rkF th' h' v' t p n + (if th' n = true ∧ bef h' v' t n p then 1 else 0)
    rw [ih (fun q hq => h0 q (by omega))]
    obtain ⟨e1, e2⟩ := h0 n (Nat.lt_succ_self n)
    by_cases z : th n = true
    · obtain ⟨e3, e4⟩ := e2 z
      have eb : bef h v t n p ↔ bef h' v' t n p := by
        show (h n + v n * t < h p + v p * t ∨ (h n + v n * t = h p + v p * t ∧ n < p)) ↔ (h' n + v' n * t < h' p + v' p * t ∨ (h' n + v' n * t = h' p + v' p * t ∧ n < p))
        rw [e3, e4, hp.1, hp.2]
      by_cases w : bef h v t n p
      · rw [if_pos ⟨z, w⟩, if_pos ⟨by rw [← e1]; exact z, eb.mp w⟩]
      · rw [if_neg (fun y => w y.2), if_neg (fun y => w (eb.mpr y.2))]
    · rw [if_neg (fun y => z y.1), if_neg (fun y => z (by rw [e1]; exact y.1))]
theorem g_rklt {th : Nat → Bool} {h v : Nat → Int} {t : Int} {p q : Nat} (hb : bef h v t p q) (hth : th p = true) : ∀ n : Nat, rkF th h v t p n ≤ rkF th h v t q n ∧ (p < n → rkF th h v t p n < rkF th h v t q n) := by
  intro n
  induction n with
  | zero => exact ⟨Nat.le_refl _, fun h => absurd h (Nat.not_lt_zero _)⟩
  | succ n ih =>
    have e1 : rkF th h v t p (n + 1) = rkF th h v t p n + (if th n = true ∧ bef h v t n p then 1 else 0) := rfl
    have e2 : rkF th h v t q (n + 1) = rkF th h v t q n + (if th n = true ∧ bef h v t n q then 1 else 0) := rfl
    rw [e1, e2]
    by_cases z : n = p
    · subst z
      rw [if_neg (fun y => bf_ir y.2), if_pos ⟨hth, hb⟩]
      have := ih.1
      exact ⟨by omega, fun _ => by omega⟩
    · by_cases w : th n = true ∧ bef h v t n p
      · rw [if_pos w, if_pos ⟨w.1, bf_tr w.2 hb⟩]
        exact ⟨by have := ih.1; omega, fun y => by have := ih.2 (by omega); omega⟩
      · rw [if_neg w]
        exact ⟨by have := ih.1; omega, fun y => by have := ih.2 (by omega); omega⟩
theorem g_isP {s : MS} {p : Nat} (hp : p < 24) (ht : (mL s).1 p = true) : isP (mL s) (p : Int) := ⟨by omega, by omega, ht⟩
theorem g_p0 {s : MS} {p : Nat} (hp : p < 24) (ht : (mL s).1 p = true) : ptF s (p : Int) 0 = valP s p := by
  unfold ptF; rw [if_neg (not_not_intro (g_isP hp ht)), if_pos rfl]; rfl
theorem g_p1 {s : MS} {p : Nat} (hp : p < 24) (ht : (mL s).1 p = true) : ptF s (p : Int) 1 = (mL s).2.2 p := by
  unfold ptF; rw [if_neg (not_not_intro (g_isP hp ht)), if_neg (by decide), if_pos rfl]; rfl
theorem g_p2 {s : MS} (hI : Inv s) {k : Nat} (hk : k < mn s) : ptF s (ma s k : Int) 2 = (k : Int) := by
  obtain ⟨hp, ht⟩ := g_th hI hk
  unfold ptF; rw [if_neg (not_not_intro (g_isP hp ht)), if_neg (by decide), if_neg (by decide), if_pos rfl]
  have e : plF (ma s) (ma s k) (mn s) = k := pl_at rfl (fun j hj q => by have := hI.2.2.2.1 j k (by omega) hk q; omega) (mn s) hk
  show ((plF (ma s) (ma s k) (mn s) : Nat) : Int) = (k : Int)
  rw [e]
theorem g_p3 {s : MS} {p : Nat} (hp : p < 24) (ht : (mL s).1 p = true) : ptF s (p : Int) 3 = mb s p := by
  unfold ptF; rw [if_neg (not_not_intro (g_isP hp ht)), if_neg (by decide), if_neg (by decide), if_neg (by decide), if_pos rfl]; rfl
theorem g_p4 {s : MS} {p : Nat} (hp : p < 24) (ht : (mL s).1 p = true) : ptF s (p : Int) 4 = (rkF (mL s).1 (mL s).2.1 (mL s).2.2 (mt s) p 24 : Int) := by
  unfold ptF; rw [if_neg (not_not_intro (g_isP hp ht)), if_neg (by decide), if_neg (by decide), if_neg (by decide), if_neg (by decide), if_pos rfl]; rfl
theorem g_va {s : MS} (hI : Inv s) {p : Nat} (hp : p < 24) (ht : (mL s).1 p = true) : vaaF s (p : Int) (mt s) = valP s p := by
  obtain ⟨e1, e2⟩ := g_now hI p hp
  obtain ⟨e3, e4⟩ := e2 ht
  unfold vaaF
  rw [if_neg (by omega), if_pos (g_mom hI), if_pos (show (stA s (mt s)).1 (p : Int).toNat = true from e1.trans ht)]
  show (stA s (mt s)).2.1 p + (stA s (mt s)).2.2 p * mt s = valP s p
  rw [e3, e4]; rfl
theorem g_va0 {s : MS} (hI : Inv s) {p : Nat} (hp : p < 24) (ht : (mL s).1 p = false) : vaaF s (p : Int) (mt s) = aNF := by
  obtain ⟨e1, e2⟩ := g_now hI p hp
  unfold vaaF
  rw [if_neg (by omega), if_pos (g_mom hI), if_neg (show ¬ (stA s (mt s)).1 (p : Int).toNat = true from fun z => by have z2 := e1.symm.trans z; rw [ht] at z2; exact absurd z2 (by decide))]
theorem g_ora {s : MS} (hI : Inv s) {p : Nat} (hp : p < 24) (ht : (mL s).1 p = true) : oraF s (rkF (mL s).1 (mL s).2.1 (mL s).2.2 (mt s) p 24 : Int) (mt s) = (p : Int) := by
  have hn := g_now hI
  have er : ∀ q : Nat, q < 24 → (mL s).1 q = true → rkF (stA s (mt s)).1 (stA s (mt s)).2.1 (stA s (mt s)).2.2 (mt s) q 24 = rkF (mL s).1 (mL s).2.1 (mL s).2.2 (mt s) q 24 := fun q hq hth =>
    g_rk ((hn q hq).2 hth) 24 (fun r hr => ⟨(hn r hr).1, fun z => (hn r hr).2 (by rw [← (hn r hr).1]; exact z)⟩)
  have e : orF (stA s (mt s)) (mt s) (rkF (mL s).1 (mL s).2.1 (mL s).2.2 (mt s) p 24 : Int) 24 = (p : Int) := or_at ⟨by rw [(hn p hp).1]; exact ht, by rw [er p hp ht]⟩ (fun q hq z => by
    have hq24 : q < 24 := by omega
    have hthq : (mL s).1 q = true := by rw [← (hn q hq24).1]; exact z.1
    have z2 := z.2
    rw [er q hq24 hthq] at z2
    by_cases b1 : bef (mL s).2.1 (mL s).2.2 (mt s) p q
    · have := (g_rklt b1 ht 24).2 hp; omega
    · have := (g_rklt (bf_to (show p ≠ q by omega) b1) hthq 24).2 hq24; omega) 24 hp
  unfold oraF
  rw [if_neg (by omega), if_pos (g_mom hI), e]
  unfold ponF
  rw [if_neg (by omega)]
theorem g_at {s : MS} {k : Nat} (hk : k < mn s) : atF s (k : Int) = (ma s k : Int) := by
  unfold atF; rw [if_neg (by omega), if_pos (by omega)]; rfl
theorem g_hp {s : MS} (hI : Inv s) {k : Nat} (h1 : 1 ≤ k) (hk : k < mn s) : bef (mL s).2.1 (mL s).2.2 (mt s) (ma s ((k - 1) / 2)) (ma s k) := hI.2.2.2.2.2.2.2.1 k h1 hk
theorem g_ord {s : MS} (hI : Inv s) {k : Nat} (h1 : 1 ≤ k) (hk : k < mn s) : valP s (ma s ((k - 1) / 2)) < valP s (ma s k) ∨ (valP s (ma s ((k - 1) / 2)) = valP s (ma s k) ∧ ma s ((k - 1) / 2) < ma s k) := g_hp hI h1 hk
theorem g_eoo {h v : Nat → Int} {t : Int} {a b : Nat} (ht : t ≤ 100000) (hb : bef h v t a b) : t < eoo h v t a b ∧ eoo h v t a b ≤ 1000001 := by
  unfold eoo
  rw [if_pos hb]
  by_cases q : v a ≤ v b
  · rw [if_pos q]; omega
  · rw [if_neg q]
    obtain ⟨c, hc⟩ : ∃ c, c = v a - v b := ⟨_, rfl⟩
    obtain ⟨g, hg⟩ : ∃ g, g = h b + v b * t - (h a + v a * t) + (if a < b then 1 else 0) := ⟨_, rfl⟩
    rw [← hc, ← hg]
    have hg1 : 1 ≤ g := by
      rcases hb with z | z
      · split at hg <;> omega
      · rw [if_pos z.2] at hg; omega
    have h1 : 1 ≤ (g + c - 1) / c := (Int.le_ediv_iff_mul_le (by omega)).mpr (by omega)
    unfold cro
    split <;> omega
theorem g_er {s : MS} (hI : Inv s) {k : Nat} (h1 : 1 ≤ k) (hk : k < mn s) : mt s < erS s k ∧ erS s k ≤ 1000001 := g_eoo hI.1.2 (g_hp hI h1 hk)
theorem g_cro (t g c : Int) : cro t g c ≤ 1000001 := by unfold cro; split <;> omega
theorem g_er1 {s : MS} (hI : Inv s) (k : Nat) : erS s k ≤ 1000001 := by
  have h0 := hI.1.2
  unfold erS er eoo
  split
  · split
    · exact Int.le_refl _
    · exact g_cro _ _ _
  · omega
theorem g_fai {s : MS} {k : Nat} (h1 : 1 ≤ k) (hk : k < mn s) : faiF s (k : Int) = tonF (erS s k) := by
  unfold faiF; rw [if_pos (by omega)]; rfl
theorem g_ton {s : MS} (hI : Inv s) {k : Nat} (h1 : 1 ≤ k) (hk : k < mn s) : (tonF (erS s k) = aNF ∧ erS s k = 1000001) ∨ (mt s < tonF (erS s k) ∧ 0 ≤ tonF (erS s k) ∧ tonF (erS s k) = erS s k ∧ erS s k ≠ 1000001) := by
  have h2 := g_er hI h1 hk
  have h3 := hI.1
  unfold tonF
  by_cases q : erS s k = 1000001
  · rw [if_pos q]; exact Or.inl ⟨rfl, q⟩
  · rw [if_neg q]; exact Or.inr ⟨by omega, by omega, rfl, q⟩
theorem g_met {s : MS} (hI : Inv s) {k : Nat} (h1 : 1 ≤ k) (hk : k < mn s) : metF s (ma s k : Int) (ma s ((k - 1) / 2) : Int) = tonF (erS s k) := by
  obtain ⟨hp, ht⟩ := g_th hI hk
  obtain ⟨hp2, ht2⟩ := g_th hI (show (k - 1) / 2 < mn s by omega)
  have hb := g_hp hI h1 hk
  have hne : ma s k ≠ ma s ((k - 1) / 2) := fun e => by rw [e] at hb; exact bf_ir hb
  unfold metF
  rw [if_neg (not_not_intro ⟨g_isP hp ht, g_isP hp2 ht2, by omega⟩), if_neg (show ¬ bef (mL s).2.1 (mL s).2.2 (mt s) (ma s k : Int).toNat (ma s ((k - 1) / 2) : Int).toNat from bf_as hb)]
  rfl
theorem g_root {s : MS} (hI : Inv s) : ∀ m k : Nat, k ≤ m → 0 < k → k < mn s → bef (mL s).2.1 (mL s).2.2 (mt s) (ma s 0) (ma s k) := by
  intro m
  induction m with
  | zero => intro k h1 h2; omega
  | succ m ih =>
    intro k h1 h2 h3
    have hb := g_hp hI (k := k) (by omega) h3
    by_cases q : (k - 1) / 2 = 0
    · rw [q] at hb; exact hb
    · exact bf_tr (ih ((k - 1) / 2) (by omega) (by omega) (by omega)) hb
/-- the first point of now -/
theorem g_tp {s : MS} (hI : Inv s) {L : LinT} (hL : ∀ p : Nat, p < 24 → L.1 p = (mL s).1 p ∧ ((mL s).1 p = true → L.2.1 p = (mL s).2.1 p ∧ L.2.2 p = (mL s).2.2 p)) : tpF L.1 L.2.1 L.2.2 (mt s) 24 = (if mn s = 0 then -1 else (ma s 0 : Int)) := by
  by_cases z : mn s = 0
  · rw [if_pos z]
    refine tp_no 24 (fun p hp => ?_)
    rw [(hL p hp).1]
    cases q : (mL s).1 p with
    | false => rfl
    | true =>
      obtain ⟨k, hk, _⟩ := hI.2.2.2.2.1 p hp q
      omega
  · rw [if_neg z]
    obtain ⟨hp0, ht0⟩ := g_th hI (k := 0) (by omega)
    refine tp_uni (by rw [(hL _ hp0).1]; exact ht0) hp0 (fun p hp hth hne => ?_)
    have hth2 : (mL s).1 p = true := by rw [← (hL p hp).1]; exact hth
    obtain ⟨k, hk, e⟩ := hI.2.2.2.2.1 p hp hth2
    have hb := g_root hI k k (Nat.le_refl _) (by
      rcases Nat.eq_zero_or_pos k with y | y
      · rw [y] at e; exact absurd e.symm hne
      · exact y) hk
    rw [e] at hb
    obtain ⟨e1, e2⟩ := (hL _ hp0).2 ht0
    obtain ⟨e3, e4⟩ := (hL p hp).2 hth2
    show L.2.1 (ma s 0) + L.2.2 (ma s 0) * mt s < L.2.1 p + L.2.2 p * mt s ∨ (L.2.1 (ma s 0) + L.2.2 (ma s 0) * mt s = L.2.1 p + L.2.2 p * mt s ∧ ma s 0 < p)
    rw [e1, e2, e3, e4]; exact hb
theorem g_top {s : MS} (hI : Inv s) : toaF s (mt s) = (if mn s = 0 then aNF else (ma s 0 : Int)) := by
  have e : topI s (mt s) = _ := g_tp hI (g_now hI)
  unfold toaF
  rw [if_pos (g_mom hI), e]
  unfold ponF
  by_cases z : mn s = 0
  · rw [if_pos z, if_pos z, if_pos rfl]
  · rw [if_neg z, if_neg z, if_neg (by omega)]
theorem g_sza {s : MS} (hI : Inv s) : szaF s (mt s) = (mn s : Int) := by
  unfold szaF
  rw [if_pos (g_mom hI), c_eq 24 (fun p hp => (g_now hI p hp).1), hI.2.2.2.2.2.1]
theorem g_cas (s : MS) : casF s = (cntF (cC (erS s)) (mn s) : Int) := by
  unfold casF; rw [cl_cnt]; rfl
/-- an entry of the calendar -/
theorem g_cal {s : MS} (hI : Inv s) {x : Nat} (hx : x < cntF (cC (erS s)) (mn s)) : ∃ k : Nat, CE (erS s) (mn s) (x : Int) k ∧ 1 ≤ k ∧ k < mn s ∧ calF s (x : Int) 0 = erS s k ∧ calF s (x : Int) 1 = (k : Int) ∧ faiF s (k : Int) = erS s k ∧ 0 ≤ erS s k := by
  have h1 := ce_of (g_er1 hI) hx
  obtain ⟨k, hk⟩ : ∃ k, k = ceF (erS s) (mn s) (x : Int) (mn s) := ⟨_, rfl⟩
  rw [← hk] at h1
  have h2 := g_er hI h1.1 h1.2.1
  have h3 := hI.1
  refine ⟨k, h1, h1.1, h1.2.1, ?_, ?_, ?_, by omega⟩
  · unfold calF; rw [if_neg (by omega), ← hk, if_neg (by have := h1.1; omega), if_pos rfl]
  · unfold calF; rw [if_neg (by omega), ← hk, if_neg (by have := h1.1; omega), if_neg (by decide)]
  · rw [g_fai h1.1 h1.2.1]; unfold tonF; rw [if_neg h1.2.2.1]
-- bits of places
def htF (a : Nat → Nat) (q : Nat) : Nat → Bool
  | 0 => false
  | i + 1 => htF a q i || decide (a i = q)
theorem ht_iff (a : Nat → Nat) (q : Nat) : ∀ n : Nat, htF a q n = true ↔ ∃ i : Nat, i < n ∧ a i = q := by
  intro n
  induction n with
  | zero => exact ⟨fun h => by simp [htF] at h, fun ⟨i, hi, _⟩ => absurd hi (Nat.not_lt_zero _)⟩
  | succ n ih =>
    unfold htF
    rw [Bool.or_eq_true, ih, decide_eq_true_iff]
    constructor
    · rintro (⟨i, hi, e⟩ | e)
      · exact ⟨i, by omega, e⟩
      · exact ⟨n, Nat.lt_succ_self n, e⟩
    · rintro ⟨i, hi, e⟩
      rcases Nat.lt_or_eq_of_le (Nat.lt_succ_iff.mp hi) with q2 | q2
      · exact Or.inl ⟨i, q2, e⟩
      · subst q2; exact Or.inr e
theorem ht_th {s : MS} (hI : Inv s) {q : Nat} (hq : q < 24) : htF (ma s) q (mn s) = (mL s).1 q := by
  cases z : (mL s).1 q with
  | true => exact (ht_iff _ _ _).mpr (hI.2.2.2.2.1 q hq z)
  | false =>
    cases y : htF (ma s) q (mn s) with
    | false => rfl
    | true =>
      obtain ⟨i, hi, e⟩ := (ht_iff _ _ _).mp y
      have := (g_th hI hi).2
      rw [e, z] at this
      exact absurd this (by decide)
def g_bt (x : Int32) (i : Nat) : Bool := x.toBitVec.getLsbD i
theorem gb_nI {x : Int32} {k : Nat} (h : x.toInt = (k : Int)) (hk : k < 2147483648) : x = nI k := b_eq (by rw [h, b_nI hk])
theorem gb_tp : ∀ l, l < 32 → ((1 : Int32) <<< (nI l &&& 31)).toBitVec = BitVec.twoPow 32 l := by decide +kernel
theorem gb_or {sn x o : Int32} {p q : Nat} (hx : x.toInt = (p : Int)) (ho : o.toInt = 1) (hp : p < 24) (hq : q < 24) : g_bt (sn ||| (o <<< (x &&& 31))) q = (g_bt sn q || decide (p = q)) := by
  rw [gb_nI hx (by omega), show o = 1 from b_eq (by rw [ho]; rfl)]
  unfold g_bt
  rw [Int32.toBitVec_or, BitVec.getLsbD_or, gb_tp p (by omega), BitVec.getLsbD_twoPow]
  congr 1
  simp
  omega
theorem gb_sm : ∀ n, n < 32 → ((nI n &&& 31).toBitVec.smod 32).toNat = n := by decide +kernel
theorem gb_and {sn x o : Int32} {k : Nat} (hx : x.toInt = (k : Int)) (ho : o.toInt = 1) (hk : k < 24) : ((sn >>> (x &&& 31)) &&& o).toInt = if g_bt sn k = true then 1 else 0 := by
  rw [gb_nI hx (by omega), show o = 1 from b_eq (by rw [ho]; rfl)]
  have e0 : ∀ i : Nat, i < 32 → ((sn >>> (nI k &&& 31)) &&& 1).toBitVec.getLsbD i = (decide (i = 0) && g_bt sn k) := by
    intro i hi
    rw [Int32.toBitVec_and, BitVec.getLsbD_and]
    have e1 : (1 : Int32).toBitVec.getLsbD i = decide (i = 0) := by
      have : ∀ j : Nat, j < 32 → (1 : Int32).toBitVec.getLsbD j = decide (j = 0) := by decide +kernel
      exact this i hi
    rw [e1]
    by_cases z : i = 0
    · subst z
      rw [Int32.toBitVec_shiftRight]
      show ((sn.toBitVec.sshiftRight ((nI k &&& 31).toBitVec.smod 32).toNat).getLsbD 0 && decide (0 = 0)) = (decide (0 = 0) && g_bt sn k)
      rw [gb_sm k (by omega), BitVec.getLsbD_sshiftRight]
      unfold g_bt
      simp
      omega
    · simp [z]
  have e2 : ((sn >>> (nI k &&& 31)) &&& 1) = if g_bt sn k = true then 1 else 0 := by
    refine Int32.toBitVec_inj.mp (BitVec.eq_of_getLsbD_eq (fun i hi => ?_))
    rw [e0 i hi]
    have h1 : ∀ j : Nat, j < 32 → (1 : Int32).toBitVec.getLsbD j = decide (j = 0) := by decide +kernel
    cases g_bt sn k with
    | true => rw [if_pos rfl, h1 i hi, Bool.and_true]
    | false => rw [if_neg (by decide), Bool.and_false]; exact (BitVec.getLsbD_zero).symm
  rw [e2]
  split <;> rfl
