/-! the reference's way back: the latest records, and the order -/
def lst (rt rq rh : Nat → Int32) (x : Int) (p : Nat) : Nat → Int
  | 0 => -1
  | k + 1 => if (rt k).toInt ≤ x ∧ (rq k).toInt = (p : Int) then (if (rh k).toInt = 0 then -1 else (k : Int)) else lst rt rq rh x p k
def rpf (B : LinT) (O : Nat → OpT) (x : Int) : Nat → LinT
  | 0 => B
  | i + 1 => if (O i).1 ≤ x then apO (rpf B O x i) (O i) else rpf B O x i
theorem co_all {O : Nat → OpT} {x : Int} : ∀ i : Nat, (∀ j : Nat, j < i → (O j).1 ≤ x) → cO O x i = i := by
  intro i
  induction i with
  | zero => intro _; rfl
  | succ i ih =>
    intro h0
    show cO O x i + (if (O i).1 ≤ x then 1 else 0) = i + 1
    rw [ih (fun j hj => h0 j (by omega)), if_pos (h0 i (Nat.lt_succ_self i))]
theorem rpf_eq {B : LinT} {O : Nat → OpT} {x : Int} {m : Nat} (hM : ∀ i j : Nat, i < j → j < m → (O i).1 ≤ (O j).1) : ∀ i : Nat, i ≤ m → rpf B O x i = rp B O (cO O x i) := by
  intro i
  induction i with
  | zero => intro _; rfl
  | succ i ih =>
    intro hi
    show (if (O i).1 ≤ x then apO (rpf B O x i) (O i) else rpf B O x i) = rp B O (cO O x i + (if (O i).1 ≤ x then 1 else 0))
    by_cases q : (O i).1 ≤ x
    · have e := co_all (O := O) (x := x) i (fun j hj => Int.le_trans (hM j i hj (by omega)) q)
      rw [if_pos q, if_pos q, ih (by omega), e]
      rfl
    · rw [if_neg q, if_neg q]; exact ih (by omega)
/-- after k records, the latest of each point tells the state S -/
def QL (rt rq rh : Nat → Int32) (rv : Nat → Int64) (rw_ : Nat → Int32) (c : Nat) (x : Int) (k : Nat) (S : LinT) : Prop := ∀ p : Nat, p < 24 → (S.1 p = true → ∃ j : Nat, j < c ∧ lst rt rq rh x p k = (j : Int) ∧ (rw_ j).toInt = S.2.2 p ∧ (rv j).toInt = S.2.1 p + S.2.2 p * (rt j).toInt ∧ -1000 ≤ S.2.2 p ∧ S.2.2 p ≤ 1000 ∧ -101000000 ≤ (rv j).toInt ∧ (rv j).toInt ≤ 101000000 ∧ 0 ≤ (rt j).toInt ∧ (rt j).toInt ≤ x) ∧ (S.1 p = false → lst rt rq rh x p k = -1)
theorem lst_b {rt rq rh : Nat → Int32} {x : Int} {nb p : Nat} (h0 : ∀ j : Nat, j < nb → (rt j).toInt ≤ x ∧ (rh j).toInt = 1) : ∀ k : Nat, k ≤ nb → (lst rt rq rh x p k = -1 ∧ ∀ j : Nat, j < k → (rq j).toInt ≠ (p : Int)) ∨ ∃ j : Nat, j < k ∧ lst rt rq rh x p k = (j : Int) ∧ (rq j).toInt = (p : Int) := by
  intro k
  induction k with
  | zero => intro _; exact Or.inl ⟨rfl, fun j hj => absurd hj (Nat.not_lt_zero _)⟩
  | succ k ih =>
    intro hk
    obtain ⟨g1, g2⟩ := h0 k (by omega)
    have e : lst rt rq rh x p (k + 1) = if (rt k).toInt ≤ x ∧ (rq k).toInt = (p : Int) then (if (rh k).toInt = 0 then -1 else (k : Int)) else lst rt rq rh x p k := rfl
    by_cases q : (rq k).toInt = (p : Int)
    · right
      refine ⟨k, Nat.lt_succ_self k, ?_, q⟩
      rw [e, if_pos ⟨g1, q⟩, if_neg (by omega)]
    · rw [e, if_neg (fun z => q z.2)]
      rcases ih (by omega) with ⟨z1, z2⟩ | ⟨j, z1, z2, z3⟩
      · left
        refine ⟨z1, fun j hj => ?_⟩
        rcases Nat.lt_or_eq_of_le (Nat.lt_succ_iff.mp hj) with y | y
        · exact z2 j y
        · subst y; exact q
      · exact Or.inr ⟨j, by omega, z2, z3⟩
theorem ql_all {rt rq rh : Nat → Int32} {rv : Nat → Int64} {rw_ : Nat → Int32} {c : Nat} {B : LinT} {O : Nat → OpT} {m : Nat} {kn x : Int} (hR : RK rt rq rh rv rw_ c B O m kn) (hk0 : 0 ≤ kn) (hkx : kn ≤ x) (hO : ∀ i : Nat, i < m → kn ≤ (O i).1) : QL rt rq rh rv rw_ c x c (rpf B O x m) := by
  obtain ⟨nb, n1, n2, n3, n4, n5, n6⟩ := hR
  have key : ∀ i : Nat, i ≤ m → QL rt rq rh rv rw_ c x (nb + i) (rpf B O x i) := by
    intro i
    induction i with
    | zero =>
      intro _ p hp
      have hb := lst_b (rt := rt) (rq := rq) (rh := rh) (x := x) (nb := nb) (p := p) (fun j hj => by
        obtain ⟨p', g1, g2, g3, g4, g5⟩ := n4 j hj
        exact ⟨by omega, g4⟩) nb (Nat.le_refl nb)
      refine ⟨fun ht => ?_, fun ht => ?_⟩
      · rcases hb with ⟨z1, z2⟩ | ⟨j, z1, z2, z3⟩
        · obtain ⟨j, hj, e⟩ := n5 p hp ht
          exact absurd e (z2 j hj)
        · obtain ⟨p', g1, g2, g3, g4, g5, g6, g7, g8, g9, g10, g11⟩ := n4 j z1
          have e : p' = p := by omega
          subst e
          exact ⟨j, by omega, z2, g6, by rw [g2]; exact g7, g8, g9, g10, g11, by omega, by omega⟩
      · rcases hb with ⟨z1, z2⟩ | ⟨j, z1, z2, z3⟩
        · exact z1
        · obtain ⟨p', g1, g2, g3, g4, g5, g6⟩ := n4 j z1
          have e : p' = p := by omega
          subst e
          have ht2 : B.1 p' = false := ht
          rw [ht2] at g5; exact absurd g5 (by decide)
    | succ i ih =>
      intro hi p hp
      have h1 := ih (by omega) p hp
      obtain ⟨o1, o2, o3, o4, o5⟩ := n6 i (by omega)
      have e : lst rt rq rh x p (nb + i + 1) = if (rt (nb + i)).toInt ≤ x ∧ (rq (nb + i)).toInt = (p : Int) then (if (rh (nb + i)).toInt = 0 then -1 else ((nb + i : Nat) : Int)) else lst rt rq rh x p (nb + i) := rfl
      have er : rpf B O x (i + 1) = if (O i).1 ≤ x then apO (rpf B O x i) (O i) else rpf B O x i := rfl
      rw [show nb + (i + 1) = nb + i + 1 by omega, e, er]
      by_cases q : (O i).1 ≤ x
      · rw [if_pos q]
        have hkO := hO i (by omega)
        by_cases z : p = (O i).2.1
        · rw [if_pos ⟨by omega, by omega⟩]
          cases hs : (O i).2.2.1 with
          | true =>
            obtain ⟨s1, s2, s3, s4, s5, s6, s7⟩ := o4 hs
            unfold apO
            rw [if_pos hs, if_neg (by omega)]
            refine ⟨fun _ => ⟨nb + i, by omega, rfl, ?_, ?_, ?_, ?_, s6, s7, by omega, by omega⟩, fun ht => ?_⟩
            · show _ = updN (rpf B O x i).2.2 (O i).2.1 (O i).2.2.2.2 p
              unfold updN; rw [if_pos z]; exact s2
            · show _ = updN (rpf B O x i).2.1 (O i).2.1 (O i).2.2.2.1 p + updN (rpf B O x i).2.2 (O i).2.1 (O i).2.2.2.2 p * (rt (nb + i)).toInt
              unfold updN; rw [if_pos z, if_pos z, o1]; exact s3
            · show -1000 ≤ updN (rpf B O x i).2.2 (O i).2.1 (O i).2.2.2.2 p
              unfold updN; rw [if_pos z]; exact s4
            · show updN (rpf B O x i).2.2 (O i).2.1 (O i).2.2.2.2 p ≤ 1000
              unfold updN; rw [if_pos z]; exact s5
            · have ht2 : updB (rpf B O x i).1 (O i).2.1 true p = false := ht
              unfold updB at ht2; rw [if_pos z] at ht2; exact absurd ht2 (by decide)
          | false =>
            have s1 := o5 hs
            unfold apO
            rw [if_neg (by rw [hs]; decide), if_pos s1]
            refine ⟨fun ht => ?_, fun _ => rfl⟩
            have ht2 : updB (rpf B O x i).1 (O i).2.1 false p = true := ht
            unfold updB at ht2; rw [if_pos z] at ht2; exact absurd ht2 (by decide)
        · rw [if_neg (fun y => z (by omega))]
          unfold apO
          split
          · show (updB (rpf B O x i).1 (O i).2.1 true p = true → _) ∧ (updB (rpf B O x i).1 (O i).2.1 true p = false → _)
            have u1 : updB (rpf B O x i).1 (O i).2.1 true p = (rpf B O x i).1 p := by unfold updB; rw [if_neg z]
            have u2 : updN (rpf B O x i).2.1 (O i).2.1 (O i).2.2.2.1 p = (rpf B O x i).2.1 p := by unfold updN; rw [if_neg z]
            have u3 : updN (rpf B O x i).2.2 (O i).2.1 (O i).2.2.2.2 p = (rpf B O x i).2.2 p := by unfold updN; rw [if_neg z]
            dsimp only
            rw [u1, u2, u3]; exact h1
          · show (updB (rpf B O x i).1 (O i).2.1 false p = true → _) ∧ (updB (rpf B O x i).1 (O i).2.1 false p = false → _)
            have u1 : updB (rpf B O x i).1 (O i).2.1 false p = (rpf B O x i).1 p := by unfold updB; rw [if_neg z]
            rw [u1]; exact h1
      · rw [if_neg q, if_neg (fun y => by omega)]; exact h1
  have := key m (Nat.le_refl m)
  rw [← n2] at this; exact this
-- ranks
theorem rk_mono {th : Nat → Bool} {h v : Nat → Int} {t : Int} {a b : Nat} (hb : bef h v t a b) : ∀ n : Nat, rkF th h v t a n ≤ rkF th h v t b n ∧ (a < n → th a = true → rkF th h v t a n < rkF th h v t b n) := by
  intro n
  induction n with
  | zero => exact ⟨Nat.le_refl _, fun hn => absurd hn (Nat.not_lt_zero _)⟩
  | succ n ih =>
    have ea : rkF th h v t a (n + 1) = rkF th h v t a n + (if th n = true ∧ bef h v t n a then 1 else 0) := rfl
    have eb : rkF th h v t b (n + 1) = rkF th h v t b n + (if th n = true ∧ bef h v t n b then 1 else 0) := rfl
    rw [ea, eb]
    by_cases q : th n = true ∧ bef h v t n a
    · rw [if_pos q, if_pos ⟨q.1, bf_tr q.2 hb⟩]
      refine ⟨by omega, fun hn hth => ?_⟩
      have hne : a ≠ n := fun z => by subst z; exact bf_ir q.2
      have := ih.2 (by omega) hth
      omega
    · rw [if_neg q]
      refine ⟨by omega, fun hn hth => ?_⟩
      rcases Nat.lt_or_eq_of_le (Nat.lt_succ_iff.mp hn) with z | z
      · have := ih.2 z hth; omega
      · subst z
        rw [if_pos ⟨hth, hb⟩]; omega
theorem rk_zero {th : Nat → Bool} {h v : Nat → Int} {t : Int} {a : Nat} : ∀ n : Nat, (∀ r : Nat, r < n → th r = true → ¬ bef h v t r a) → rkF th h v t a n = 0 := by
  intro n
  induction n with
  | zero => intro _; rfl
  | succ n ih =>
    intro h0
    show rkF th h v t a n + (if th n = true ∧ bef h v t n a then 1 else 0) = 0
    rw [ih (fun r hr => h0 r (by omega)), if_neg (fun z => h0 n (Nat.lt_succ_self n) z.1 z.2)]
theorem rk_z2 {th : Nat → Bool} {h v : Nat → Int} {t : Int} {a : Nat} : ∀ n : Nat, rkF th h v t a n = 0 → ∀ r : Nat, r < n → th r = true → ¬ bef h v t r a := by
  intro n
  induction n with
  | zero => intro _ r hr; exact absurd hr (Nat.not_lt_zero _)
  | succ n ih =>
    intro h0 r hr hth hb
    have e : rkF th h v t a (n + 1) = rkF th h v t a n + (if th n = true ∧ bef h v t n a then 1 else 0) := rfl
    rw [e] at h0
    rcases Nat.lt_or_eq_of_le (Nat.lt_succ_iff.mp hr) with z | z
    · exact ih (by omega) r z hth hb
    · subst z; rw [if_pos ⟨hth, hb⟩] at h0; omega
theorem rk_succ {th : Nat → Bool} {h v : Nat → Int} {t : Int} {p y : Nat} (hty : th y = true) : ∀ n : Nat, (∀ r : Nat, r < n → th r = true → (bef h v t r p ↔ bef h v t r y ∨ r = y)) → rkF th h v t p n = rkF th h v t y n + (if y < n then 1 else 0) := by
  intro n
  induction n with
  | zero => intro _; rfl
  | succ n ih =>
    intro h0
    have e1 := ih (fun r hr => h0 r (by omega))
    show rkF th h v t p n + (if th n = true ∧ bef h v t n p then 1 else 0) = rkF th h v t y n + (if th n = true ∧ bef h v t n y then 1 else 0) + (if y < n + 1 then 1 else 0)
    rw [e1]
    by_cases q : n = y
    · subst q
      rw [if_neg (Nat.lt_irrefl n), if_pos ⟨hty, (h0 n (Nat.lt_succ_self n) hty).mpr (Or.inr rfl)⟩, if_neg (fun z => bf_ir z.2), if_pos (Nat.lt_succ_self n)]
    · have e2 : (th n = true ∧ bef h v t n p) ↔ (th n = true ∧ bef h v t n y) := ⟨fun z => ⟨z.1, ((h0 n (Nat.lt_succ_self n) z.1).mp z.2).resolve_right q⟩, fun z => ⟨z.1, (h0 n (Nat.lt_succ_self n) z.1).mpr (Or.inl z.2)⟩⟩
      by_cases c : th n = true ∧ bef h v t n y
      · rw [if_pos c, if_pos (e2.mpr c)]
        by_cases d : y < n
        · rw [if_pos d, if_pos (by omega)]; (try omega)
        · rw [if_neg d, if_neg (by omega)]
      · rw [if_neg c, if_neg (fun z => c (e2.mp z))]
        by_cases d : y < n
        · rw [if_pos d, if_pos (by omega)]
        · rw [if_neg d, if_neg (by omega)]
theorem rk_bef {th : Nat → Bool} {h v : Nat → Int} {t : Int} {a b n : Nat} (hbn : b < n) (htb : th b = true) (hlt : rkF th h v t a n < rkF th h v t b n) : bef h v t a b := by
  by_cases q : a = b
  · subst q; omega
  · refine Classical.byContradiction (fun c => ?_)
    have := (rk_mono (th := th) (bf_to q c) n).2 hbn htb
    omega
/-- the order of the points below i, by rank -/
def SO (L : LinT) (x : Int) (od : Nat → Int32) (m i : Nat) : Prop := (∀ k : Nat, k < m → ∃ p : Nat, p < i ∧ (od k).toInt = (p : Int) ∧ L.1 p = true ∧ rkF L.1 L.2.1 L.2.2 x p i = k) ∧ (∀ q : Nat, q < i → L.1 q = true → ∃ k : Nat, k < m ∧ (od k).toInt = (q : Int))
theorem so_skip {L : LinT} {x : Int} {od : Nat → Int32} {m i : Nat} (h0 : SO L x od m i) (hL : L.1 i = false) : SO L x od m (i + 1) := by
  refine ⟨fun k hk => ?_, fun q hq hth => ?_⟩
  · obtain ⟨p, h1, h2, h3, h4⟩ := h0.1 k hk
    refine ⟨p, by omega, h2, h3, ?_⟩
    show rkF L.1 L.2.1 L.2.2 x p i + (if L.1 i = true ∧ bef L.2.1 L.2.2 x i p then 1 else 0) = k
    rw [h4, if_neg (fun z => by rw [hL] at z; exact absurd z.1 (by decide))]; rfl
  · have hne : q ≠ i := fun z => by subst z; rw [hL] at hth; exact absurd hth (by decide)
    exact h0.2 q (by omega) hth
abbrev vlL (L : LinT) (x : Int) (p : Nat) : Int := L.2.1 p + L.2.2 p * x
theorem so_ins {L : LinT} {x : Int} {od od2 : Nat → Int32} {m i k : Nat} (h0 : SO L x od m i) (hL : L.1 i = true) (hk : k ≤ m) (hhi : ∀ j : Nat, k ≤ j → j < m → ∀ p : Nat, (od j).toInt = (p : Int) → vlL L x i < vlL L x p) (hlo : k = 0 ∨ ∀ p : Nat, (od (k - 1)).toInt = (p : Int) → vlL L x p ≤ vlL L x i) (h1 : ∀ j : Nat, j < k → od2 j = od j) (h2 : (od2 k).toInt = (i : Int)) (h3 : ∀ j : Nat, k < j → j ≤ m → od2 j = od (j - 1)) : SO L x od2 (m + 1) (i + 1) := by
  have hstep : ∀ p : Nat, rkF L.1 L.2.1 L.2.2 x p (i + 1) = rkF L.1 L.2.1 L.2.2 x p i + (if L.1 i = true ∧ bef L.2.1 L.2.2 x i p then 1 else 0) := fun p => rfl
  -- those ahead of k are before i
  have hA : ∀ j : Nat, j < k → ∀ p : Nat, p < i → (od j).toInt = (p : Int) → L.1 p = true → rkF L.1 L.2.1 L.2.2 x p i = j → bef L.2.1 L.2.2 x p i := by
    intro j hj p hp e hth hr
    rcases hlo with q | q
    · omega
    · obtain ⟨y, y1, y2, y3, y4⟩ := h0.1 (k - 1) (by omega)
      have hv := q y y2
      have hyi : bef L.2.1 L.2.2 x y i := by
        by_cases c : vlL L x y = vlL L x i
        · exact Or.inr ⟨c, y1⟩
        · exact Or.inl (by unfold vlL at hv c; omega)
      by_cases c : j = k - 1
      · have e2 : p = y := by rw [c] at e; omega
        rw [e2]; exact hyi
      · exact bf_tr (rk_bef y1 y3 (by omega)) hyi
  have hB : ∀ j : Nat, k ≤ j → j < m → ∀ p : Nat, (od j).toInt = (p : Int) → bef L.2.1 L.2.2 x i p := fun j a b p e => Or.inl (hhi j a b p e)
  refine ⟨fun j hj => ?_, fun q hq hth => ?_⟩
  · rcases (show j < k ∨ j = k ∨ k < j by omega) with c | c | c
    · obtain ⟨p, p1, p2, p3, p4⟩ := h0.1 j (by omega)
      refine ⟨p, by omega, by rw [h1 j c]; exact p2, p3, ?_⟩
      rw [hstep, p4, if_neg (fun z => bf_as z.2 (hA j c p p1 p2 p3 p4))]; rfl
    · subst c
      refine ⟨i, Nat.lt_succ_self i, h2, hL, ?_⟩
      rw [hstep, if_neg (fun z => bf_ir z.2)]
      by_cases z : j = 0
      · subst z
        exact rk_zero i (fun r hr ht hb => by
          obtain ⟨j2, a1, a2⟩ := h0.2 r hr ht
          exact bf_as hb (hB j2 (Nat.zero_le _) a1 r a2))
      · obtain ⟨y, y1, y2, y3, y4⟩ := h0.1 (j - 1) (by omega)
        have hyi := hA (j - 1) (by omega) y y1 y2 y3 y4
        have hs := rk_succ (th := L.1) (h := L.2.1) (v := L.2.2) (t := x) (p := i) (y := y) y3 i (fun r hr ht => by
          constructor
          · intro hb
            obtain ⟨j2, a1, a2⟩ := h0.2 r hr ht
            by_cases w : j ≤ j2
            · exact absurd hb (bf_as (hB j2 w a1 r a2))
            · by_cases w2 : j2 = j - 1
              · right; rw [w2] at a2; omega
              · left
                obtain ⟨r2, b1, b2, b3, b4⟩ := h0.1 j2 a1
                have e2 : r2 = r := by omega
                subst e2
                exact rk_bef y1 y3 (by omega)
          · intro hb
            rcases hb with hb | hb
            · exact bf_tr hb hyi
            · rw [hb]; exact hyi)
        rw [hs, y4, if_pos y1]; omega
    · obtain ⟨p, p1, p2, p3, p4⟩ := h0.1 (j - 1) (by omega)
      refine ⟨p, by omega, by rw [h3 j c (by omega)]; exact p2, p3, ?_⟩
      rw [hstep, p4, if_pos ⟨hL, hB (j - 1) (by omega) (by omega) p p2⟩]; omega
  · by_cases c : q = i
    · exact ⟨k, by omega, by rw [h2, c]⟩
    · obtain ⟨j, a1, a2⟩ := h0.2 q (by omega) hth
      by_cases w : j < k
      · exact ⟨j, by omega, by rw [h1 j w]; exact a2⟩
      · exact ⟨j + 1, by omega, by rw [h3 (j + 1) (by omega) (by omega)]; exact a2⟩
-- what the order tells
theorem so_top {L : LinT} {x : Int} {od : Nat → Int32} {m : Nat} (h0 : SO L x od m 24) : (m = 0 → tpF L.1 L.2.1 L.2.2 x 24 = -1) ∧ (0 < m → tpF L.1 L.2.1 L.2.2 x 24 = (od 0).toInt) := by
  constructor
  · intro hm
    refine tp_no 24 (fun p hp => ?_)
    cases hc : L.1 p with
    | false => rfl
    | true => obtain ⟨k, hk, _⟩ := h0.2 p hp hc; omega
  · intro hm
    obtain ⟨p, p1, p2, p3, p4⟩ := h0.1 0 hm
    rw [p2]
    exact tp_uni p3 p1 (fun q hq hth hne => bf_to hne (rk_z2 24 p4 q hq hth))
theorem so_or {L : LinT} {x : Int} {od : Nat → Int32} {m : Nat} (h0 : SO L x od m 24) (k : Nat) : (k < m → orF L x k 24 = (od k).toInt) ∧ (m ≤ k → orF L x k 24 = -1) := by
  constructor
  · intro hm
    obtain ⟨p, p1, p2, p3, p4⟩ := h0.1 k hm
    rw [p2]
    refine or_at ⟨p3, by rw [p4]⟩ (fun q hq hz => ?_) 24 p1
    have hne : q ≠ p := by omega
    by_cases c : bef L.2.1 L.2.2 x q p
    · have := (rk_mono (th := L.1) c 24).2 (by omega) hz.1; omega
    · have := (rk_mono (th := L.1) (bf_to hne c) 24).2 p1 p3; omega
  · intro hm
    refine or_none 24 (fun p hp hz => ?_)
    obtain ⟨j, j1, j2⟩ := h0.2 p hp hz.1
    obtain ⟨p2, b1, b2, b3, b4⟩ := h0.1 j j1
    have e : p2 = p := by omega
    subst e
    omega
