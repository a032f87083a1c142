/-! THE REFERENCE's numbers and the mathematical state -/
def MOK (tr : Nat → Int32) (va : Nat → Int64) (sn ve : Nat → Int32) (th : Nat → Bool) (h v : Nat → Int) (t : Int) : Prop :=
  ∀ p : Nat, p < 24 → (th p = true → (tr p).toInt = 1 ∧ 0 ≤ (sn p).toInt ∧ (sn p).toInt ≤ t ∧ (ve p).toInt = v p ∧ (va p).toInt = h p + v p * (sn p).toInt ∧ -1000 ≤ v p ∧ v p ≤ 1000 ∧ -101000000 ≤ (va p).toInt ∧ (va p).toInt ≤ 101000000) ∧ (th p = false → (tr p).toInt = 0)
def HM (hp : Nat → Int32) (Sz : Int32) (a : Nat → Nat) (n : Nat) : Prop := Sz.toInt = (n : Int) ∧ n ≤ 24 ∧ ∀ k : Nat, k < n → (hp k).toInt = (a k : Int) ∧ a k < 24
def RK (rt rq rh : Nat → Int32) (rv : Nat → Int64) (rw : Nat → Int32) (c : Nat) (B : LinT) (O : Nat → OpT) (m : Nat) (kn : Int) : Prop :=
  ∃ nb : Nat, nb ≤ 24 ∧ c = nb + m ∧ m ≤ 200 ∧ (∀ j : Nat, j < nb → ∃ p : Nat, p < 24 ∧ (rt j).toInt = kn ∧ (rq j).toInt = (p : Int) ∧ (rh j).toInt = 1 ∧ B.1 p = true ∧ (rw j).toInt = B.2.2 p ∧ (rv j).toInt = B.2.1 p + B.2.2 p * kn ∧ -1000 ≤ B.2.2 p ∧ B.2.2 p ≤ 1000 ∧ -101000000 ≤ (rv j).toInt ∧ (rv j).toInt ≤ 101000000) ∧ (∀ p : Nat, p < 24 → B.1 p = true → ∃ j : Nat, j < nb ∧ (rq j).toInt = (p : Int))
    ∧ (∀ i : Nat, i < m → (rt (nb + i)).toInt = (O i).1 ∧ (rq (nb + i)).toInt = ((O i).2.1 : Int) ∧ (O i).2.1 < 24 ∧ ((O i).2.2.1 = true → (rh (nb + i)).toInt = 1 ∧ (rw (nb + i)).toInt = (O i).2.2.2.2 ∧ (rv (nb + i)).toInt = (O i).2.2.2.1 + (O i).2.2.2.2 * (O i).1 ∧ -1000 ≤ (O i).2.2.2.2 ∧ (O i).2.2.2.2 ≤ 1000 ∧ -101000000 ≤ (rv (nb + i)).toInt ∧ (rv (nb + i)).toInt ≤ 101000000) ∧ ((O i).2.2.1 = false → (rh (nb + i)).toInt = 0))
/-- a failure as the reference says it: -1 for never -/
def nof (x : Int) : Int := if x = 1000001 then -1 else x
theorem hm_sw {hp : Nat → Int32} {Sz : Int32} {a : Nat → Nat} {n k : Nat} (hH : HM hp Sz a n) (hk1 : 1 ≤ k) (hkn : k < n) : HM (upd (upd hp ((k - 1) / 2) (hp k)) k (hp ((k - 1) / 2))) Sz (sw a ((k - 1) / 2) k) n := by
  refine ⟨hH.1, hH.2.1, fun j hj => ?_⟩
  by_cases e : j = k
  · subst e
    rw [pk_us, sw_b (by omega)]
    exact hH.2.2 _ (by omega)
  · rw [pk_un e]
    by_cases e2 : j = (k - 1) / 2
    · rw [e2, pk_us, sw_a]
      exact hH.2.2 k hkn
    · rw [pk_un e2, sw_c e2 e]
      exact hH.2.2 j hj
theorem rk_add {rt rq rh : Nat → Int32} {rv : Nat → Int64} {rw_ : Nat → Int32} {c : Nat} {B : LinT} {O : Nat → OpT} {m : Nat} {kn : Int} (hR : RK rt rq rh rv rw_ c B O m kn) (hm : m < 200) {x y z w : Int32} {u : Int64} {p : Nat} {b : Bool} {hv vl t : Int} (h1 : x.toInt = t) (h2 : y.toInt = (p : Int)) (hp : p < 24) (h3 : b = true → z.toInt = 1 ∧ w.toInt = vl ∧ u.toInt = hv + vl * t ∧ -1000 ≤ vl ∧ vl ≤ 1000 ∧ -101000000 ≤ u.toInt ∧ u.toInt ≤ 101000000) (h4 : b = false → z.toInt = 0) : RK (upd rt c x) (upd rq c y) (upd rh c z) (vp_updL rv c u) (upd rw_ c w) (c + 1) B (updO O m (t, p, b, hv, vl)) (m + 1) kn := by
  obtain ⟨nb, n1, n2, n3, n4, n5, n6⟩ := hR
  refine ⟨nb, n1, by omega, by omega, fun j hj => ?_, fun q hq hB => ?_, fun i hi => ?_⟩
  · have e : j ≠ c := by omega
    rw [pk_un e, pk_un e, pk_un e, pk_uLn e, pk_un e]
    exact n4 j hj
  · obtain ⟨j, hj, e⟩ := n5 q hq hB
    exact ⟨j, hj, by rw [pk_un (by omega)]; exact e⟩
  · by_cases e : i = m
    · have e1 : nb + i = c := by omega
      have e2 : updO O m (t, p, b, hv, vl) i = (t, p, b, hv, vl) := by unfold updO; rw [if_pos e]
      rw [e1, e2, pk_us, pk_us, pk_us, pk_uLs, pk_us]
      exact ⟨h1, h2, hp, h3, h4⟩
    · have e1 : nb + i ≠ c := by omega
      have e2 : updO O m (t, p, b, hv, vl) i = O i := by unfold updO; rw [if_neg e]
      rw [e2, pk_un e1, pk_un e1, pk_un e1, pk_uLn e1, pk_un e1]
      exact n6 i (by omega)
theorem rk_c {rt rq rh : Nat → Int32} {rv : Nat → Int64} {rw_ : Nat → Int32} {c : Nat} {B : LinT} {O : Nat → OpT} {m : Nat} {kn : Int} (hR : RK rt rq rh rv rw_ c B O m kn) : c ≤ 24 + m ∧ m ≤ 200 := by
  obtain ⟨nb, n1, n2, n3, n4, n5, n6⟩ := hR
  omega
theorem l_add0 (x : Int64) {y : Int64} (h : y.toInt = 0) : x + y = x := by rw [b_leq (x := y) (y := 0) h]; exact Int64.add_zero x
theorem mok_later {tr : Nat → Int32} {va : Nat → Int64} {sn ve : Nat → Int32} {th : Nat → Bool} {h v : Nat → Int} {t u : Int} (hM : MOK tr va sn ve th h v t) (htu : t ≤ u) : MOK tr va sn ve th h v u := fun p hp => ⟨fun hth => by
  obtain ⟨q1, q2, q3, q4⟩ := (hM p hp).1 hth
  exact ⟨q1, q2, by omega, q4⟩, (hM p hp).2⟩
/-- the least failure, as the reference says it -/
theorem nof_min {a b : Int} (ha : 0 ≤ a) (hb : 0 ≤ b) (ha2 : a ≤ 1000001) (hb2 : b ≤ 1000001) : nof (min a b) = (if 0 ≤ nof b ∧ (nof a < 0 ∨ nof b < nof a) then nof b else nof a) := by
  unfold nof
  by_cases q : a = 1000001 <;> by_cases z : b = 1000001
  · rw [if_pos q, if_pos z, if_pos (by omega), if_neg (by omega)]
  · rw [if_pos q, if_neg z, if_neg (by omega), if_pos ⟨by omega, Or.inl (by omega)⟩]; omega
  · rw [if_neg q, if_pos z, if_neg (by omega), if_neg (by omega)]; omega
  · rw [if_neg q, if_neg z, if_neg (by omega)]
    split <;> omega
theorem cro_le {t g c : Int} : cro t g c ≤ 1000001 := by unfold cro; split <;> omega
theorem eoo_le (h v : Nat → Int) {t : Int} (ht : t ≤ 1000001) (a b : Nat) : eoo h v t a b ≤ 1000001 := by
  unfold eoo
  split
  · split
    · exact Int.le_refl _
    · exact cro_le
  · exact ht
