/-! the records that forget writes -/
def PR (rt rq rh : Nat → Int32) (rv : Nat → Int64) (rw_ : Nat → Int32) (c i : Nat) (L : LinT) (t : Int) : Prop :=
  c ≤ i ∧ (∀ j : Nat, j < c → ∃ p : Nat, p < i ∧ (rt j).toInt = t ∧ (rq j).toInt = (p : Int) ∧ (rh j).toInt = 1 ∧ L.1 p = true ∧ (rw_ j).toInt = L.2.2 p ∧ (rv j).toInt = L.2.1 p + L.2.2 p * t ∧ -1000 ≤ L.2.2 p ∧ L.2.2 p ≤ 1000 ∧ -101000000 ≤ (rv j).toInt ∧ (rv j).toInt ≤ 101000000) ∧ (∀ p : Nat, p < i → L.1 p = true → ∃ j : Nat, j < c ∧ (rq j).toInt = (p : Int))
theorem pr_zero (rt rq rh : Nat → Int32) (rv : Nat → Int64) (rw_ : Nat → Int32) (L : LinT) (t : Int) : PR rt rq rh rv rw_ 0 0 L t :=
  ⟨Nat.le_refl _, fun j h => absurd h (Nat.not_lt_zero _), fun j h => absurd h (Nat.not_lt_zero _)⟩
theorem pr_skip {rt rq rh : Nat → Int32} {rv : Nat → Int64} {rw_ : Nat → Int32} {c i : Nat} {L : LinT} {t : Int} (h : PR rt rq rh rv rw_ c i L t) (hL : L.1 i = false) : PR rt rq rh rv rw_ c (i + 1) L t := by
  refine ⟨Nat.le_succ_of_le h.1, fun j hj => ?_, fun p hp ht => ?_⟩
  · obtain ⟨p, h1, h2⟩ := h.2.1 j hj
    exact ⟨p, Nat.lt_succ_of_lt h1, h2⟩
  · rcases Nat.lt_or_eq_of_le (Nat.lt_succ_iff.mp hp) with q | q
    · exact h.2.2 p q ht
    · subst q; rw [hL] at ht; exact absurd ht (by decide)
theorem pr_add {rt rq rh : Nat → Int32} {rv : Nat → Int64} {rw_ : Nat → Int32} {c i : Nat} {L : LinT} {t : Int} (h : PR rt rq rh rv rw_ c i L t) {x y z w : Int32} {u : Int64} (hx : x.toInt = t) (hy : y.toInt = (i : Int)) (hz : z.toInt = 1) (hL : L.1 i = true) (hw : w.toInt = L.2.2 i) (hu : u.toInt = L.2.1 i + L.2.2 i * t) (hb : -1000 ≤ L.2.2 i ∧ L.2.2 i ≤ 1000) (hc : -101000000 ≤ u.toInt ∧ u.toInt ≤ 101000000) :
    PR (upd rt c x) (upd rq c y) (upd rh c z) (vp_updL rv c u) (upd rw_ c w) (c + 1) (i + 1) L t := by
  refine ⟨Nat.succ_le_succ h.1, fun j hj => ?_, fun p hp ht => ?_⟩
  · by_cases q : j = c
    · subst q
      rw [pk_us, pk_us, pk_us, pk_us, pk_uLs]
      exact ⟨i, Nat.lt_succ_self i, hx, hy, hz, hL, hw, hu, hb.1, hb.2, hc.1, hc.2⟩
    · obtain ⟨p, h1, h2⟩ := h.2.1 j (by omega)
      rw [pk_un q, pk_un q, pk_un q, pk_un q, pk_uLn q]
      exact ⟨p, Nat.lt_succ_of_lt h1, h2⟩
  · by_cases q : p = i
    · subst q
      exact ⟨c, Nat.lt_succ_self c, by rw [pk_us]; exact hy⟩
    · obtain ⟨j, h1, h2⟩ := h.2.2 p (by omega) ht
      exact ⟨j, by omega, by rw [pk_un (by omega)]; exact h2⟩
theorem pr_rk {rt rq rh : Nat → Int32} {rv : Nat → Int64} {rw_ : Nat → Int32} {c : Nat} {L : LinT} {t : Int} (h : PR rt rq rh rv rw_ c 24 L t) {O : Nat → OpT} : RK rt rq rh rv rw_ c L O 0 t :=
  ⟨c, h.1, rfl, Nat.zero_le _, h.2.1, h.2.2, fun i hi => absurd hi (Nat.not_lt_zero _)⟩
