/-! the reference's way back, over the state -/
theorem back_ok {rt rq rh : Nat → Int32} {rv : Nat → Int64} {rw_ : Nat → Int32} {c : Nat} {s : MS} (hI : Inv s) (hR : RK rt rq rh rv rw_ c (mB s) (mO s) (mm s) (mk s)) {x : Int} (hx : mk s ≤ x) : QL rt rq rh rv rw_ c x c (stA s x) := by
  have h1 := ql_all hR hI.2.2.2.2.2.2.2.2.2.1.1 hx (fun i hi => (hI.2.2.2.2.2.2.2.2.2.2.1 i hi).1)
  rw [rpf_eq hI.2.2.2.2.2.2.2.2.2.2.2.1 (mm s) (Nat.le_refl _)] at h1
  exact h1
theorem rk_pt {rt rq rh : Nat → Int32} {rv : Nat → Int64} {rw_ : Nat → Int32} {c : Nat} {B : LinT} {O : Nat → OpT} {m : Nat} {kn : Int} (hR : RK rt rq rh rv rw_ c B O m kn) : ∀ k : Nat, k < c → ∃ q : Nat, q < 24 ∧ (rq k).toInt = (q : Int) := by
  obtain ⟨nb, n1, n2, n3, n4, n5, n6⟩ := hR
  intro k hk
  by_cases q : k < nb
  · obtain ⟨p, g1, g2, g3, g4⟩ := n4 k q
    exact ⟨p, g1, g3⟩
  · obtain ⟨o1, o2, o3, o4⟩ := n6 (k - nb) (by omega)
    rw [show nb + (k - nb) = k by omega] at o2
    exact ⟨_, o3, o2⟩
theorem lst_st {rt rq rh : Nat → Int32} {x : Int} {k q : Nat} {tn : Nat → Int32} {o : Int32} (h0 : ∀ p : Nat, p < 24 → (tn p).toInt = lst rt rq rh x p k) (ht : (rt k).toInt ≤ x) (hq : (rq k).toInt = (q : Int)) (ho : ((rh k).toInt = 0 ∧ o.toInt = -1) ∨ ((rh k).toInt ≠ 0 ∧ o.toInt = (k : Int))) : ∀ p : Nat, p < 24 → (upd tn q o p).toInt = lst rt rq rh x p (k + 1) := by
  intro p hp
  show _ = if (rt k).toInt ≤ x ∧ (rq k).toInt = (p : Int) then (if (rh k).toInt = 0 then -1 else (k : Int)) else lst rt rq rh x p k
  by_cases e : p = q
  · subst e
    rw [pk_us, if_pos ⟨ht, hq⟩]
    rcases ho with y | y
    · rw [if_pos y.1]; exact y.2
    · rw [if_neg y.1]; exact y.2
  · rw [pk_un e, if_neg (fun z => e (by omega))]
    exact h0 p hp
theorem lst_no {rt rq rh : Nat → Int32} {x : Int} {k : Nat} {tn : Nat → Int32} (h0 : ∀ p : Nat, p < 24 → (tn p).toInt = lst rt rq rh x p k) (ht : ¬ (rt k).toInt ≤ x) : ∀ p : Nat, p < 24 → (tn p).toInt = lst rt rq rh x p (k + 1) := by
  intro p hp
  show _ = if (rt k).toInt ≤ x ∧ (rq k).toInt = (p : Int) then (if (rh k).toInt = 0 then -1 else (k : Int)) else lst rt rq rh x p k
  rw [if_neg (fun z => ht z.1)]; exact h0 p hp
