/-! a new object: its cells and the state that they hold -/
def ss0 : MS := (0, (fun _ => false, fun _ => 0, fun _ => 0), fun _ => 0, 0, fun _ => 0, 0, 0, 0, (fun _ => false, fun _ => 0, fun _ => 0), fun _ => (0, 0, false, 0, 0), 0, 0)
def u00 : CT := (((fun _ => 0), (fun _ => 0), (fun _ => 0), 0), ((fun _ => 0), (fun _ => 0), (fun _ => 0), 0, 0, 0), ((fun _ => 0), (fun _ => 0), (fun _ => 0), (fun _ => 0), (fun _ => 0), 0, 0, 0), ((fun _ => 0), (fun _ => 0), (fun _ => 0), 0), ((fun _ => 0), (fun _ => 0), (fun _ => 0), 0), ((fun _ => 0), 0, 0))
theorem cnt_0 : ∀ n : Nat, cntF (fun _ => false) n = 0 := by
  intro n
  induction n with
  | zero => rfl
  | succ n ih => show cntF (fun _ => false) n + (if false = true then 1 else 0) = 0; rw [ih]; rfl
theorem rln_0 : RLn ((fun _ => 0), (fun _ => 0), (fun _ => 0), 0) (fun _ => false, fun _ => 0, fun _ => 0) := ⟨fun p _ => ⟨fun h => absurd h (by show ¬ (false = true); decide), fun _ => rfl⟩, by show (0 : Int32).toInt = (cntF (fun _ => false) 24 : Int); rw [cnt_0]; rfl⟩
theorem rc_0 : RC u00 ss0 := ⟨rln_0, ⟨⟨rfl, Nat.zero_le _, fun k hk => absurd hk (Nat.not_lt_zero _)⟩, rfl, rfl⟩, ⟨⟨rfl, Nat.zero_le _, fun i hi => absurd hi (Nat.not_lt_zero _)⟩, rfl⟩, rln_0, fun _ _ => rfl, rfl, rfl⟩
theorem inv_0 : Inv ss0 := by
  refine ⟨⟨Int.le_refl _, by show (0 : Int) ≤ 100000; decide⟩, Nat.zero_le _, fun k hk => absurd hk (Nat.not_lt_zero _), fun i j hi => absurd hi (Nat.not_lt_zero _), fun p _ hp => absurd hp (by show ¬ (false = true); decide), cnt_0 24, fun p _ hp => absurd hp (by show ¬ (false = true); decide), fun k _ hk => absurd hk (Nat.not_lt_zero _), Nat.zero_le _, ⟨Int.le_refl _, Int.le_refl _⟩, fun i hi => absurd hi (Nat.not_lt_zero _), fun i j _ hj => absurd hj (Nat.not_lt_zero _), fun p _ => ⟨rfl, fun hp => absurd hp (by show ¬ (false = true); decide)⟩⟩
