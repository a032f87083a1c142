/-! the reference: pure facts  -/
theorem cnt_full {th : Nat → Bool} : ∀ n : Nat, (∀ p : Nat, p < n → th p = true) → cntF th n = n := by
  intro n
  induction n with
  | zero => intro _; rfl
  | succ n ih =>
    intro h0
    show cntF th n + (if th n = true then 1 else 0) = n + 1
    rw [ih (fun p hp => h0 p (by omega)), if_pos (h0 n (Nat.lt_succ_self n))]
theorem low_free {th : Nat → Bool} (h0 : lowF th 24 ≠ 24) : lowF th 24 < 24 ∧ th (lowF th 24) = false ∧ ∀ q : Nat, q < lowF th 24 → th q = true := by
  by_cases z : ∀ q : Nat, q < 24 → th q = true
  · exact absurd (low_all 24 z) h0
  · have h1 : ∃ q : Nat, q < 24 ∧ th q = false := Classical.byContradiction (fun c => z (fun q hq => by
      cases hc : th q with
      | true => rfl
      | false => exact absurd ⟨q, hq, hc⟩ c))
    obtain ⟨r, hr1, hr2⟩ := pk_least (fun k => k < 24 ∧ th k = false) h1
    have h3 : ∀ j : Nat, j < r → th j = true := fun j hj => by
      cases hc : th j with
      | true => rfl
      | false => exact absurd ⟨by omega, hc⟩ (hr2 j hj)
    rw [low_at hr1.2 h3 24 hr1.1]
    exact ⟨hr1.1, hr1.2, h3⟩
theorem low_cnt {th : Nat → Bool} : lowF th 24 = 24 ↔ cntF th 24 = 24 := by
  constructor
  · intro h0
    refine Classical.byContradiction (fun c => c (cnt_full 24 (fun p hp => ?_)))
    cases hc : th p with
    | true => rfl
    | false =>
      have h1 : ∃ q : Nat, q < 24 ∧ th q = false := ⟨p, hp, hc⟩
      obtain ⟨r, hr1, hr2⟩ := pk_least (fun k => k < 24 ∧ th k = false) h1
      have h3 : ∀ j : Nat, j < r → th j = true := fun j hj => by
        cases hc : th j with
        | true => rfl
        | false => exact absurd ⟨by omega, hc⟩ (hr2 j hj)
      have := low_at hr1.2 h3 24 hr1.1
      omega
  · intro h0
    refine Classical.byContradiction (fun c => ?_)
    have := low_free c
    have h2 := cnt_lt this.2.1 24 this.1
    omega
theorem mok_set {tr tr2 : Nat → Int32} {va va2 : Nat → Int64} {sn ve sn2 ve2 : Nat → Int32} {L : LinT} {t y w : Int} {p : Nat} (hM : MOK tr va sn ve L.1 L.2.1 L.2.2 t) (hp : p < 24) (ht : 0 ≤ t) (hot : ∀ q : Nat, q < 24 → q ≠ p → tr2 q = tr q ∧ va2 q = va q ∧ sn2 q = sn q ∧ ve2 q = ve q) (h1 : (tr2 p).toInt = 1) (h2 : (sn2 p).toInt = t) (h3 : (ve2 p).toInt = w) (h4 : (va2 p).toInt = y) (hw : -1000 ≤ w ∧ w ≤ 1000) (hy : -101000000 ≤ y ∧ y ≤ 101000000) : MOK tr2 va2 sn2 ve2 (setL L p y w t).1 (setL L p y w t).2.1 (setL L p y w t).2.2 t := by
  intro q hq
  show (updB L.1 p true q = true → _) ∧ (updB L.1 p true q = false → _)
  by_cases e : q = p
  · subst e
    have u1 : updB L.1 q true q = true := by unfold updB; rw [if_pos rfl]
    refine ⟨fun _ => ?_, fun z => by rw [u1] at z; exact absurd z (by decide)⟩
    show (tr2 q).toInt = 1 ∧ 0 ≤ (sn2 q).toInt ∧ (sn2 q).toInt ≤ t ∧ (ve2 q).toInt = updN L.2.2 q w q ∧ (va2 q).toInt = updN L.2.1 q (y - w * t) q + updN L.2.2 q w q * (sn2 q).toInt ∧ -1000 ≤ updN L.2.2 q w q ∧ updN L.2.2 q w q ≤ 1000 ∧ -101000000 ≤ (va2 q).toInt ∧ (va2 q).toInt ≤ 101000000
    have u2 : updN L.2.2 q w q = w := by unfold updN; rw [if_pos rfl]
    have u3 : updN L.2.1 q (y - w * t) q = y - w * t := by unfold updN; rw [if_pos rfl]
    rw [u2, u3, h1, h2, h3, h4, set_val]
    exact ⟨rfl, ht, Int.le_refl _, rfl, rfl, hw.1, hw.2, hy.1, hy.2⟩
  · obtain ⟨o1, o2, o3, o4⟩ := hot q hq e
    have u1 : updB L.1 p true q = L.1 q := by unfold updB; rw [if_neg e]
    rw [u1, o1]
    refine ⟨fun z => ?_, (hM q hq).2⟩
    show (tr q).toInt = 1 ∧ 0 ≤ (sn2 q).toInt ∧ (sn2 q).toInt ≤ t ∧ (ve2 q).toInt = updN L.2.2 p w q ∧ (va2 q).toInt = updN L.2.1 p (y - w * t) q + updN L.2.2 p w q * (sn2 q).toInt ∧ -1000 ≤ updN L.2.2 p w q ∧ updN L.2.2 p w q ≤ 1000 ∧ -101000000 ≤ (va2 q).toInt ∧ (va2 q).toInt ≤ 101000000
    have u2 : updN L.2.2 p w q = L.2.2 q := by unfold updN; rw [if_neg e]
    have u3 : updN L.2.1 p (y - w * t) q = L.2.1 q := by unfold updN; rw [if_neg e]
    rw [u2, u3, o2, o3, o4]
    exact (hM q hq).1 z
theorem mok_drop {tr : Nat → Int32} {va : Nat → Int64} {sn ve : Nat → Int32} {th : Nat → Bool} {h v : Nat → Int} {t : Int} {p : Nat} {o : Int32} (hM : MOK tr va sn ve th h v t) (ho : o.toInt = 0) : MOK (upd tr p o) va sn ve (updB th p false) h v t := by
  intro q hq
  by_cases e : q = p
  · subst e
    have u1 : updB th q false q = false := by unfold updB; rw [if_pos rfl]
    rw [u1, pk_us]
    exact ⟨fun z => absurd z (by decide), fun _ => ho⟩
  · have u1 : updB th p false q = th q := by unfold updB; rw [if_neg e]
    rw [u1, pk_un e]
    exact hM q hq
theorem hm_app {hp : Nat → Int32} {Sz Sz2 x : Int32} {a : Nat → Nat} {n p : Nat} (hH : HM hp Sz a n) (hx : x.toInt = (p : Int)) (hp4 : p < 24) (hn : n < 24) (hS : Sz2.toInt = ((n + 1 : Nat) : Int)) : HM (upd hp n x) Sz2 (updA a n p) (n + 1) := by
  refine ⟨hS, by omega, fun k hk => ?_⟩
  by_cases e : k = n
  · subst e
    have e1 : updA a k p k = p := by unfold updA; rw [if_pos rfl]
    rw [e1, pk_us]; exact ⟨hx, hp4⟩
  · have e1 : updA a n p k = a k := by unfold updA; rw [if_neg e]
    rw [e1, pk_un e]; exact hH.2.2 k (by omega)
theorem hm_take {hp : Nat → Int32} {Sz Sz2 : Int32} {a : Nat → Nat} {n k : Nat} (hH : HM hp Sz a n) (hk : k < n) (hS : Sz2.toInt = ((n - 1 : Nat) : Int)) : HM (upd hp k (hp (n - 1))) Sz2 (updA a k (a (n - 1))) (n - 1) := by
  refine ⟨hS, by have := hH.2.1; omega, fun j hj => ?_⟩
  by_cases e : j = k
  · subst e
    have e1 : updA a j (a (n - 1)) j = a (n - 1) := by unfold updA; rw [if_pos rfl]
    rw [e1, pk_us]; exact hH.2.2 (n - 1) (by omega)
  · have e1 : updA a k (a (n - 1)) j = a j := by unfold updA; rw [if_neg e]
    rw [e1, pk_un e]; exact hH.2.2 j (by omega)
theorem up_inj {a : Nat → Nat} {n p : Nat} (hi : ∀ i j : Nat, i < n → j < n → a i = a j → i = j) (hno : ∀ k : Nat, k < n → a k ≠ p) : ∀ i j : Nat, i < n + 1 → j < n + 1 → updA a n p i = updA a n p j → i = j := by
  intro i j h1 h2 e
  unfold updA at e
  by_cases z1 : i = n <;> by_cases z2 : j = n
  · omega
  · rw [if_pos z1, if_neg z2] at e; exact absurd e.symm (hno j (by omega))
  · rw [if_neg z1, if_pos z2] at e; exact absurd e (hno i (by omega))
  · rw [if_neg z1, if_neg z2] at e; exact hi i j (by omega) (by omega) e
theorem tk_inj {a : Nat → Nat} {n k : Nat} (hi : ∀ i j : Nat, i < n → j < n → a i = a j → i = j) (hk : k < n) : ∀ i j : Nat, i < n - 1 → j < n - 1 → updA a k (a (n - 1)) i = updA a k (a (n - 1)) j → i = j := by
  intro i j h1 h2 e
  unfold updA at e
  by_cases y1 : i = k <;> by_cases y2 : j = k
  · omega
  · rw [if_pos y1, if_neg y2] at e; have := hi (n - 1) j (by omega) (by omega) e; omega
  · rw [if_neg y1, if_pos y2] at e; have := hi i (n - 1) (by omega) (by omega) e; omega
  · rw [if_neg y1, if_neg y2] at e; exact hi i j (by omega) (by omega) e
/-- the reference's cells hold the state s -/
def RMx (hp tr : Nat → Int32) (va : Nat → Int64) (sn ve bi : Nat → Int32) (Nw Sz : Int32) (Ex St Tx : Int64) (Cn : Int32) (rt rq rh : Nat → Int32) (rv : Nat → Int64) (rw_ : Nat → Int32) (Dd Kn : Int32) (s : MS) : Prop :=
  MOK tr va sn ve (mL s).1 (mL s).2.1 (mL s).2.2 (mt s) ∧ HM hp Sz (ma s) (mn s) ∧ (∀ p : Nat, p < 24 → (bi p).toInt = mb s p) ∧ Nw.toInt = mt s ∧ Ex = mE s ∧ St = mS s ∧ Tx = mX s ∧ Dd.toInt = mm s ∧ Kn.toInt = mk s ∧ ∃ c : Nat, Cn.toInt = (c : Int) ∧ RK rt rq rh rv rw_ c (mB s) (mO s) (mm s) (mk s)
abbrev MTt : Type := (Nat → Int32) × (Nat → Int32) × (Nat → Int64) × (Nat → Int32) × (Nat → Int32) × (Nat → Int32) × Int32 × Int32 × Int64 × Int64 × Int64 × Int32 × (Nat → Int32) × (Nat → Int32) × (Nat → Int32) × (Nat → Int64) × (Nat → Int32) × Int32 × Int32 × (Nat → Int32) × (Nat → Int64) × Int32 × (Nat → Int32)
def RM (u : MTt) (s : MS) : Prop := RMx u.1 u.2.1 u.2.2.1 u.2.2.2.1 u.2.2.2.2.1 u.2.2.2.2.2.1 u.2.2.2.2.2.2.1 u.2.2.2.2.2.2.2.1 u.2.2.2.2.2.2.2.2.1 u.2.2.2.2.2.2.2.2.2.1 u.2.2.2.2.2.2.2.2.2.2.1 u.2.2.2.2.2.2.2.2.2.2.2.1 u.2.2.2.2.2.2.2.2.2.2.2.2.1 u.2.2.2.2.2.2.2.2.2.2.2.2.2.1 u.2.2.2.2.2.2.2.2.2.2.2.2.2.2.1 u.2.2.2.2.2.2.2.2.2.2.2.2.2.2.2.1 u.2.2.2.2.2.2.2.2.2.2.2.2.2.2.2.2.1 u.2.2.2.2.2.2.2.2.2.2.2.2.2.2.2.2.2.1 u.2.2.2.2.2.2.2.2.2.2.2.2.2.2.2.2.2.2.1 s
