/-! THE SYSTEM: its mathematical state, and what each call answers and does -/
abbrev MS : Type := Int × LinT × (Nat → Nat) × Nat × (Nat → Int) × Int64 × Int64 × Int64 × LinT × (Nat → OpT) × Nat × Int
abbrev mt (s : MS) : Int := s.1
abbrev mL (s : MS) : LinT := s.2.1
abbrev ma (s : MS) : Nat → Nat := s.2.2.1
abbrev mn (s : MS) : Nat := s.2.2.2.1
abbrev mb (s : MS) : Nat → Int := s.2.2.2.2.1
abbrev mE (s : MS) : Int64 := s.2.2.2.2.2.1
abbrev mX (s : MS) : Int64 := s.2.2.2.2.2.2.1
abbrev mS (s : MS) : Int64 := s.2.2.2.2.2.2.2.1
abbrev mB (s : MS) : LinT := s.2.2.2.2.2.2.2.2.1
abbrev mO (s : MS) : Nat → OpT := s.2.2.2.2.2.2.2.2.2.1
abbrev mm (s : MS) : Nat := s.2.2.2.2.2.2.2.2.2.2.1
abbrev mk (s : MS) : Int := s.2.2.2.2.2.2.2.2.2.2.2
/-- the class's numbers: points, heap, history, its beginning, its state, the object's own -/
abbrev LT : Type := (Nat → Int32) × (Nat → Int64) × (Nat → Int32) × Int32
abbrev HT : Type := (Nat → Int32) × (Nat → Int32) × (Nat → Int32) × Int32 × Int64 × Int64
abbrev ST : Type := (Nat → Int32) × (Nat → Int32) × (Nat → Int32) × (Nat → Int64) × (Nat → Int32) × Int32 × Int32 × Int32
abbrev CT : Type := LT × HT × ST × LT × LT × ((Nat → Int32) × Int32 × Int64)
def RLn (q : LT) (L : LinT) : Prop := LOK q.1 q.2.1 q.2.2.1 L.1 L.2.1 L.2.2 ∧ q.2.2.2.toInt = (cntF L.1 24 : Int)
def RH (q : HT) (s : MS) : Prop := HK q.1 q.2.1 q.2.2.2.1 (ma s) (mn s) ∧ q.2.2.2.2.1 = mE s ∧ q.2.2.2.2.2 = mX s
def RS (q : ST) (s : MS) : Prop := OPK q.1 q.2.1 q.2.2.1 q.2.2.2.1 q.2.2.2.2.1 q.2.2.2.2.2.1 (mO s) (mm s) ∧ q.2.2.2.2.2.2.2.toInt = mk s
/-- the class's cells hold the state s -/
def RC (u : CT) (s : MS) : Prop := RLn u.1 (mL s) ∧ RH u.2.1 s ∧ RS u.2.2.1 s ∧ RLn u.2.2.2.1 (mB s) ∧ (∀ p : Nat, p < 24 → (u.2.2.2.2.2.1 p).toInt = mb s p) ∧ u.2.2.2.2.2.2.1.toInt = mt s ∧ u.2.2.2.2.2.2.2 = mS s
/-- what always holds -/
def Inv (s : MS) : Prop := (0 ≤ mt s ∧ mt s ≤ 100000) ∧ mn s ≤ 24 ∧ (∀ k : Nat, k < mn s → ma s k < 24 ∧ (mL s).1 (ma s k) = true) ∧ (∀ i j : Nat, i < mn s → j < mn s → ma s i = ma s j → i = j) ∧ (∀ p : Nat, p < 24 → (mL s).1 p = true → ∃ k : Nat, k < mn s ∧ ma s k = p) ∧ cntF (mL s).1 24 = mn s
  ∧ (∀ p : Nat, p < 24 → (mL s).1 p = true → -1000 ≤ (mL s).2.2 p ∧ (mL s).2.2 p ≤ 1000 ∧ -(1000000 + 1000 * mt s) ≤ (mL s).2.1 p + (mL s).2.2 p * mt s ∧ (mL s).2.1 p + (mL s).2.2 p * mt s ≤ 1000000 + 1000 * mt s)
  ∧ (∀ k : Nat, 1 ≤ k → k < mn s → bef (mL s).2.1 (mL s).2.2 (mt s) (ma s ((k - 1) / 2)) (ma s k))
  ∧ mm s ≤ 200 ∧ (0 ≤ mk s ∧ mk s ≤ mt s) ∧ (∀ i : Nat, i < mm s → mk s ≤ (mO s i).1 ∧ (mO s i).1 ≤ mt s ∧ (mO s i).2.1 < 24) ∧ (∀ i j : Nat, i < j → j < mm s → (mO s i).1 ≤ (mO s j).1)
  ∧ (∀ p : Nat, p < 24 → (rp (mB s) (mO s) (mm s)).1 p = (mL s).1 p ∧ ((mL s).1 p = true → (rp (mB s) (mO s) (mm s)).2.1 p = (mL s).2.1 p ∧ (rp (mB s) (mO s) (mm s)).2.2 p = (mL s).2.2 p))
-- answers
abbrev aINV : Int := -1000000000001
abbrev aNP : Int := -1000000000002
abbrev aLIM : Int := -1000000000003
abbrev aNF : Int := -1000000000004
abbrev okV (x : Int) : Prop := -1000000 ≤ x ∧ x ≤ 1000000
abbrev okW (x : Int) : Prop := -1000 ≤ x ∧ x ≤ 1000
/-- is there a point of that number -/
abbrev isP (L : LinT) (x : Int) : Prop := 0 ≤ x ∧ x < 24 ∧ L.1 x.toNat = true
def tonF (x : Int) : Int := if x = 1000001 then aNF else x
def ponF (x : Int) : Int := if x = -1 then aNF else x
/-- the first number below n that is free, or n -/
def lowF (th : Nat → Bool) : Nat → Nat
  | 0 => 0
  | n + 1 => if lowF th n < n then lowF th n else if th n = false then n else n + 1
/-- the first place below n at which p is, or n -/
def plF (a : Nat → Nat) (p : Nat) : Nat → Nat
  | 0 => 0
  | n + 1 => if plF a p n < n then plF a p n else if a n = p then n else n + 1
def setL (L : LinT) (p : Nat) (y w t : Int) : LinT := (updB L.1 p true, updN L.2.1 p (y - w * t), updN L.2.2 p w)
/-- an operation on p: new points, places; the heap is settled, it is written down -/
def opF (s : MS) (L : LinT) (a : Nat → Nat) (n : Nat) (b : Nat → Int) (p : Nat) : MS :=
  (mt s, L, (stl L.2.1 L.2.2 (mt s) n 276 (a, mE s, mX s)).1, n, b, (stl L.2.1 L.2.2 (mt s) n 276 (a, mE s, mX s)).2.1, (stl L.2.1 L.2.2 (mt s) n 276 (a, mE s, mX s)).2.2, mS s, mB s, updO (mO s) (mm s) (mt s, p, L.1 p, L.2.1 p, L.2.2 p), mm s + 1, mk s)
def valP (s : MS) (p : Nat) : Int := (mL s).2.1 p + (mL s).2.2 p * mt s
def insF (s : MS) (y w : Int) : Int × MS :=
  if ¬ (okV y ∧ okW w) then (aINV, s) else if lowF (mL s).1 24 = 24 ∨ 200 ≤ mm s then (aLIM, s)
  else (lowF (mL s).1 24, opF s (setL (mL s) (lowF (mL s).1 24) y w (mt s)) (updA (ma s) (mn s) (lowF (mL s).1 24)) (mn s + 1) (updN (mb s) (lowF (mL s).1 24) (mt s)) (lowF (mL s).1 24))
def remF (s : MS) (x : Int) : Int × MS :=
  if ¬ isP (mL s) x then (aINV, s) else if 200 ≤ mm s then (aLIM, s)
  else (valP s x.toNat, opF s (updB (mL s).1 x.toNat false, (mL s).2.1, (mL s).2.2) (updA (ma s) (plF (ma s) x.toNat (mn s)) (ma s (mn s - 1))) (mn s - 1) (mb s) x.toNat)
def velF (s : MS) (x w : Int) : Int × MS :=
  if ¬ (isP (mL s) x ∧ okW w) then (aINV, s) else if 200 ≤ mm s then (aLIM, s)
  else ((mL s).2.2 x.toNat, opF s (setL (mL s) x.toNat (valP s x.toNat) w (mt s)) (ma s) (mn s) (mb s) x.toNat)
def jmpF (s : MS) (x y : Int) : Int × MS :=
  if ¬ (isP (mL s) x ∧ okV y) then (aINV, s) else if 200 ≤ mm s then (aLIM, s)
  else (valP s x.toNat, opF s (setL (mL s) x.toNat y ((mL s).2.2 x.toNat) (mt s)) (ma s) (mn s) (mb s) x.toNat)
def ptF (s : MS) (x w : Int) : Int :=
  if ¬ isP (mL s) x then aINV else if w = 0 then valP s x.toNat else if w = 1 then (mL s).2.2 x.toNat else if w = 2 then plF (ma s) x.toNat (mn s) else if w = 3 then mb s x.toNat
  else if w = 4 then rkF (mL s).1 (mL s).2.1 (mL s).2.2 (mt s) x.toNat 24 else aINV
def atF (s : MS) (x : Int) : Int := if x < 0 then aINV else if x < mn s then ma s x.toNat else aNF
def nfS (s : MS) : Int := nfF (mL s).2.1 (mL s).2.2 (mt s) (ma s) (mn s)
/-- a stop at time f -/
def stpF (s : MS) (f : Int) : MS :=
  (f, mL s, (stl (mL s).2.1 (mL s).2.2 f (mn s) 276 (ma s, mE s, mX s)).1, mn s, mb s, (stl (mL s).2.1 (mL s).2.2 f (mn s) 276 (ma s, mE s, mX s)).2.1, (stl (mL s).2.1 (mL s).2.2 f (mn s) 276 (ma s, mE s, mX s)).2.2, mS s + 1, mB s, mO s, mm s, mk s)
def psF (x : Int) : Nat → MS → Nat × MS
  | 0, s => (0, s)
  | f + 1, s => if nfS s ≤ x then ((psF x f (stpF s (nfS s))).1 + 1, (psF x f (stpF s (nfS s))).2) else (0, s)
def setT (s : MS) (x : Int) : MS := (x, s.2)
def pasF (s : MS) (x : Int) : Int × MS := if x < mt s ∨ 100000 < x then (aINV, s) else ((psF x 276 s).1, setT (psF x 276 s).2 x)
def steF (s : MS) : Int × MS := if nfS s ≤ 100000 then (nfS s, stpF s (nfS s)) else (aNF, s)
def couF (s : MS) (w : Int) : Int64 := if w = 0 then mE s else if w = 1 then mS s else if w = 2 then mX s else -1000000000001
def erS (s : MS) (k : Nat) : Int := er (mL s).2.1 (mL s).2.2 (mt s) (ma s) k
def faiF (s : MS) (x : Int) : Int := if 1 ≤ x ∧ x < mn s then tonF (erS s x.toNat) else aINV
/-- the first certificate below n that stands at index x of the calendar, or 0 -/
def ceF (g : Nat → Int) (N : Nat) (x : Int) : Nat → Nat
  | 0 => 0
  | n + 1 => if ceF g N x n ≠ 0 then ceF g N x n else if 1 ≤ n ∧ g n ≠ 1000001 ∧ (etF g n (g n) N : Int) = x then n else 0
def calF (s : MS) (x w : Int) : Int := if x < 0 ∨ w < 0 ∨ 1 < w then aINV else if ceF (erS s) (mn s) x (mn s) = 0 then aNF else if w = 0 then erS s (ceF (erS s) (mn s) x (mn s)) else ceF (erS s) (mn s) x (mn s)
def casF (s : MS) : Int := clF (mL s).2.1 (mL s).2.2 (mt s) (ma s) (mn s)
def topS (s : MS) : Int := tpF (mL s).1 (mL s).2.1 (mL s).2.2 (mt s) 24
def tocF (s : MS) : Int := if mn s = 0 then aNP else tonF (nxF (mL s).1 (mL s).2.1 (mL s).2.2 (mt s) (topS s) 24)
def metF (s : MS) (x y : Int) : Int := if ¬ (isP (mL s) x ∧ isP (mL s) y ∧ x ≠ y) then aINV else if bef (mL s).2.1 (mL s).2.2 (mt s) x.toNat y.toNat then tonF (eoo (mL s).2.1 (mL s).2.2 (mt s) x.toNat y.toNat) else tonF (eoo (mL s).2.1 (mL s).2.2 (mt s) y.toNat x.toNat)
-- other moments
def cO (O : Nat → OpT) (x : Int) : Nat → Nat
  | 0 => 0
  | i + 1 => cO O x i + (if (O i).1 ≤ x then 1 else 0)
def stA (s : MS) (x : Int) : LinT := rp (mB s) (mO s) (cO (mO s) x (mm s))
def momF (s : MS) (x : Int) : Int := if x < 0 ∨ mt s < x then aINV else if mk s ≤ x then 0 else aNP
def topI (s : MS) (x : Int) : Int := tpF (stA s x).1 (stA s x).2.1 (stA s x).2.2 x 24
def toaF (s : MS) (x : Int) : Int := if momF s x = 0 then ponF (topI s x) else momF s x
def vaaF (s : MS) (p x : Int) : Int := if p < 0 ∨ 24 ≤ p then aINV else if momF s x = 0 then (if (stA s x).1 p.toNat = true then (stA s x).2.1 p.toNat + (stA s x).2.2 p.toNat * x else aNF) else momF s x
/-- the first point below n of rank k, or -1 -/
def orF (L : LinT) (x k : Int) : Nat → Int
  | 0 => -1
  | n + 1 => if orF L x k n ≠ -1 then orF L x k n else if L.1 n = true ∧ (rkF L.1 L.2.1 L.2.2 x n 24 : Int) = k then (n : Int) else -1
def oraF (s : MS) (k x : Int) : Int := if k < 0 then aINV else if momF s x = 0 then ponF (orF (stA s x) x k 24) else momF s x
def szaF (s : MS) (x : Int) : Int := if momF s x = 0 then cntF (stA s x).1 24 else momF s x
def spaF (s : MS) (x y b : Int) : Int := if x < b ∨ mt s < x ∨ y < x ∨ mt s < y ∨ 500 < y - x then aINV else momF s (x - b)
def tchF (s : MS) (x : Int) : Nat → Nat
  | 0 => 0
  | j + 1 => tchF s x j + (if topI s (x + j) ≠ topI s (x + j - 1) then 1 else 0)
def tcsF (s : MS) (x y : Int) : Int := if spaF s x y 1 = 0 then tchF s x (y - x + 1).toNat else spaF s x y 1
def lsI (s : MS) (x : Int) : Int := if topI s x = -1 then 1000000000000 else (stA s x).2.1 (topI s x).toNat + (stA s x).2.2 (topI s x).toNat * x
def lbF (s : MS) (x : Int) : Nat → Int
  | 0 => 1000000000000
  | j + 1 => min (lbF s x j) (lsI s (x + j))
def lebF (s : MS) (x y : Int) : Int := if spaF s x y 0 = 0 then (if lbF s x (y - x + 1).toNat = 1000000000000 then aNF else lbF s x (y - x + 1).toNat) else spaF s x y 0
def fogF (s : MS) : Int × MS := (mm s, (mt s, mL s, ma s, mn s, mb s, mE s, mX s, mS s, mL s, mO s, 0, mt s))
-- small facts
theorem low_all {th : Nat → Bool} : ∀ n : Nat, (∀ p : Nat, p < n → th p = true) → lowF th n = n := by
  intro n
  induction n with
  | zero => intro _; rfl
  | succ n ih =>
    intro h0
    have e := ih (fun p hp => h0 p (by omega))
    show (if lowF th n < n then lowF th n else if th n = false then n else n + 1) = n + 1
    rw [e, if_neg (Nat.lt_irrefl n), if_neg (by rw [h0 n (Nat.lt_succ_self n)]; decide)]
theorem low_at {th : Nat → Bool} {p : Nat} (hp : th p = false) (hq : ∀ q : Nat, q < p → th q = true) : ∀ n : Nat, p < n → lowF th n = p := by
  intro n
  induction n with
  | zero => intro h0; exact absurd h0 (Nat.not_lt_zero _)
  | succ n ih =>
    intro h0
    show (if lowF th n < n then lowF th n else if th n = false then n else n + 1) = p
    rcases Nat.lt_or_eq_of_le (Nat.lt_succ_iff.mp h0) with q | q
    · rw [ih q, if_pos q]
    · subst q
      rw [low_all p hq, if_neg (Nat.lt_irrefl p), if_pos hp]
theorem low_spec {th : Nat → Bool} {r : Int} (h0 : (∃ p : Nat, p < 24 ∧ r = (p : Int) ∧ th p = false ∧ ∀ q : Nat, q < p → th q = true) ∨ (r = -1 ∧ ∀ p : Nat, p < 24 → th p = true)) : (r = (lowF th 24 : Int) ∧ lowF th 24 < 24 ∧ th (lowF th 24) = false) ∨ (r = -1 ∧ lowF th 24 = 24) := by
  rcases h0 with ⟨p, h1, h2, h3, h4⟩ | ⟨h1, h2⟩
  · left
    rw [low_at h3 h4 24 h1]
    exact ⟨h2, h1, h3⟩
  · right
    exact ⟨h1, low_all 24 h2⟩
theorem pl_none {a : Nat → Nat} {p : Nat} : ∀ n : Nat, (∀ k : Nat, k < n → a k ≠ p) → plF a p n = n := by
  intro n
  induction n with
  | zero => intro _; rfl
  | succ n ih =>
    intro h0
    show (if plF a p n < n then plF a p n else if a n = p then n else n + 1) = n + 1
    rw [ih (fun k hk => h0 k (by omega)), if_neg (Nat.lt_irrefl n), if_neg (h0 n (Nat.lt_succ_self n))]
theorem pl_at {a : Nat → Nat} {p k : Nat} (hk : a k = p) (hu : ∀ j : Nat, j < k → a j ≠ p) : ∀ n : Nat, k < n → plF a p n = k := by
  intro n
  induction n with
  | zero => intro h0; exact absurd h0 (Nat.not_lt_zero _)
  | succ n ih =>
    intro h0
    show (if plF a p n < n then plF a p n else if a n = p then n else n + 1) = k
    rcases Nat.lt_or_eq_of_le (Nat.lt_succ_iff.mp h0) with q | q
    · rw [ih q, if_pos q]
    · subst q
      rw [pl_none k hu, if_neg (Nat.lt_irrefl k), if_pos hk]
theorem cnt_lt {th : Nat → Bool} {p : Nat} (hp : th p = false) : ∀ n : Nat, p < n → cntF th n < n := by
  intro n
  induction n with
  | zero => intro h0; exact absurd h0 (Nat.not_lt_zero _)
  | succ n ih =>
    intro h0
    have hl := cnt_le th n
    show cntF th n + (if th n = true then 1 else 0) < n + 1
    rcases Nat.lt_or_eq_of_le (Nat.lt_succ_iff.mp h0) with q | q
    · have := ih q
      split <;> omega
    · subst q
      rw [if_neg (by rw [hp]; decide)]; omega
/-- a point's place in the heap -/
theorem inv_pl {s : MS} (hI : Inv s) {p : Nat} (hp : p < 24) (ht : (mL s).1 p = true) : plF (ma s) p (mn s) < mn s ∧ ma s (plF (ma s) p (mn s)) = p := by
  obtain ⟨k, hk, hak⟩ := hI.2.2.2.2.1 p hp ht
  have e : plF (ma s) p (mn s) = k := pl_at hak (fun j hj q => by have := hI.2.2.2.1 j k (by omega) hk (q.trans hak.symm); omega) (mn s) hk
  rw [e]; exact ⟨hk, hak⟩
theorem inv_h {s : MS} (hI : Inv s) {p : Nat} (hp : p < 24) (ht : (mL s).1 p = true) : -101000000 ≤ valP s p ∧ valP s p ≤ 101000000 ∧ -1000 ≤ (mL s).2.2 p ∧ (mL s).2.2 p ≤ 1000 := by
  have h1 := hI.2.2.2.2.2.2.1 p hp ht
  have h2 := hI.1
  unfold valP
  omega
theorem ht_app {th : Nat → Bool} {a : Nat → Nat} {n p : Nat} (hT : ∀ k : Nat, k < n → th (a k) = true) : ∀ k : Nat, k < n + 1 → updB th p true (updA a n p k) = true := by
  intro k hk
  by_cases e : k = n
  · simp [updB, updA, e]
  · have := hT k (by omega)
    by_cases e2 : a k = p
    · simp [updB, updA, e, e2]
    · simp [updB, updA, e, e2, this]
theorem ht_take {th : Nat → Bool} {a : Nat → Nat} {n p k : Nat} (hT : ∀ j : Nat, j < n → th (a j) = true) (hi : ∀ i j : Nat, i < n → j < n → a i = a j → i = j) (hk : k < n) (hak : a k = p) : ∀ j : Nat, j < n - 1 → updB th p false (updA a k (a (n - 1)) j) = true := by
  intro j hj
  by_cases e : j = k
  · subst e
    have e1 : updA a j (a (n - 1)) j = a (n - 1) := by simp [updA]
    have e2 : a (n - 1) ≠ p := fun q => by have := hi (n - 1) j (by omega) hk (q.trans hak.symm); omega
    rw [e1]; simp [updB, e2, hT (n - 1) (by omega)]
  · have e1 : updA a k (a (n - 1)) j = a j := by simp [updA, e]
    have e2 : a j ≠ p := fun q => e (hi j k (by omega) hk (q.trans hak.symm))
    rw [e1]; simp [updB, e2, hT j (by omega)]
theorem ht_set {th : Nat → Bool} {a : Nat → Nat} {n p : Nat} (hT : ∀ k : Nat, k < n → th (a k) = true) : ∀ k : Nat, k < n → updB th p true (a k) = true := by
  intro k hk
  by_cases e2 : a k = p
  · simp [updB, e2]
  · simp [updB, e2, hT k hk]
theorem bi_set {BI : Nat → Int32} {bi : Nat → Int} {p : Nat} {x : Int32} {t : Int} (hB : ∀ q : Nat, q < 24 → (BI q).toInt = bi q) (hx : x.toInt = t) : ∀ q : Nat, q < 24 → (upd BI p x q).toInt = updN bi p t q := by
  intro q hq
  by_cases e : q = p
  · subst e; rw [pk_us]; simp [updN, hx]
  · rw [pk_un e]; simp [updN, e, hB q hq]
