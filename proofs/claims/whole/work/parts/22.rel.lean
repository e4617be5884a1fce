/-! THE RELATION between the class's cells and the model's. c: the model's row of numbers of one block (83 numbers of the HOUSE, then the YEARS). -/
/-- a set as a number: bit w is 1 where f w is 1 -/
def bits (B : Int) (n : Nat) (f : Nat → Int) : Prop := ∃ b : Nat, B = (b : Int) ∧ b < 2 ^ n ∧ ∀ w, w < n → (b.testBit w = true ↔ f w = 1)
def blk (r : Nat → Int) (b : Nat) : Nat → Int := fun k => if k < 355 then r (355 * b + k) else 0
theorem blk_at {r : Nat → Int} {b k : Nat} (h : k < 355) : blk r b k = r (355 * b + k) := by simp [blk, h]
theorem blk0_at {r : Nat → Int} {k : Nat} (h : k < 355) : blk r 0 k = r k := by simp [blk, h]
theorem blk_eq {r r2 : Nat → Int} {b : Nat} (h : ∀ k, k < 355 → r2 (355 * b + k) = r (355 * b + k)) : blk r2 b = blk r b := by
  funext k
  by_cases hk : k < 355
  · simp [blk, hk, h k hk]
  · simp [blk, hk]
/-- lengths between rooms: a matrix -/
abbrev MX : Type := Nat → Nat → Int
def mx0 : MX := fun p q => if p = q then 0 else 1000
def mxs (D : MX) (p q : Nat) (x : Int) : MX := fun a b => if a = p ∧ b = q then x else D a b
/-- a wire from o to t, as long as l, whole or not -/
def mxw (D : MX) (o t : Nat) (l : Int) : MX := mxs (mxs D o t (min (D o t) l)) t o (min (D o t) l)
def mxwire (c : Nat → Int) (D : MX) (w : Nat) : MX := if c (37 + w) = 0 then D else mxw D (c (7 + w)).toNat (c (17 + w)).toNat (1 + c (27 + w))
def mx1 (c : Nat → Int) : MX := (List.range (c 1).toNat).foldl (mxwire c) mx0
def fwq (m p : Nat) (D : MX) (q : Nat) : MX := mxs D p q (min (D p q) (D p m + D m q))
def fwp (n m : Nat) (D : MX) (p : Nat) : MX := (List.range n).foldl (fwq m p) D
def fwm (n : Nat) (D : MX) (m : Nat) : MX := (List.range n).foldl (fwp n m) D
/-- FAR -/
def fD (c : Nat → Int) : MX := (List.range (c 0).toNat).foldl (fwm (c 0).toNat) (mx1 c)
/-- what always holds of a HOUSE -/
def Ic (c : Nat → Int) : Prop :=
  (0 ≤ c 0 ∧ c 0 ≤ 8) ∧ (0 ≤ c 1 ∧ c 1 ≤ 10) ∧ (0 ≤ c 2 ∧ c 2 ≤ 6) ∧ (1 ≤ c 3 ∧ c 3 ≤ 99) ∧ (0 ≤ c 4 ∧ c 4 ≤ 16) ∧ (0 ≤ c 5 ∧ c 5 ≤ 20000) ∧ (c 6 = 0 ∨ c 6 = 1) ∧
  (∀ w : Nat, (w : Int) < c 1 → (0 ≤ c (7 + w) ∧ c (7 + w) < c 0) ∧ (0 ≤ c (17 + w) ∧ c (17 + w) < c 0) ∧ (0 ≤ c (27 + w) ∧ c (27 + w) ≤ 9) ∧ (c (37 + w) = 0 ∨ c (37 + w) = 1)) ∧
  (∀ k : Nat, (k : Int) < c 2 → (0 ≤ c (47 + k) ∧ c (47 + k) < c 0) ∧ (0 ≤ c (53 + k) ∧ c (53 + k) < c 0) ∧ (0 ≤ c (59 + k) ∧ c (59 + k) ≤ 9) ∧ (c (65 + k) = 0 ∨ c (65 + k) = 1) ∧ (c (65 + k) = 1 → 1 ≤ c (59 + k)) ∧ (0 ≤ c (71 + k) ∧ c (71 + k) ≤ c 5) ∧ (0 ≤ c (77 + k) ∧ c (77 + k) ≤ c 5))
/-- the class's House at cell q holds the HOUSE c -/
def Rh (c : Nat → Int) (q : Nat) (M : AM) : Prop :=
  (M q 0 = c 3 ∧ M q 1 = c 4 ∧ M q 2 = c 0 ∧ M q 3 = c 1 ∧ M q 4 = c 2 ∧ M q 5 = c 5 ∧ M q 6 = c 6) ∧
  (∀ w : Nat, (w : Int) < c 1 → M (q + 1) w = c (7 + w) ∧ M (q + 2) w = c (17 + w) ∧ M (q + 3) w = c (27 + w)) ∧
  (∀ k : Nat, (k : Int) < c 2 → M (q + 4) k = c (47 + k) ∧ M (q + 5) k = c (53 + k) ∧ M (q + 6) k = c (59 + k) ∧ M (q + 7) k = c (71 + k) ∧ M (q + 8) k = c (77 + k)) ∧
  bits (M q 7) (c 1).toNat (fun w => c (37 + w)) ∧ bits (M q 8) (c 2).toNat (fun k => c (65 + k)) ∧
  (M q 19 = 0 ∨ M q 19 = 1 ∧ ∀ a b : Nat, (a : Int) < c 0 → (b : Int) < c 0 → M (q + 10) (8 * a + b) = fD c a b)
/-- the NAMES of rooms, wires, couples; n: the model's words of that block -/
def Rn (c n : Nat → Int) (q : Nat) (M : AM) : Prop :=
  (∀ i : Nat, (i : Int) < c 0 → M (q + 9) i = n i) ∧ (∀ i : Nat, (i : Int) < c 1 → M (q + 9) (8 + i) = n (8 + i)) ∧ (∀ i : Nat, (i : Int) < c 2 → M (q + 9) (18 + i) = n (18 + i)) ∧ (∀ i : Nat, c 1 ≤ (i : Int) → i < 10 → M (q + 9) (8 + i) = 0)
/-- the kind of a STEP as the class has it -/
def ykind (k : Int) : Int := if k = 0 then 11 else if k = 1 then 12 else if k = 2 then 13 else if k = 3 then 14 else if k = 4 then 15 else if k = 5 then 16 else if k = 6 then 17 else if k = 7 then 20 else 22
def ytest (k : Int) : Int := if k = 0 then 18 else if k = 1 then 10 else 19
/-- STEP s of the model, row r of the class's Years at cell q -/
def ystep (c : Nat → Int) (q : Nat) (M : AM) (s r : Nat) : Prop :=
  0 ≤ c (85 + 9 * s) ∧ c (85 + 9 * s) ≤ 8 ∧ M (q + 1) r = ykind (c (85 + 9 * s)) ∧
  (c (85 + 9 * s) = 0 → M (q + 5) r = c (86 + 9 * s) ∧ 1 ≤ c (86 + 9 * s) ∧ c (86 + 9 * s) ≤ 40) ∧
  (c (85 + 9 * s) = 7 → M (q + 5) r = c (86 + 9 * s) ∧ 1 ≤ c (86 + 9 * s) ∧ c (86 + 9 * s) ≤ 99) ∧
  (c (85 + 9 * s) = 3 ∨ c (85 + 9 * s) = 4 → M (q + 3) r = c (86 + 9 * s) ∧ 0 ≤ c (86 + 9 * s) ∧ c (86 + 9 * s) < c 1) ∧
  (c (85 + 9 * s) = 6 → M (q + 3) r = c (86 + 9 * s) ∧ 0 ≤ c (86 + 9 * s) ∧ c (86 + 9 * s) < c 2 ∧ 0 ≤ c (90 + 9 * s) ∧ c (90 + 9 * s) ≤ 2 ∧ M (q + 2) r = ytest (c (90 + 9 * s)) ∧
    (c (90 + 9 * s) = 1 → M (q + 4) r = c (92 + 9 * s) ∧ M (q + 5) r = c (91 + 9 * s) ∧ 0 ≤ c (91 + 9 * s) ∧ c (91 + 9 * s) ≤ 9))
/-- STEPS s .. e are rows r .. r2, d deep at most -/
def yseq (c : Nat → Int) (q : Nat) (M : AM) : Nat → Nat → Nat → Nat → Nat → Nat → Prop
  | 0, _, s, e, r, r2 => s = e ∧ r = r2
  | n + 1, d, s, e, r, r2 => (s = e ∧ r = r2) ∨ (s < e ∧ ystep c q M s r ∧
      ((¬ (c (85 + 9 * s) = 6 ∨ c (85 + 9 * s) = 7) ∧ c (93 + 9 * s) = ((s + 1 : Nat) : Int) ∧ yseq c q M n d (s + 1) e (r + 1) r2) ∨
       ((c (85 + 9 * s) = 6 ∨ c (85 + 9 * s) = 7) ∧ ∃ (d' t m : Nat), d = d' + 1 ∧ c (93 + 9 * s) = (t : Int) ∧ t ≤ e ∧ s < t ∧ yseq c q M n d' (s + 1) t (r + 1) m ∧ M (q + 1) m = 21 ∧ M (q + 6) m = (r : Int) ∧ M (q + 6) r = (m : Int) ∧ yseq c q M n d t e (m + 1) r2)))
/-- the YEARS -/
def Ry (c : Nat → Int) (q : Nat) (M : AM) : Prop :=
  (c 83 = 0 ∧ M q 0 = 0) ∨ (c 83 = 1 ∧ M q 0 = 1 ∧ M q 1 = c 84 ∧ ∃ n r : Nat, c 84 = (n : Int) ∧ n ≤ 30 ∧ M q 2 = (r : Int) ∧ r ≤ 60 ∧ yseq c q M 31 3 0 n 0 r)
/-- the trays -/
def Rt (M : AM) : Prop := ∀ t : Nat, t < 4 →
  (M (74 + 2 * t) 1 = 0 ∧ M 2 t = -1) ∨ (M (74 + 2 * t) 1 = 1 ∧ M (74 + 2 * t) 2 = M 1 t ∧ M (74 + 2 * t) 3 = M 2 t ∧ 0 ≤ M 2 t ∧ M 2 t ≤ 60 ∧ 0 ≤ M 1 t ∧ M 1 t ≤ 3 ∧ ∀ k : Nat, (k : Int) < M 2 t → M (75 + 2 * t) k = M 3 (60 * t + k))
/-- the tape -/
def Rp (M : AM) : Prop := M 20 7 = M 0 8 ∧ 0 ≤ M 0 8 ∧ M 0 8 ≤ 900 ∧ ∀ k : Nat, (k : Int) < M 0 8 → M 21 k = M 4 k ∧ -128 ≤ M 4 k ∧ M 4 k ≤ 127
/-- the words that are kept -/
def kwl : List Int := [16 * 32 ^ 4 + 15 * 32 ^ 3 + 23 * 32 ^ 2 + 5 * 32 + 18, 15 * 32 ^ 3 + 4 * 32 ^ 2 + 4 * 32 + 19, 18 * 32 ^ 3 + 15 * 32 ^ 2 + 15 * 32 + 13, 23 * 32 ^ 3 + 9 * 32 ^ 2 + 18 * 32 + 5, 6 * 32 ^ 3 + 18 * 32 ^ 2 + 15 * 32 + 13, 20 * 32 + 15, 19 * 32 ^ 4 + 12 * 32 ^ 3 + 1 * 32 ^ 2 + 3 * 32 + 11, 3 * 32 ^ 5 + 15 * 32 ^ 4 + 21 * 32 ^ 3 + 16 * 32 ^ 2 + 12 * 32 + 5, 8 * 32 + 5, 19 * 32 ^ 2 + 8 * 32 + 5, 12 * 32 ^ 3 + 15 * 32 ^ 2 + 22 * 32 + 5, 4 * 32 ^ 2 + 1 * 32 + 25, 4 * 32 ^ 3 + 1 * 32 ^ 2 + 13 * 32 + 16, 4 * 32 ^ 2 + 18 * 32 + 25, 13 * 32 ^ 3 + 5 * 32 ^ 2 + 14 * 32 + 4, 3 * 32 ^ 2 + 21 * 32 + 20, 1 * 32 ^ 2 + 14 * 32 + 25, 23 * 32 ^ 3 + 8 * 32 ^ 2 + 5 * 32 + 14, 18 * 32 ^ 3 + 21 * 32 ^ 2 + 14 * 32 + 7, 16 * 32 ^ 5 + 1 * 32 ^ 4 + 18 * 32 ^ 3 + 20 * 32 ^ 2 + 5 * 32 + 4, 12 * 32 ^ 3 + 15 * 32 ^ 2 + 15 * 32 + 16, 5 * 32 ^ 2 + 14 * 32 + 4, 19 * 32 ^ 3 + 20 * 32 ^ 2 + 15 * 32 + 16]
def Rk (M : AM) : Prop := ∀ i : Nat, i < 23 → M 22 i = kwl.getD i 0
/-- a HOUSE with its NAMES and YEARS: block b of the model, House at q, Years at y -/
def Rb (b q y : Nat) (M : AM) : Prop := Ic (blk (M 5) b) ∧ blk (M 5) b 5 ≤ 9999 ∧ Rh (blk (M 5) b) q M ∧ Rn (blk (M 5) b) (fun i => M 8 (24 * b + i)) q M ∧ Ry (blk (M 5) b) y M
/-- marks -/
def Rm (M : AM) : Prop := ∃ n : Nat, n ≤ 3 ∧ M 15 13 = (n : Int) ∧ M 0 24 = (n : Int) ∧ ∀ i : Nat, i < n → Rb (i + 1) (82 + 19 * i) (93 + 19 * i) M
/-- what live() told -/
def Rl (M : AM) : Prop := M 15 19 = M 0 34 ∧ (M 0 34 = 0 ∨ M 0 34 = 1) ∧ ∀ i : Nat, i < 5 → M 19 i = M 14 i
/-- THE RELATION -/
def RR (M : AM) : Prop := M 15 0 = M 0 0 ∧ (M 15 1 = M 0 2 ∧ M 15 2 = M 0 3) ∧ (M 15 4 = M 0 10 ∧ M 15 5 = M 0 11) ∧ Rt M ∧ Rp M ∧ Rk M ∧ Rb 0 23 45 M ∧ Rm M ∧ Rl M
