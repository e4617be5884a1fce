/-! THE PURE PART. Arithmetic of the machine within bounds. -/
theorem w32 {x : Int} (h1 : -2147483648 ≤ x) (h2 : x < 2147483648) : (Int32.ofInt x).toInt = x := (g32_iff x).mpr ⟨h1, h2⟩
theorem w64 {x : Int} (h1 : -9223372036854775808 ≤ x) (h2 : x < 9223372036854775808) : (Int64.ofInt x).toInt = x := (g64_iff x).mpr ⟨h1, h2⟩
theorem o_add_eq {x y : Int} (h1 : -2147483648 ≤ x + y) (h2 : x + y < 2147483648) : o_add x y = x + y := by
  unfold o_add; rw [← Int32.ofInt_add]; exact w32 h1 h2
theorem o_sub_eq {x y : Int} (h1 : -2147483648 ≤ x - y) (h2 : x - y < 2147483648) : o_sub x y = x - y := by
  unfold o_sub; rw [← Int32.ofInt_sub]; exact w32 h1 h2
theorem o_mul_eq {x y : Int} (h1 : -2147483648 ≤ x * y) (h2 : x * y < 2147483648) : o_mul x y = x * y := by
  unfold o_mul; rw [← Int32.ofInt_mul]; exact w32 h1 h2
theorem l_add_eq {x y : Int} (h1 : -9223372036854775808 ≤ x + y) (h2 : x + y < 9223372036854775808) : l_add x y = x + y := by
  unfold l_add; rw [← Int64.ofInt_add]; exact w64 h1 h2
theorem l_sub_eq {x y : Int} (h1 : -9223372036854775808 ≤ x - y) (h2 : x - y < 9223372036854775808) : l_sub x y = x - y := by
  unfold l_sub; rw [← Int64.ofInt_sub]; exact w64 h1 h2
theorem l_mul_eq {x y : Int} (h1 : -9223372036854775808 ≤ x * y) (h2 : x * y < 9223372036854775808) : l_mul x y = x * y := by
  unfold l_mul; rw [← Int64.ofInt_mul]; exact w64 h1 h2
theorem l_cmp_eq (x y : Int) : l_cmp x y = 0 ↔ x = y := by
  unfold l_cmp
  split
  · constructor <;> intro h <;> omega
  · split
    · simp_all
    · constructor
      · intro h; omega
      · intro h; contradiction
theorem l_cmp_lt (x y : Int) : l_cmp x y < 0 ↔ x < y := by
  unfold l_cmp
  split
  · constructor <;> intro h <;> omega
  · split
    · constructor <;> intro h <;> omega
    · constructor <;> intro h <;> omega
theorem l_cmp_le (x y : Int) : l_cmp x y ≤ 0 ↔ x ≤ y := by
  unfold l_cmp
  split
  · constructor <;> intro h <;> omega
  · split
    · constructor <;> intro h <;> omega
    · constructor <;> intro h <;> omega
theorem l_cmp_gt (x y : Int) : 0 < l_cmp x y ↔ y < x := by
  unfold l_cmp
  split
  · constructor <;> intro h <;> omega
  · split
    · constructor <;> intro h <;> omega
    · constructor <;> intro h <;> omega
theorem l_cmp_ge (x y : Int) : 0 ≤ l_cmp x y ↔ y ≤ x := by
  unfold l_cmp
  split
  · constructor <;> intro h <;> omega
  · split
    · constructor <;> intro h <;> omega
    · constructor <;> intro h <;> omega
theorem o_min_eq (x y : Int) : o_min x y = min x y := by unfold o_min; split <;> omega
theorem o_max_eq (x y : Int) : o_max x y = max x y := by unfold o_max; split <;> omega
theorem o_div_eq {x y : Int} (hx : 0 ≤ x) (hx2 : x < 2147483648) (hy : 0 < y) (hy2 : y < 2147483648) : o_div x y = x / y := by
  unfold o_div
  rw [Int32.toInt_div, w32 (by omega) hx2, w32 (by omega) hy2, Int.tdiv_eq_ediv_of_nonneg hx]
  have h1 : 0 ≤ x / y := Int.ediv_nonneg hx (by omega)
  have h2 : x / y ≤ x := Int.ediv_le_self _ hx
  exact Int.bmod_eq_of_le (by simp; omega) (by simp; omega)
theorem o_rem_eq {x y : Int} (hx : 0 ≤ x) (hx2 : x < 2147483648) (hy : 0 < y) (hy2 : y < 2147483648) : o_rem x y = x % y := by
  have hd := o_div_eq hx hx2 hy hy2
  have h1 : 0 ≤ x / y := Int.ediv_nonneg hx (by omega)
  have h2 : x / y ≤ x := Int.ediv_le_self _ hx
  have h3 : x / y * y + x % y = x := Int.ediv_mul_add_emod x y
  have h4 : 0 ≤ x % y := Int.emod_nonneg _ (by omega)
  have h5 : x % y < y := Int.emod_lt_of_pos _ hy
  have e1 : Int32.ofInt x / Int32.ofInt y = Int32.ofInt (x / y) := by
    apply Int32.toInt_inj.mp
    rw [w32 (x := x / y) (by omega) (by omega)]
    exact hd
  unfold o_rem
  rw [e1, ← Int32.ofInt_mul, ← Int32.ofInt_sub]
  have e2 : x - x / y * y = x % y := by omega
  rw [e2]
  exact w32 (by omega) (by omega)
-- memory
theorem am_upd_self (M : AM) (q j : Nat) (x : Int) : am_upd M q j x q j = x := by simp [am_upd, am_row]
theorem am_upd_ne {M : AM} {q j a b : Nat} {x : Int} (h : ¬ (a = q ∧ b = j)) : am_upd M q j x a b = M a b := by
  unfold am_upd am_row
  by_cases h1 : a = q
  · subst h1
    have : ¬ b = j := fun e => h ⟨rfl, e⟩
    simp [this]
  · simp [h1]
theorem am_upd_eq (M : AM) (q j : Nat) (x : Int) (a b : Nat) : am_upd M q j x a b = if a = q ∧ b = j then x else M a b := by
  by_cases h : a = q ∧ b = j
  · rw [if_pos h]; obtain ⟨rfl, rfl⟩ := h; exact am_upd_self _ _ _ _
  · rw [if_neg h]; exact am_upd_ne h
theorem am_upd_cell {M : AM} {q j a : Nat} {x : Int} (h : a ≠ q) : am_upd M q j x a = M a := by simp [am_upd, am_row, h]
theorem am_row_self (M : AM) (q : Nat) (f : Nat → Int) : am_row M q f q = f := by simp [am_row]
theorem am_row_ne {M : AM} {q a : Nat} {f : Nat → Int} (h : a ≠ q) : am_row M q f a = M a := by simp [am_row, h]
theorem zlet_eq {α β : Type} (a : α) (f : α → β) : zlet a f = f a := rfl
theorem bind_s {α β : Type} (a : α) (f : α → Option β) : (some a).bind f = f a := rfl
-- bits of small numbers
theorem i32_nat (a : Nat) : (Int32.ofInt (a : Int)).toBitVec = BitVec.ofNat 32 a := by
  rw [Int32.toBitVec_ofInt, BitVec.ofInt_natCast]
theorem o_and_nat {a b : Nat} (ha : a < 2147483648) (hb : b < 2147483648) : o_and (a : Int) (b : Int) = ((a &&& b : Nat) : Int) := by
  have hab : a &&& b ≤ a := Nat.and_le_left
  have e : Int32.ofInt (a : Int) &&& Int32.ofInt (b : Int) = Int32.ofInt ((a &&& b : Nat) : Int) := by
    apply Int32.toBitVec_inj.mp
    rw [Int32.toBitVec_and, i32_nat, i32_nat, i32_nat, BitVec.ofNat_and]
  unfold o_and
  rw [e]
  exact w32 (by omega) (by omega)
theorem o_or_nat {a b : Nat} (ha : a < 2147483648) (hb : b < 2147483648) : o_or (a : Int) (b : Int) = ((a ||| b : Nat) : Int) := by
  have hab : a ||| b < 2147483648 := Nat.or_lt_two_pow (n := 31) ha hb
  have e : Int32.ofInt (a : Int) ||| Int32.ofInt (b : Int) = Int32.ofInt ((a ||| b : Nat) : Int) := by
    apply Int32.toBitVec_inj.mp
    rw [Int32.toBitVec_or, i32_nat, i32_nat, i32_nat, BitVec.ofNat_or]
  unfold o_or
  rw [e]
  exact w32 (by omega) (by omega)
theorem o_andn_nat {a b : Nat} (ha : a < 2147483648) (hb : b < 2147483648) : o_and (a : Int) (o_xor (b : Int) (-1)) = ((a ^^^ (a &&& b) : Nat) : Int) := by
  have hle : a ^^^ (a &&& b) < 2147483648 := Nat.xor_lt_two_pow (n := 31) ha (Nat.lt_of_le_of_lt Nat.and_le_left ha)
  have e0 : (Int32.ofInt (-1)).toBitVec = BitVec.allOnes 32 := by decide
  have e : Int32.ofInt (a : Int) &&& (Int32.ofInt (b : Int) ^^^ Int32.ofInt (-1)) = Int32.ofInt ((a ^^^ (a &&& b) : Nat) : Int) := by
    apply Int32.toBitVec_inj.mp
    rw [Int32.toBitVec_and, Int32.toBitVec_xor, i32_nat, i32_nat, i32_nat, e0]
    apply BitVec.eq_of_getLsbD_eq
    intro i hi
    simp only [BitVec.getLsbD_and, BitVec.getLsbD_xor, BitVec.getLsbD_ofNat, BitVec.getLsbD_allOnes, hi, decide_true, Bool.true_and, Nat.testBit_xor, Nat.testBit_and]
    cases a.testBit i <;> cases b.testBit i <;> rfl
  unfold o_and o_xor
  rw [Int32.ofInt_toInt, e]
  exact w32 (by omega) (by omega)
theorem o_shl_one : ∀ w : Fin 31, o_shl 1 (w.val : Int) = ((2 ^ w.val : Nat) : Int) := by decide +kernel
theorem o_shl_one' {w : Nat} (h : w < 31) : o_shl 1 (w : Int) = ((2 ^ w : Nat) : Int) := o_shl_one ⟨w, h⟩
theorem o_bit0 : ∀ b : Fin 1024, ∀ w : Fin 10, o_and (o_shr (b.val : Int) (w.val : Int)) 1 = if b.val.testBit w.val then 1 else 0 := by decide +kernel
theorem o_bit {b w : Nat} (hb : b < 1024) (hw : w < 10) : o_and (o_shr (b : Int) (w : Int)) 1 = if b.testBit w then 1 else 0 := o_bit0 ⟨b, hb⟩ ⟨w, hw⟩
