/-! THE ABSTRACT MACHINE. Values: ints and longs by their numbers, references by the number of their cell with its kind and length. The memory holds numbers alone: references stay as the constructors laid them. -/
abbrev AV : Type := Int ⊕ (Int ⊕ (Nat × Nat × Nat))
abbrev vI (x : Int) : AV := .inl x
abbrev vL (x : Int) : AV := .inr (.inl x)
abbrev vR (q k n : Nat) : AV := .inr (.inr (q, k, n))
abbrev AM : Type := Nat → Nat → Int
def am_row (M : AM) (q : Nat) (f : Nat → Int) : AM := fun a => if a = q then f else M a
def am_upd (M : AM) (q j : Nat) (x : Int) : AM := am_row M q (fun b => if b = j then x else M q b)
def g32 (x : Int) : Prop := (Int32.ofInt x).toInt = x
def g64 (x : Int) : Prop := (Int64.ofInt x).toInt = x
-- the machine's arithmetic on numbers
def o_add (x y : Int) : Int := (Int32.ofInt x + Int32.ofInt y).toInt
def o_sub (x y : Int) : Int := (Int32.ofInt x - Int32.ofInt y).toInt
def o_mul (x y : Int) : Int := (Int32.ofInt x * Int32.ofInt y).toInt
def o_div (x y : Int) : Int := (Int32.ofInt x / Int32.ofInt y).toInt
def o_rem (x y : Int) : Int := (Int32.ofInt x - Int32.ofInt x / Int32.ofInt y * Int32.ofInt y).toInt
def o_and (x y : Int) : Int := (Int32.ofInt x &&& Int32.ofInt y).toInt
def o_or (x y : Int) : Int := (Int32.ofInt x ||| Int32.ofInt y).toInt
def o_xor (x y : Int) : Int := (Int32.ofInt x ^^^ Int32.ofInt y).toInt
def o_shl (x y : Int) : Int := (Int32.ofInt x <<< (Int32.ofInt y &&& 31)).toInt
def o_shr (x y : Int) : Int := (Int32.ofInt x >>> (Int32.ofInt y &&& 31)).toInt
def o_ushr (x y : Int) : Int := ((Int32.ofInt x).toUInt32 >>> ((Int32.ofInt y).toUInt32 &&& Int32.toUInt32 31)).toInt32.toInt
def o_i2b (x : Int) : Int := (Int32.ofInt x).toInt8.toInt32.toInt
def o_i2s (x : Int) : Int := (Int32.ofInt x).toInt16.toInt32.toInt
def o_l2i (x : Int) : Int := (Int64.ofInt x).toInt32.toInt
def l_add (x y : Int) : Int := (Int64.ofInt x + Int64.ofInt y).toInt
def l_sub (x y : Int) : Int := (Int64.ofInt x - Int64.ofInt y).toInt
def l_mul (x y : Int) : Int := (Int64.ofInt x * Int64.ofInt y).toInt
def l_div (x y : Int) : Int := (Int64.ofInt x / Int64.ofInt y).toInt
def l_rem (x y : Int) : Int := (Int64.ofInt x - Int64.ofInt x / Int64.ofInt y * Int64.ofInt y).toInt
def l_and (x y : Int) : Int := (Int64.ofInt x &&& Int64.ofInt y).toInt
def l_or (x y : Int) : Int := (Int64.ofInt x ||| Int64.ofInt y).toInt
def l_shl (x y : Int) : Int := (Int64.ofInt x <<< ((Int32.ofInt y).toInt64 &&& 63)).toInt
def l_cmp (x y : Int) : Int := if y < x then 1 else if x = y then 0 else -1
def cp_row (f g : Nat → Int) (sp dp n : Nat) : Nat → Int := fun k => if dp ≤ k ∧ k < dp + n then f (sp + (k - dp)) else g k

/-- the fields of the classes: sort (0 int, 1 long, 2 reference, 3 boolean), and of a reference how far its cell lies behind, that one's kind and length -/
def zft (ci : Nat) : List (Nat × Nat × Nat × Nat) := match ci with
  | 0 => [(2, 1, 0, 6)]
  | 1 => [(0, 0, 0, 0), (0, 0, 0, 0), (0, 0, 0, 0), (0, 0, 0, 0), (0, 0, 0, 0), (0, 0, 0, 0), (3, 0, 0, 0), (0, 0, 0, 0), (0, 0, 0, 0), (2, 1, 0, 10), (2, 2, 0, 10), (2, 3, 0, 10), (2, 4, 0, 6), (2, 5, 0, 6), (2, 6, 0, 6), (2, 7, 0, 6), (2, 8, 0, 6), (2, 9, 1, 24), (2, 10, 0, 64), (3, 0, 0, 0)]
  | 2 => []
  | 3 => [(0, 0, 0, 0), (2, 1, 0, 5), (2, 2, 0, 60), (2, 3, 10, 0), (0, 0, 0, 0)]
  | 4 => [(2, 1, 0, 6), (2, 2, 0, 6), (2, 3, 0, 6)]
  | 5 => [(0, 0, 0, 0), (0, 0, 0, 0), (1, 0, 0, 0), (0, 0, 0, 0), (0, 0, 0, 0), (0, 0, 0, 0), (0, 0, 0, 0), (0, 0, 0, 0), (0, 0, 0, 0), (2, 1, 2, 900), (0, 0, 0, 0), (0, 0, 0, 0), (2, 2, 1, 23)]
  | 6 => [(2, 1, 1, 60), (3, 0, 0, 0), (0, 0, 0, 0), (0, 0, 0, 0)]
  | 7 => [(2, 1, 0, 8), (0, 0, 0, 0), (0, 0, 0, 0)]
  | 8 => [(3, 0, 0, 0), (0, 0, 0, 0), (0, 0, 0, 0), (2, 1, 0, 60), (2, 2, 0, 60), (2, 3, 0, 60), (2, 4, 0, 60), (2, 5, 0, 60), (2, 6, 0, 60), (2, 7, 0, 3), (0, 0, 0, 0)]
  | 9 => []
  | 10 => [(0, 0, 0, 0), (1, 0, 0, 0), (1, 0, 0, 0), (2, 1, 3, 4), (0, 0, 0, 0), (0, 0, 0, 0), (2, 5, 15, 0), (2, 8, 11, 0), (2, 19, 11, 0), (2, 30, 18, 0), (2, 38, 18, 0), (2, 2, 4, 3), (2, 3, 5, 3), (0, 0, 0, 0), (2, 46, 10, 0), (2, 48, 17, 0), (2, 50, 14, 0), (2, 54, 13, 0), (2, 4, 0, 5), (3, 0, 0, 0)]
  | 11 => [(0, 0, 0, 0), (0, 0, 0, 0), (1, 0, 0, 0), (1, 0, 0, 0), (2, 1, 0, 4), (2, 2, 0, 4), (2, 3, 1, 240), (2, 4, 2, 900), (0, 0, 0, 0), (0, 0, 0, 0), (0, 0, 0, 0), (0, 0, 0, 0), (0, 0, 0, 0), (0, 0, 0, 0), (0, 0, 0, 0), (0, 0, 0, 0), (0, 0, 0, 0), (0, 0, 0, 0), (0, 0, 0, 0), (1, 0, 0, 0), (2, 5, 0, 1775), (2, 6, 0, 83), (2, 7, 0, 83), (2, 8, 1, 120), (0, 0, 0, 0), (0, 0, 0, 0), (0, 0, 0, 0), (2, 9, 0, 64), (2, 10, 0, 6), (2, 11, 0, 6), (2, 12, 0, 6), (2, 13, 0, 6), (0, 0, 0, 0), (2, 14, 0, 5), (3, 0, 0, 0), (3, 0, 0, 0), (0, 0, 0, 0), (0, 0, 0, 0), (0, 0, 0, 0), (0, 0, 0, 0), (0, 0, 0, 0), (0, 0, 0, 0), (0, 0, 0, 0)]
  | _ => []
/-- the cell of an element of an array of references, and its kind -/
def zro (k q j : Nat) : Nat := match k with
  | 3 => q + 58 + 2 * j
  | 4 => q + 65 + 19 * j
  | 5 => q + 75 + 19 * j
  | _ => q
def zrk (k : Nat) : Nat := match k with
  | 3 => 16
  | 4 => 11
  | 5 => 18
  | _ => 0
/-- the type of an array's elements by its kind -/
def zet (k : Nat) : FieldType := match k with
  | 0 => .int
  | 1 => .long
  | 2 => .byte
  | 3 => .object "BellPullHouse$Tray"
  | 4 => .object "BellPullHouse$House"
  | 5 => .object "BellPullHouse$Years"
  | _ => .int
/-- the cells of the whole system: kind (arrays 0 .. 5, objects from 10 on) and length -/
def zY : List (Nat × Nat) := [(21, 0), (0, 4), (0, 4), (1, 240), (2, 900), (0, 1775), (0, 83), (0, 83), (1, 120), (0, 64), (0, 6), (0, 6), (0, 6), (0, 6), (0, 5), (20, 0), (3, 4), (4, 3), (5, 3), (0, 5), (15, 0), (2, 900), (1, 23), (11, 0), (0, 10), (0, 10), (0, 10), (0, 6), (0, 6), (0, 6), (0, 6), (0, 6), (1, 24), (0, 64), (11, 0), (0, 10), (0, 10), (0, 10), (0, 6), (0, 6), (0, 6), (0, 6), (0, 6), (1, 24), (0, 64), (18, 0), (0, 60), (0, 60), (0, 60), (0, 60), (0, 60), (0, 60), (0, 3), (18, 0), (0, 60), (0, 60), (0, 60), (0, 60), (0, 60), (0, 60), (0, 3), (10, 0), (0, 6), (17, 0), (0, 8), (14, 0), (0, 6), (0, 6), (0, 6), (13, 0), (0, 5), (0, 60), (10, 0), (0, 6), (16, 0), (1, 60), (16, 0), (1, 60), (16, 0), (1, 60), (16, 0), (1, 60), (11, 0), (0, 10), (0, 10), (0, 10), (0, 6), (0, 6), (0, 6), (0, 6), (0, 6), (1, 24), (0, 64), (18, 0), (0, 60), (0, 60), (0, 60), (0, 60), (0, 60), (0, 60), (0, 3), (11, 0), (0, 10), (0, 10), (0, 10), (0, 6), (0, 6), (0, 6), (0, 6), (0, 6), (1, 24), (0, 64), (18, 0), (0, 60), (0, 60), (0, 60), (0, 60), (0, 60), (0, 60), (0, 3), (11, 0), (0, 10), (0, 10), (0, 10), (0, 6), (0, 6), (0, 6), (0, 6), (0, 6), (1, 24), (0, 64), (18, 0), (0, 60), (0, 60), (0, 60), (0, 60), (0, 60), (0, 60), (0, 3)]
def zcl : List vw_C := [(RX0, TX0, 1), (RX1, TX1, 20), (RX0, TX0, 0), (RX3, TX3, 5), (RX4, TX4, 3), (RX5, TX5, 13), (RX6, TX6, 4), (RX7, TX7, 3), (RX8, TX8, 11), (RX0, TX0, 0), (RX10, TX10, 20), (RX11, TX11, 43)]
/-- a field's value -/
def zfv (ad : Nat → Nat) (q : Nat) (t : Nat × Nat × Nat × Nat) (x : Int) : Value := if t.1 = 1 then .long (Int64.ofInt x) else if t.1 = 2 then .ref (ad (q + t.2.1)) else .int (Int32.ofInt x)
def zfs (ci : Nat) (ad : Nat → Nat) (q : Nat) (f : Nat → Int) : List Value := (zft ci).mapIdx (fun k t => zfv ad q t (f k))
def zea (k n : Nat) (ad : Nat → Nat) (q : Nat) (f : Nat → Int) : vp_A := if k = 1 then (n, .inr (.inl (fun j => Int64.ofInt (f j)))) else if 3 ≤ k then (n, .inr (.inr (.inr (.inr (fun j => some (ad (zro k q j))))))) else (n, .inl (fun j => Int32.ofInt (f j)))
def ze (ad : Nat → Nat) (dA : Nat → ClassId) (q : Nat) (t : Nat × Nat) (f : Nat → Int) : va_E := if t.1 < 10 then .inl (dA q, zea t.1 t.2 ad q f) else .inr (t.1 - 10, zfs (t.1 - 10) ad q f)
/-- the world that a memory stands for -/
def zw (Y : List (Nat × Nat)) (ad : Nat → Nat) (dA : Nat → ClassId) (M : AM) : va_W := Y.mapIdx (fun q t => (ad q, ze ad dA q t (M q)))
def zgj (k j : Nat) (x : Int) : Prop := if k = 1 then g64 x else if k < 3 then g32 x else if k < 10 then True else match (zft (k - 10)).getD j (2, 0, 0, 0) with
  | (1, _) => g64 x
  | (2, _) => True
  | _ => g32 x
def zgM (Y : List (Nat × Nat)) (M : AM) : Prop := ∀ q k n, Y[q]? = some (k, n) → ∀ j, zgj k j (M q j)
def zRb (Y : List (Nat × Nat)) (q : Nat) (t : Nat × Nat) : Bool := if t.1 < 3 then true else if t.1 < 10 then (List.range t.2).all (fun j => Y[zro t.1 q j]? == some (zrk t.1, 0)) else (zft (t.1 - 10)).all (fun f => if f.1 = 2 then Y[q + f.2.1]? == some (f.2.2.1, f.2.2.2) else true)
/-- the cells that references name are there, of the kind that the fields tell -/
def zReg (Y : List (Nat × Nat)) : Prop := ∀ q t, Y[q]? = some t → zRb Y q t = true
def cv (ad : Nat → Nat) (v : AV) : Value := match v with
  | .inl x => .int (Int32.ofInt x)
  | .inr (.inl x) => .long (Int64.ofInt x)
  | .inr (.inr (q, _, _)) => .ref (ad q)
def gd (Y : List (Nat × Nat)) (v : AV) : Prop := match v with
  | .inl x => g32 x
  | .inr (.inl x) => g64 x
  | .inr (.inr (q, k, n)) => k = 9 ∨ Y[q]? = some (k, n)
theorem zw_at {Y : List (Nat × Nat)} {ad : Nat → Nat} {dA : Nat → ClassId} {M : AM} {q : Nat} {t : Nat × Nat} (h : Y[q]? = some t) : (zw Y ad dA M)[q]? = some (ad q, ze ad dA q t (M q)) := by
  simp [zw, List.getElem?_mapIdx, h]
theorem zw_set {Y : List (Nat × Nat)} {ad : Nat → Nat} {dA : Nat → ClassId} {M : AM} {q : Nat} {t : Nat × Nat} (f : Nat → Int) (h : Y[q]? = some t) : (zw Y ad dA M).set q (ad q, ze ad dA q t f) = zw Y ad dA (am_row M q f) := by
  apply List.ext_getElem?
  intro i
  have hq : q < Y.length := (List.getElem?_eq_some_iff.mp h).1
  by_cases hi : q = i
  · subst hi
    rw [List.getElem?_set_self (by simpa [zw] using hq), zw_at (M := am_row M q f) h]
    simp [am_row]
  · rw [List.getElem?_set_ne hi]
    have hi2 : ¬ i = q := fun h => hi h.symm
    simp [zw, List.getElem?_mapIdx, am_row, hi2]
theorem zgM_row {Y : List (Nat × Nat)} {M : AM} {q k n : Nat} (f : Nat → Int) (h : zgM Y M) (hq : Y[q]? = some (k, n)) (hf : ∀ j, zgj k j (f j)) : zgM Y (am_row M q f) := by
  intro q2 k2 n2 h2 j
  by_cases e : q2 = q
  · subst e
    rw [hq] at h2
    cases h2
    simpa [am_row] using hf j
  · simpa [am_row, e] using h q2 k2 n2 h2 j
theorem zgM_upd {Y : List (Nat × Nat)} {M : AM} {q k n : Nat} (j : Nat) (x : Int) (h : zgM Y M) (hq : Y[q]? = some (k, n)) (hx : zgj k j x) : zgM Y (am_upd M q j x) := by
  refine zgM_row _ h hq ?_
  intro i
  by_cases e : i = j
  · subst e; simpa using hx
  · simpa [e] using h q k n hq i
theorem zD_row {A : Nat → Prop} {Y : List (Nat × Nat)} {ad : Nat → Nat} {dA : Nat → ClassId} {M M' : AM} (h : va_D A (zw Y ad dA M)) : va_D A (zw Y ad dA M') := by
  obtain ⟨h1, h2⟩ := h
  have key : ∀ (i : Nat) (p : Nat × va_E), (zw Y ad dA M')[i]? = some p → ∃ p2, (zw Y ad dA M)[i]? = some p2 ∧ p2.1 = p.1 := by
    intro i p hp
    simp only [zw, List.getElem?_mapIdx, Option.map_eq_some_iff] at hp ⊢
    obtain ⟨t, ht, rfl⟩ := hp
    exact ⟨_, ⟨t, ht, rfl⟩, rfl⟩
  refine ⟨fun i j p q hi hj e => ?_, fun k q hk => ?_⟩
  · obtain ⟨p2, hp2, e1⟩ := key i p hi
    obtain ⟨q2, hq2, e2⟩ := key j q hj
    exact h1 i j p2 q2 hp2 hq2 (by rw [e1, e2, e])
  · obtain ⟨p2, hp2, e1⟩ := key k q hk
    rw [← e1]
    exact h2 k p2 hp2
theorem g32_of (x : Int32) : g32 x.toInt := by unfold g32; rw [Int32.ofInt_toInt]
theorem g64_of (x : Int64) : g64 x.toInt := by unfold g64; rw [Int64.ofInt_toInt]
theorem g32_iff (x : Int) : g32 x ↔ -2147483648 ≤ x ∧ x < 2147483648 := by
  constructor
  · intro h
    unfold g32 at h
    have h1 := Int32.le_toInt (Int32.ofInt x)
    have h2 := Int32.toInt_lt (Int32.ofInt x)
    rw [h] at h1 h2
    simp at h1 h2
    omega
  · intro h
    unfold g32
    rw [Int32.toInt_ofInt]
    have := Int.bmod_eq_of_le (n := x) (m := 2 ^ 32) (by simp; omega) (by simp; omega)
    simpa using this
theorem g64_iff (x : Int) : g64 x ↔ -9223372036854775808 ≤ x ∧ x < 9223372036854775808 := by
  constructor
  · intro h
    unfold g64 at h
    have h1 := Int64.le_toInt (Int64.ofInt x)
    have h2 := Int64.toInt_lt (Int64.ofInt x)
    rw [h] at h1 h2
    simp at h1 h2
    omega
  · intro h
    unfold g64
    rw [Int64.toInt_ofInt]
    have := Int.bmod_eq_of_le (n := x) (m := 2 ^ 64) (by simp; omega) (by simp; omega)
    simpa using this
theorem zReg_zY : zReg zY := by
  have h : (zY.mapIdx (fun q t => zRb zY q t)).all id = true := by decide +kernel
  intro q t hq
  have h2 : (zY.mapIdx (fun q t => zRb zY q t))[q]? = some (zRb zY q t) := by simp [List.getElem?_mapIdx, hq]
  exact List.all_eq_true.mp h _ (List.mem_of_getElem? h2)
/-- the words that every method has -/
def zws : List Jvm.Cond := lw_tbl.filter goodWord
theorem z_mem {w : Jvm.Cond} (i : Nat) (h : lw_tbl[i]? = some w) (hg : goodWord w = true) : w ∈ zws := List.mem_filter.mpr ⟨List.mem_of_getElem? h, hg⟩

