/-! ONE STEP of the abstract machine: instructions that go straight on. An entry of a method's table: place, instruction, six numbers that the constant pool resolves to, a constant. -/
abbrev ZE : Type := Nat × Instr × (Nat × Nat × Nat × Nat × Nat × Nat) × Int
abbrev ZL : Type := List (Option AV)
abbrev ZT : Type := Nat × ZL × List AV × AM
def zget : ZL → Nat → Option AV
  | [], _ => none
  | a :: _, 0 => a
  | _ :: l, n + 1 => zget l n
def zset : ZL → Nat → Option AV → ZL
  | [], _, _ => []
  | _ :: l, 0, v => v :: l
  | a :: l, n + 1, v => a :: zset l n v
def zlong (lo : ZL) (i : Nat) : Bool := match i with
  | 0 => false
  | j + 1 => match zget lo j with
    | some (.inr (.inl _)) => true
    | _ => false
def zc1 (v : AV) : Bool := match v with
  | .inr (.inl _) => false
  | _ => true
def z_iload (n i : Nat) (lo : ZL) (st : List AV) (M : AM) : Option ZT := match zget lo i with
  | some (.inl x) => some (n, lo, vI x :: st, M)
  | _ => none
def z_lload (n i : Nat) (lo : ZL) (st : List AV) (M : AM) : Option ZT := match zget lo i with
  | some (.inr (.inl x)) => some (n, lo, vL x :: st, M)
  | _ => none
def z_aload (n i : Nat) (lo : ZL) (st : List AV) (M : AM) : Option ZT := match zget lo i with
  | some (.inr (.inr (q, k, l))) => some (n, lo, vR q k l :: st, M)
  | _ => none
def z_istore (n i : Nat) (lo : ZL) (st : List AV) (M : AM) : Option ZT := match st with
  | .inl x :: r => match zlong lo i with
    | true => none
    | false => some (n, zset lo i (some (vI x)), r, M)
  | _ => none
def z_lstore (n i : Nat) (lo : ZL) (st : List AV) (M : AM) : Option ZT := match st with
  | .inr (.inl x) :: r => match zlong lo i with
    | true => none
    | false => some (n, zset (zset lo (i + 1) none) i (some (vL x)), r, M)
  | _ => none
def z_astore (n i : Nat) (lo : ZL) (st : List AV) (M : AM) : Option ZT := match st with
  | .inr (.inr (q, k, l)) :: r => match zlong lo i with
    | true => none
    | false => some (n, zset lo i (some (vR q k l)), r, M)
  | _ => none
def z_bin (n : Nat) (f : Int → Int → Int) (lo : ZL) (st : List AV) (M : AM) : Option ZT := match st with
  | .inl y :: .inl x :: r => some (n, lo, vI (f x y) :: r, M)
  | _ => none
def z_binL (n : Nat) (f : Int → Int → Int) (lo : ZL) (st : List AV) (M : AM) : Option ZT := match st with
  | .inr (.inl y) :: .inr (.inl x) :: r => some (n, lo, vL (f x y) :: r, M)
  | _ => none
def z_div (n : Nat) (f : Int → Int → Int) (lo : ZL) (st : List AV) (M : AM) : Option ZT := match st with
  | .inl y :: .inl x :: r => if y ≠ 0 then some (n, lo, vI (f x y) :: r, M) else none
  | _ => none
def z_divL (n : Nat) (f : Int → Int → Int) (lo : ZL) (st : List AV) (M : AM) : Option ZT := match st with
  | .inr (.inl y) :: .inr (.inl x) :: r => if y ≠ 0 then some (n, lo, vL (f x y) :: r, M) else none
  | _ => none
def z_un (n : Nat) (f : Int → Int) (lo : ZL) (st : List AV) (M : AM) : Option ZT := match st with
  | .inl x :: r => some (n, lo, vI (f x) :: r, M)
  | _ => none
def z_ald (n kk : Nat) (lo : ZL) (st : List AV) (M : AM) : Option ZT := match st with
  | .inl i :: .inr (.inr (q, k, l)) :: r => match k == kk with
    | true => if 0 ≤ i ∧ i < (l : Int) then some (n, lo, vI (M q i.toNat) :: r, M) else none
    | false => none
  | _ => none
def z_lald (n : Nat) (lo : ZL) (st : List AV) (M : AM) : Option ZT := match st with
  | .inl i :: .inr (.inr (q, k, l)) :: r => match k == 1 with
    | true => if 0 ≤ i ∧ i < (l : Int) then some (n, lo, vL (M q i.toNat) :: r, M) else none
    | false => none
  | _ => none
def z_aald (n : Nat) (lo : ZL) (st : List AV) (M : AM) : Option ZT := match st with
  | .inl i :: .inr (.inr (q, k, l)) :: r => match Nat.ble 3 k && Nat.blt k 6 with
    | true => if 0 ≤ i ∧ i < (l : Int) then some (n, lo, vR (zro k q i.toNat) (zrk k) 0 :: r, M) else none
    | false => none
  | _ => none
def z_ast (n kk : Nat) (f : Int → Int) (lo : ZL) (st : List AV) (M : AM) : Option ZT := match st with
  | .inl x :: .inl i :: .inr (.inr (q, k, l)) :: r => match k == kk with
    | true => if 0 ≤ i ∧ i < (l : Int) then some (n, lo, r, am_upd M q i.toNat (f x)) else none
    | false => none
  | _ => none
def z_last (n : Nat) (lo : ZL) (st : List AV) (M : AM) : Option ZT := match st with
  | .inr (.inl x) :: .inl i :: .inr (.inr (q, k, l)) :: r => match k == 1 with
    | true => if 0 ≤ i ∧ i < (l : Int) then some (n, lo, r, am_upd M q i.toNat x) else none
    | false => none
  | _ => none
def z_alen (n : Nat) (lo : ZL) (st : List AV) (M : AM) : Option ZT := match st with
  | .inr (.inr (_, k, l)) :: r => match Nat.blt k 6 with
    | true => some (n, lo, vI (l : Int) :: r, M)
    | false => none
  | _ => none
/-- getfield: class a, field b, its sort c, of a reference how far d, kind, length -/
def z_get (n : Nat) (rn : Nat × Nat × Nat × Nat × Nat × Nat) (lo : ZL) (st : List AV) (M : AM) : Option ZT := match st with
  | .inr (.inr (q, k, _)) :: r => match k == 10 + rn.1 with
    | true => match rn.2.2.1 with
      | 1 => some (n, lo, vL (M q rn.2.1) :: r, M)
      | 2 => some (n, lo, vR (q + rn.2.2.2.1) rn.2.2.2.2.1 rn.2.2.2.2.2 :: r, M)
      | _ => some (n, lo, vI (M q rn.2.1) :: r, M)
    | false => none
  | _ => none
def z_put (n : Nat) (rn : Nat × Nat × Nat × Nat × Nat × Nat) (lo : ZL) (st : List AV) (M : AM) : Option ZT := match st with
  | .inl x :: .inr (.inr (q, k, _)) :: r => match k == 10 + rn.1 with
    | true => match rn.2.2.1 with
      | 0 => some (n, lo, r, am_upd M q rn.2.1 x)
      | 3 => if x = 0 ∨ x = 1 then some (n, lo, r, am_upd M q rn.2.1 x) else none
      | _ => none
    | false => none
  | .inr (.inl x) :: .inr (.inr (q, k, _)) :: r => match k == 10 + rn.1 with
    | true => match rn.2.2.1 with
      | 1 => some (n, lo, r, am_upd M q rn.2.1 x)
      | _ => none
    | false => none
  | _ => none
/-- System.arraycopy over two arrays of ints, or of longs -/
def z_copy (n : Nat) (rn : Nat × Nat × Nat × Nat × Nat × Nat) (lo : ZL) (st : List AV) (M : AM) : Option ZT := match st with
  | .inl c :: .inl dp :: .inr (.inr (q1, k1, n1)) :: .inl sp :: .inr (.inr (q0, k0, n0)) :: r => match rn.1 == 999 && k0 == rn.2.1 && k1 == rn.2.1 && Nat.blt rn.2.1 2 && Nat.ble r.length 4 with
    | true => if 0 ≤ sp ∧ 0 ≤ dp ∧ 0 ≤ c ∧ sp + c ≤ (n0 : Int) ∧ dp + c ≤ (n1 : Int) then some (n, lo, r, am_row M q1 (cp_row (M q0) (M q1) sp.toNat dp.toNat c.toNat)) else none
    | false => none
  | _ => none
def o_min (x y : Int) : Int := if y < x then y else x
def o_max (x y : Int) : Int := if x < y then y else x
def l_abs (x : Int) : Int := if 0 < x then x else (-(Int64.ofInt x)).toInt
/-- Math.min, max of ints, abs of a long -/
def z_math (n kind : Nat) (lo : ZL) (st : List AV) (M : AM) : Option ZT := match kind with
  | 0 => match st with
    | .inl y :: .inl x :: r => match Nat.ble r.length 4 with
      | true => some (n, lo, vI (o_min x y) :: r, M)
      | false => none
    | _ => none
  | 1 => match st with
    | .inl y :: .inl x :: r => match Nat.ble r.length 4 with
      | true => some (n, lo, vI (o_max x y) :: r, M)
      | false => none
    | _ => none
  | _ => match st with
    | .inr (.inl x) :: r => match Nat.ble r.length 4 with
      | true => some (n, lo, vL (l_abs x) :: r, M)
      | false => none
    | _ => none
def z_stat (n : Nat) (rn : Nat × Nat × Nat × Nat × Nat × Nat) (lo : ZL) (st : List AV) (M : AM) : Option ZT := match rn.1 == 998 with
  | true => z_math n rn.2.1 lo st M
  | false => z_copy n rn lo st M
def stp (ins : Instr) (rn : Nat × Nat × Nat × Nat × Nat × Nat) (rz : Int) (pc : Nat) (lo : ZL) (st : List AV) (M : AM) : Option ZT := match ins with
  | .iconst _ => some (pc + 1, lo, vI rz :: st, M)
  | .bipush _ => some (pc + 2, lo, vI rz :: st, M)
  | .sipush _ => some (pc + 3, lo, vI rz :: st, M)
  | .ldc _ => some (pc + 2, lo, vI rz :: st, M)
  | .ldc_w _ => some (pc + 3, lo, vI rz :: st, M)
  | .ldc2_w _ => some (pc + 3, lo, vL rz :: st, M)
  | .lconst _ => some (pc + 1, lo, vL rz :: st, M)
  | .iload i => z_iload (pc + 2) i lo st M
  | .iload_n k => z_iload (pc + 1) k.val lo st M
  | .lload i => z_lload (pc + 2) i lo st M
  | .lload_n k => z_lload (pc + 1) k.val lo st M
  | .aload i => z_aload (pc + 2) i lo st M
  | .aload_n k => z_aload (pc + 1) k.val lo st M
  | .istore i => z_istore (pc + 2) i lo st M
  | .istore_n k => z_istore (pc + 1) k.val lo st M
  | .lstore i => z_lstore (pc + 2) i lo st M
  | .lstore_n k => z_lstore (pc + 1) k.val lo st M
  | .astore i => z_astore (pc + 2) i lo st M
  | .astore_n k => z_astore (pc + 1) k.val lo st M
  | .iinc i _ => match zget lo i with
    | some (.inl x) => match zlong lo i with
      | true => none
      | false => some (pc + 3, zset lo i (some (vI (o_add x rz))), st, M)
    | _ => none
  | .iaload => z_ald (pc + 1) 0 lo st M
  | .baload => z_ald (pc + 1) 2 lo st M
  | .laload => z_lald (pc + 1) lo st M
  | .aaload => z_aald (pc + 1) lo st M
  | .iastore => z_ast (pc + 1) 0 (fun x => x) lo st M
  | .bastore => z_ast (pc + 1) 2 o_i2b lo st M
  | .lastore => z_last (pc + 1) lo st M
  | .arraylength => z_alen (pc + 1) lo st M
  | .pop => match st with
    | v :: r => match zc1 v with
      | true => some (pc + 1, lo, r, M)
      | false => none
    | _ => none
  | .dup => match st with
    | v :: r => match zc1 v with
      | true => some (pc + 1, lo, v :: v :: r, M)
      | false => none
    | _ => none
  | .dup2 => match st with
    | v :: w :: r => match zc1 v && zc1 w with
      | true => some (pc + 1, lo, v :: w :: v :: w :: r, M)
      | false => none
    | _ => none
  | .iadd => z_bin (pc + 1) o_add lo st M
  | .isub => z_bin (pc + 1) o_sub lo st M
  | .imul => z_bin (pc + 1) o_mul lo st M
  | .idiv => z_div (pc + 1) o_div lo st M
  | .irem => z_div (pc + 1) o_rem lo st M
  | .iand => z_bin (pc + 1) o_and lo st M
  | .ior => z_bin (pc + 1) o_or lo st M
  | .ixor => z_bin (pc + 1) o_xor lo st M
  | .ishl => z_bin (pc + 1) o_shl lo st M
  | .ishr => z_bin (pc + 1) o_shr lo st M
  | .iushr => z_bin (pc + 1) o_ushr lo st M
  | .ladd => z_binL (pc + 1) l_add lo st M
  | .lsub => z_binL (pc + 1) l_sub lo st M
  | .lmul => z_binL (pc + 1) l_mul lo st M
  | .ldiv => z_divL (pc + 1) l_div lo st M
  | .lrem => z_divL (pc + 1) l_rem lo st M
  | .land => z_binL (pc + 1) l_and lo st M
  | .lor => z_binL (pc + 1) l_or lo st M
  | .lshl => match st with
    | .inl y :: .inr (.inl x) :: r => some (pc + 1, lo, vL (l_shl x y) :: r, M)
    | _ => none
  | .lcmp => match st with
    | .inr (.inl y) :: .inr (.inl x) :: r => some (pc + 1, lo, vI (l_cmp x y) :: r, M)
    | _ => none
  | .i2l => match st with
    | .inl x :: r => some (pc + 1, lo, vL x :: r, M)
    | _ => none
  | .l2i => match st with
    | .inr (.inl x) :: r => some (pc + 1, lo, vI (o_l2i x) :: r, M)
    | _ => none
  | .i2b => z_un (pc + 1) o_i2b lo st M
  | .i2s => z_un (pc + 1) o_i2s lo st M
  | .goto _ => some (rn.1, lo, st, M)
  | .getfield _ => z_get (pc + 3) rn lo st M
  | .putfield _ => z_put (pc + 3) rn lo st M
  | .invokestatic _ => z_stat (pc + 3) rn lo st M
  | _ => none
/-- the entry at a place -/
def zent (T : List ZE) (pc : Nat) : Option (Instr × (Nat × Nat × Nat × Nat × Nat × Nat) × Int) := match T with
  | [] => none
  | (p, e) :: r => match p == pc with
    | true => some e
    | false => zent r pc
/-- so many steps straight on -/
def zrun (T : List ZE) (n : Nat) (s : ZT) : Option ZT := match n with
  | 0 => some s
  | n + 1 => match zent T s.1 with
    | some (i, rn, rz) => match stp i rn rz s.1 s.2.1 s.2.2.1 s.2.2.2 with
      | some s' => zrun T n s'
      | none => none
    | none => none
def zgC (z : Int) : Bool := decide (-2147483648 ≤ z) && decide (z < 2147483648)
def zgCL (z : Int) : Bool := decide (-9223372036854775808 ≤ z) && decide (z < 9223372036854775808)
def zsub (k : Nat) : List Jvm.Cond := match k with
  | 0 => k2_sels lw_privs
  | 1 => tables_1_1
  | 2 => tables_1_2
  | 3 => tables_1_3
  | 4 => tables_1_4
  | 5 => tables_1_5
  | 6 => tables_1_6
  | 7 => tables_1_7
  | 8 => tables_1_8
  | 9 => tables_1_9
  | _ => []
/-- the word at a place of the tables: list and place in it -/
def zhas (i : Nat) (w : Jvm.Cond) : Bool := decide ((zsub (i / 1000))[i % 1000]? = some w) && goodWord w
theorem zsub_mem {k : Nat} {w : Jvm.Cond} (h : w ∈ zsub k) : w ∈ lw_tbl := by
  have hk : k = 0 ∨ k = 1 ∨ k = 2 ∨ k = 3 ∨ k = 4 ∨ k = 5 ∨ k = 6 ∨ k = 7 ∨ k = 8 ∨ k = 9 ∨ 10 ≤ k := by omega
  unfold lw_tbl tables_1
  simp only [List.mem_append]
  rcases hk with e | e | e | e | e | e | e | e | e | e | e
  · subst e; exact Or.inl h
  · subst e; exact Or.inr (Or.inl h)
  · subst e; exact Or.inr (Or.inr (Or.inl h))
  · subst e; exact Or.inr (Or.inr (Or.inr (Or.inl h)))
  · subst e; exact Or.inr (Or.inr (Or.inr (Or.inr (Or.inl h))))
  · subst e; exact Or.inr (Or.inr (Or.inr (Or.inr (Or.inr (Or.inl h)))))
  · subst e; exact Or.inr (Or.inr (Or.inr (Or.inr (Or.inr (Or.inr (Or.inl h))))))
  · subst e; exact Or.inr (Or.inr (Or.inr (Or.inr (Or.inr (Or.inr (Or.inr (Or.inl h)))))))
  · subst e; exact Or.inr (Or.inr (Or.inr (Or.inr (Or.inr (Or.inr (Or.inr (Or.inr (Or.inl h))))))))
  · subst e; exact Or.inr (Or.inr (Or.inr (Or.inr (Or.inr (Or.inr (Or.inr (Or.inr (Or.inr h))))))))
  · obtain ⟨j, rfl⟩ : ∃ j, k = j + 10 := ⟨k - 10, by omega⟩
    exact absurd h List.not_mem_nil
theorem zhas_mem {i : Nat} {w : Jvm.Cond} (h : zhas i w = true) : w ∈ zws := by
  simp only [zhas, Bool.and_eq_true, decide_eq_true_eq] at h
  exact List.mem_filter.mpr ⟨zsub_mem (List.mem_of_getElem? h.1), h.2⟩
def zmn (k : Nat) : MethodName := match k with
  | 0 => Lib.Math.min.name
  | 1 => Lib.Math.max.name
  | _ => Lib.MathLoose.abs_long.x
/-- what must hold of an entry: numbers are what instruction and tables say. own: the class; nL: how many locals -/
def zok1 (own : String) (nL : Nat) (pc : Nat) (ins : Instr) (rn : Nat × Nat × Nat × Nat × Nat × Nat) (rz : Int) : Bool := match ins with
  | .iconst n => rz == n && zgC rz
  | .bipush n => decide ((Int8.ofInt n).toInt32 = Int32.ofInt rz) && zgC rz
  | .sipush n => decide ((Int16.ofInt n).toInt32 = Int32.ofInt rz) && zgC rz
  | .ldc i => zhas rn.1 (Jvm.Cond.constant own i (Int32.ofInt rz)) && zgC rz
  | .ldc_w i => zhas rn.1 (Jvm.Cond.constant own i (Int32.ofInt rz)) && zgC rz
  | .ldc2_w i => zhas rn.1 (Jvm.Cond.constantLong own i (Int64.ofInt rz)) && zgCL rz
  | .lconst n => rz == ((n.val : Nat) : Int)
  | .istore i => Nat.blt i nL
  | .istore_n k => Nat.blt k.val nL
  | .lstore i => Nat.blt (i + 1) nL
  | .lstore_n k => Nat.blt (k.val + 1) nL
  | .astore i => Nat.blt i nL
  | .astore_n k => Nat.blt k.val nL
  | .iinc i n => Nat.blt i nL && decide (Int32.ofInt n = Int32.ofInt rz)
  | .goto off => (pc : Int) + off == (rn.1 : Int)
  | .getfield i => match zcl[rn.1]? with
    | some (C, T, N) => decide (rn.2.1 < N) && decide ((zft rn.1)[rn.2.1]? = some rn.2.2) && zhas rz.toNat (Jvm.Cond.fieldLink own i (T rn.2.1).1 (T rn.2.1).2.1 (T rn.2.1).2.2.1)
    | none => false
  | .putfield i => match zcl[rn.1]? with
    | some (C, T, N) => decide (rn.2.1 < N) && decide ((zft rn.1)[rn.2.1]? = some rn.2.2) && zhas rz.toNat (Jvm.Cond.fieldLink own i (T rn.2.1).1 (T rn.2.1).2.1 (T rn.2.1).2.2.1) && !(T rn.2.1).2.2.2
    | none => false
  | .invokestatic i => if rn.1 = 999 then zhas rz.toNat (Jvm.Cond.methodLink own i arraycopyName) else if rn.1 = 998 then zhas rz.toNat (Jvm.Cond.methodLink own i (zmn rn.2.1)) else true
  | _ => true
