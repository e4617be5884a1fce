/-! ONE STEP of the constructors' machine. State: place, locals, stack, world, names for what is made next, cells and slots made so far. -/
abbrev KST : Type := Nat × ZL × List AV × KWd × List Nat × Nat × Nat
def kdef (ci : Nat) : List (Option AV) := (zft ci).map (fun t => if t.1 = 1 then some (vL 0) else if t.1 = 2 then none else some (vI 0))
def kfresh (N0 : Nat → Bool) (L : List Nat) (lo : ZL) (st : List AV) (W : KWd) : Bool := W.all (kpN (kno L)) && (st.all (kavN (kno L)) && (lo.all (kovN (kno L)) && L.all (fun j => !N0 j)))
def kgd (v : AV) : Bool := match v with
  | .inl x => zgC x
  | .inr (.inl x) => zgCL x
  | .inr (.inr (_, k, _)) => k == 9
def k_new (N0 : Nat → Bool) (RC RS pc ci : Nat) (lo : ZL) (st : List AV) (W : KWd) (ns : List Nat) (ce sl : Nat) : Option KST := match ns with
  | [] => none
  | q :: ns' => match kfresh N0 [q] lo st W && (Nat.ble (ce + 1) RC && Nat.ble (sl + (zft ci).length) RS) with
    | true => some (pc + 3, lo, vR q 9 0 :: st, W ++ [(q, .inr (ci, kdef ci))], ns', ce + 1, sl + (zft ci).length)
    | false => none
def k_newa (N0 : Nat → Bool) (RC RS n k : Nat) (lo : ZL) (st : List AV) (W : KWd) (ns : List Nat) (ce sl : Nat) : Option KST := match ns with
  | [] => none
  | q :: ns' => match st with
    | .inl x :: r => match kfresh N0 [q] lo r W && (decide (0 ≤ x) && (Nat.ble x.toNat 2000 && (Nat.ble (ce + 1) RC && Nat.ble (sl + x.toNat) RS))) with
      | true => some (n, lo, vR q 9 0 :: r, W ++ [(q, .inl (k, x.toNat, []))], ns', ce + 1, sl + x.toNat)
      | false => none
    | _ => none
/-- may a value stand in a field of this sort -/
def kfit (t : Nat) (v : AV) : Bool := match v with
  | .inl x => t == 0 || (t == 3 && (x == 0 || x == 1))
  | .inr (.inl _) => t == 1
  | .inr (.inr _) => t == 2
def k_put (pc ci k t : Nat) (lo : ZL) (st : List AV) (W : KWd) (ns : List Nat) (ce sl : Nat) : Option KST := match st with
  | v :: .inr (.inr (q, _, _)) :: r => match kfind W q 0 with
    | some (i, .inr (ci', fs)) => match ci' == ci && (kfit t v && Nat.blt k fs.length) with
      | true => some (pc + 3, lo, r, W.set i (q, .inr (ci, fs.set k (some v))), ns, ce, sl)
      | false => none
    | _ => none
  | _ => none
def k_get (pc ci k : Nat) (lo : ZL) (st : List AV) (W : KWd) (ns : List Nat) (ce sl : Nat) : Option KST := match st with
  | .inr (.inr (q, _, _)) :: r => match kfind W q 0 with
    | some (_, .inr (ci', fs)) => match fs[k]? with
      | some (some v) => match ci' == ci && kgd v with
        | true => some (pc + 3, lo, v :: r, W, ns, ce, sl)
        | false => none
      | _ => none
    | _ => none
  | _ => none
def kset (rs : List Int) (j : Nat) (x : Int) : List Int := match j, rs with
  | 0, [] => [x]
  | 0, _ :: l => x :: l
  | n + 1, [] => 0 :: kset [] n x
  | n + 1, a :: l => a :: kset l n x
def k_aast (pc : Nat) (lo : ZL) (st : List AV) (W : KWd) (ns : List Nat) (ce sl : Nat) : Option KST := match st with
  | .inr (.inr (v, _, _)) :: .inl j :: .inr (.inr (q, _, _)) :: r => match kfind W q 0 with
    | some (i, .inl (k, n, rs)) => match kfind W v 0 with
      | some (_, .inr (cv1, _)) => match decide (3 ≤ k) && (decide ((zcl[cv1]?).map (fun x => FieldType.object x.1) = some (zet k)) && (decide (0 ≤ j) && decide (j < (n : Int)))) with
        | true => some (pc + 1, lo, r, W.set i (q, .inl (k, n, kset rs j.toNat ((v : Int) + 1))), ns, ce, sl)
        | false => none
      | _ => none
    | _ => none
  | _ => none
/-- a call of a constructor of class ci; what it leaves; its cells, slots -/
def k_call (N0 : Nat → Bool) (G : Nat → Nat → Bool) (fin : Nat → Nat → KWd) (mc ms : Nat → Nat) (RC RS pc ci : Nat) (lo : ZL) (st : List AV) (W : KWd) (ns : List Nat) (ce sl : Nat) : Option KST := match st with
  | .inr (.inr (q, _, _)) :: r => match kfind W q 0 with
    | some (i, .inr (ci', fs)) => match ci' == ci && (decide (fs = kdef ci) && (G ci q && (Nat.ble (ce + mc ci) RC && (Nat.ble (sl + ms ci) RS && (Nat.ble r.length 4 && (kfresh N0 (((fin ci q).map (fun x => x.1)).filter (fun j => !(j == q))) lo r (W.eraseIdx i) && (kfresh N0 (((fin ci q).map (fun x => x.1)).filter (fun j => !(j == q))) lo r [(q, .inr (ci, fs))] && ((fin ci q).all (kpN (fun j => j == q || (((fin ci q).map (fun x => x.1)).filter (fun j => !(j == q))).contains j)) && (va_nd (List.range i ++ List.range' (i + 1) (W.length - (i + 1))) && !(List.range i ++ List.range' (i + 1) (W.length - (i + 1))).contains i))))))))) with
      | true => some (pc + 3, lo, r, W.eraseIdx i ++ fin ci q, ns, ce + mc ci, sl + ms ci)
      | false => none
    | _ => none
  | _ => none
def k_obj (pc : Nat) (lo : ZL) (st : List AV) (W : KWd) (ns : List Nat) (ce sl : Nat) : Option KST := match st with
  | .inr (.inr _) :: r => match Nat.ble r.length 4 with
    | true => some (pc + 3, lo, r, W, ns, ce, sl)
    | false => none
  | _ => none
def k_bin (n : Nat) (f : Int → Int → Int) (lo : ZL) (st : List AV) (W : KWd) (ns : List Nat) (ce sl : Nat) : Option KST := match st with
  | .inl y :: .inl x :: r => match zgC (f x y) with
    | true => some (n, lo, vI (f x y) :: r, W, ns, ce, sl)
    | false => none
  | _ => none
def k_binL (n : Nat) (f : Int → Int → Int) (lo : ZL) (st : List AV) (W : KWd) (ns : List Nat) (ce sl : Nat) : Option KST := match st with
  | .inr (.inl y) :: .inr (.inl x) :: r => match zgCL (f x y) with
    | true => some (n, lo, vL (f x y) :: r, W, ns, ce, sl)
    | false => none
  | _ => none
def k_lald (pc : Nat) (lo : ZL) (st : List AV) (W : KWd) (ns : List Nat) (ce sl : Nat) : Option KST := match st with
  | .inl j :: .inr (.inr (q, _, _)) :: r => match kfind W q 0 with
    | some (_, .inl (k, n, rs)) => match k == 1 && (decide (0 ≤ j) && (decide (j < (n : Int)) && zgCL (rs.getD j.toNat 0))) with
      | true => some (pc + 1, lo, vL (rs.getD j.toNat 0) :: r, W, ns, ce, sl)
      | false => none
    | _ => none
  | _ => none
def k_last (pc : Nat) (lo : ZL) (st : List AV) (W : KWd) (ns : List Nat) (ce sl : Nat) : Option KST := match st with
  | .inr (.inl x) :: .inl j :: .inr (.inr (q, _, _)) :: r => match kfind W q 0 with
    | some (i, .inl (k, n, rs)) => match k == 1 && (decide (0 ≤ j) && decide (j < (n : Int))) with
      | true => some (pc + 1, lo, r, W.set i (q, .inl (1, n, kset rs j.toNat x)), ns, ce, sl)
      | false => none
    | _ => none
  | _ => none
def k_iast (pc : Nat) (lo : ZL) (st : List AV) (W : KWd) (ns : List Nat) (ce sl : Nat) : Option KST := match st with
  | .inl x :: .inl j :: .inr (.inr (q, _, _)) :: r => match kfind W q 0 with
    | some (i, .inl (k, n, rs)) => match k == 0 && (decide (0 ≤ j) && decide (j < (n : Int))) with
      | true => some (pc + 1, lo, r, (if rs.getD j.toNat 0 = x then W else W.set i (q, .inl (0, n, kset rs j.toNat x))), ns, ce, sl)
      | false => none
    | _ => none
  | _ => none
/-- length() and charAt(int) of the keywords' text, which is named 999 -/
def k_slen (RC RS pc : Nat) (lo : ZL) (st : List AV) (W : KWd) (ns : List Nat) (ce sl : Nat) : Option KST := match st with
  | .inr (.inr (q, _, _)) :: r => match q == 999 && (Nat.ble r.length 4 && (Nat.ble ce RC && Nat.ble sl RS)) with
    | true => some (pc + 3, lo, vI (kSc.length : Int) :: r, W, ns, ce, sl)
    | false => none
  | _ => none
def k_schr (RC RS pc : Nat) (lo : ZL) (st : List AV) (W : KWd) (ns : List Nat) (ce sl : Nat) : Option KST := match st with
  | .inl j :: .inr (.inr (q, _, _)) :: r => match q == 999 && (Nat.ble r.length 4 && (decide (0 ≤ j) && (Nat.blt j.toNat kSc.length && (Nat.ble ce RC && Nat.ble sl RS)))) with
    | true => some (pc + 3, lo, vI (kSc.getD j.toNat 0) :: r, W, ns, ce, sl)
    | false => none
  | _ => none
/-- the model's constructor calls empties(0) -/
def k_emp (RC RS pc : Nat) (lo : ZL) (st : List AV) (W : KWd) (ns : List Nat) (ce sl : Nat) : Option KST := match st with
  | .inl x :: .inr (.inr (q, _, _)) :: r => match decide (x = 0) && (q == 0 && (Nat.ble r.length 4 && (kweq W (kWm mM0) && (Nat.ble ce RC && Nat.ble sl RS)))) with
    | true => some (pc + 3, lo, r, kWm mM1, ns, ce, sl)
    | false => none
  | _ => none
def kcmpB (c : ClassFile.Cond) (x y : Int) : Bool := match c with
  | .eq => x == y
  | .ne => !(x == y)
  | .lt => decide (x < y)
  | .ge => decide (y ≤ x)
  | .gt => decide (y < x)
  | .le => decide (x ≤ y)
def kstp (N0 : Nat → Bool) (G : Nat → Nat → Bool) (fin : Nat → Nat → KWd) (mc ms : Nat → Nat) (RC RS : Nat) (ins : Instr) (rn : Nat × Nat × Nat × Nat × Nat × Nat) (rz : Int) (pc : Nat) (lo : ZL) (st : List AV) (W : KWd) (ns : List Nat) (ce sl : Nat) : Option KST := match ins with
  | .iconst _ => some (pc + 1, lo, vI rz :: st, W, ns, ce, sl)
  | .bipush _ => some (pc + 2, lo, vI rz :: st, W, ns, ce, sl)
  | .sipush _ => some (pc + 3, lo, vI rz :: st, W, ns, ce, sl)
  | .lconst _ => some (pc + 1, lo, vL rz :: st, W, ns, ce, sl)
  | .aload_n k => match zget lo k.val with
    | some (.inr (.inr (q, k2, l))) => some (pc + 1, lo, vR q k2 l :: st, W, ns, ce, sl)
    | _ => none
  | .iload_n k => match zget lo k.val with
    | some (.inl x) => some (pc + 1, lo, vI x :: st, W, ns, ce, sl)
    | _ => none
  | .istore_n k => match st with
    | .inl x :: r => match zlong lo k.val with
      | true => none
      | false => some (pc + 1, zset lo k.val (some (vI x)), r, W, ns, ce, sl)
    | _ => none
  | .astore_n k => match st with
    | .inr (.inr (q, k2, l2)) :: r => match zlong lo k.val with
      | true => none
      | false => some (pc + 1, zset lo k.val (some (vR q k2 l2)), r, W, ns, ce, sl)
    | _ => none
  | .iinc i _ => match zget lo i with
    | some (.inl x) => match zlong lo i || !zgC (x + rz) with
      | true => none
      | false => some (pc + 3, zset lo i (some (vI (x + rz))), st, W, ns, ce, sl)
    | _ => none
  | .dup => match st with
    | .inr (.inr (q, k, l)) :: r => some (pc + 1, lo, vR q k l :: vR q k l :: r, W, ns, ce, sl)
    | _ => none
  | .goto _ => some (rn.1, lo, st, W, ns, ce, sl)
  | .if_icmp c _ => match st with
    | .inl y :: .inl x :: r => match kcmpB c x y with
      | true => some (rn.1, lo, r, W, ns, ce, sl)
      | false => some (pc + 3, lo, r, W, ns, ce, sl)
    | _ => none
  | .new _ => k_new N0 RC RS pc rn.1 lo st W ns ce sl
  | .newarray _ => k_newa N0 RC RS (pc + 2) rn.1 lo st W ns ce sl
  | .anewarray _ => k_newa N0 RC RS (pc + 3) rn.1 lo st W ns ce sl
  | .putfield _ => k_put pc rn.1 rn.2.1 rn.2.2.1 lo st W ns ce sl
  | .getfield _ => k_get pc rn.1 rn.2.1 lo st W ns ce sl
  | .aastore => k_aast pc lo st W ns ce sl
  | .invokespecial _ => match rn.1 == 0 with
    | true => k_obj pc lo st W ns ce sl
    | false => k_call N0 G fin mc ms RC RS pc rn.2.1 lo st W ns ce sl
  | .ldc _ => match rn.1 == 1 with
    | true => some (pc + 2, lo, vR 999 9 0 :: st, W, ns, ce, sl)
    | false => none
  | .ldc2_w _ => some (pc + 3, lo, vL rz :: st, W, ns, ce, sl)
  | .iadd => k_bin (pc + 1) (fun x y => x + y) lo st W ns ce sl
  | .isub => k_bin (pc + 1) (fun x y => x - y) lo st W ns ce sl
  | .imul => k_bin (pc + 1) (fun x y => x * y) lo st W ns ce sl
  | .ladd => k_binL (pc + 1) (fun x y => x + y) lo st W ns ce sl
  | .lmul => k_binL (pc + 1) (fun x y => x * y) lo st W ns ce sl
  | .i2l => match st with
    | .inl x :: r => some (pc + 1, lo, vL x :: r, W, ns, ce, sl)
    | _ => none
  | .laload => k_lald pc lo st W ns ce sl
  | .lastore => k_last pc lo st W ns ce sl
  | .iastore => k_iast pc lo st W ns ce sl
  | .invokevirtual _ => match rn.1 with
    | 1 => k_slen RC RS pc lo st W ns ce sl
    | 2 => k_schr RC RS pc lo st W ns ce sl
    | 3 => k_emp RC RS pc lo st W ns ce sl
    | _ => none
  | _ => none
def klen (ins : Instr) : Nat := match ins with
  | .new _ => 3
  | .newarray _ => 2
  | .anewarray _ => 3
  | i => zlen i
/-- what must hold of an entry -/
def kok (kini : Nat → Zm) (own : String) (nL pc : Nat) (ins : Instr) (rn : Nat × Nat × Nat × Nat × Nat × Nat) (rz : Int) : Bool := match ins with
  | .iconst n => rz == n && zgC rz
  | .bipush n => decide ((Int8.ofInt n).toInt32 = Int32.ofInt rz) && zgC rz
  | .sipush n => decide ((Int16.ofInt n).toInt32 = Int32.ofInt rz) && zgC rz
  | .lconst n => rz == ((n.val : Nat) : Int)
  | .istore_n k => Nat.blt k.val nL
  | .astore_n k => Nat.blt k.val nL
  | .iinc i n => Nat.blt i nL && (decide (Int32.ofInt n = Int32.ofInt rz) && zgC rz)
  | .goto off => (pc : Int) + off == (rn.1 : Int)
  | .if_icmp _ off => (pc : Int) + off == (rn.1 : Int)
  | .new i => match zcl[rn.1]? with
    | some (C, T, N) => zhas rn.2.1 (Jvm.Cond.classLink own i C) && (zhas rn.2.2.1 (Jvm.Cond.instantiable C N) && (zhas rn.2.2.2.1 (Jvm.Cond.initialized C) && ((N == (zft rn.1).length) && (List.range N).all (fun j => decide (defaultValue ((parseFieldDescriptor (T j).2.2.1).getD .int) = kfv (fun _ => 0) ((kdef rn.1).getD j none))))))
    | none => false
  | .newarray t => decide (newarray.typeOf t = zet rn.1) && (zhas rn.2.1 (Jvm.Cond.arrayClass (newarray.typeOf t)) && Nat.blt rn.1 3)
  | .anewarray i => (match zet rn.1 with
    | .object C => zhas rn.2.1 (Jvm.Cond.classLink own i C) && kAL.contains C
    | _ => false) && Nat.ble 3 rn.1
  | .getfield i => match zcl[rn.1]? with
    | some (C, T, N) => decide (rn.2.1 < N) && zhas rz.toNat (Jvm.Cond.fieldLink own i (T rn.2.1).1 (T rn.2.1).2.1 (T rn.2.1).2.2.1)
    | none => false
  | .putfield i => match zcl[rn.1]? with
    | some (C, T, N) => decide (rn.2.1 < N) && (decide (((zft rn.1)[rn.2.1]?).map (fun t => t.1) = some rn.2.2.1) && (zhas rz.toNat (Jvm.Cond.fieldLink own i (T rn.2.1).1 (T rn.2.1).2.1 (T rn.2.1).2.2.1) && (!(T rn.2.1).2.2.2 || decide ((T rn.2.1).1 = own))))
    | none => false
  | .invokespecial i => match rn.1 with
    | 0 => zhas rn.2.1 (Jvm.Cond.methodLink own i objectInit) && (zhas rn.2.2.1 (Jvm.Cond.instanceMethod objectInit) && zhas rn.2.2.2.1 (Jvm.Cond.code objectInit ⟨#[0xb1]⟩ 1 none))
    | 1 => zhas rn.2.2.1 (Jvm.Cond.methodLink own i (zy (kini rn.2.1)))
    | _ => decide ((own, i, zy (kini rn.2.1)) ∈ kNL)
  | .ldc i => decide (own = RX5 ∧ i = 54)
  | .ldc2_w i => zhas rn.1 (Jvm.Cond.constantLong own i (Int64.ofInt rz)) && zgCL rz
  | .invokevirtual i => match rn.1 with
    | 1 => decide (own = RX5) && zhas rn.2.1 (Jvm.Cond.methodLink own i yJ0_length_8abf5)
    | 2 => decide (own = RX5) && zhas rn.2.1 (Jvm.Cond.methodLink own i yJ0_charAt_5068e)
    | _ => decide (own = RX11) && zhas rn.2.1 (Jvm.Cond.methodLink own i (zy m_X11_empties))
  | _ => true
theorem k_erase {α : Type} {W : List α} {i : Nat} : (List.range i ++ List.range' (i + 1) (W.length - (i + 1))).map (fun j => W[j]?) = (W.eraseIdx i).map some ∨ W.length ≤ i := by
  by_cases hi : W.length ≤ i
  · exact Or.inr hi
  · left
    rw [List.eraseIdx_eq_take_drop_succ, List.map_append, List.map_append]
    congr 1
    · apply List.ext_getElem?
      intro j
      simp only [List.getElem?_map, List.getElem?_take]
      by_cases hj : j < i
      · rw [List.getElem?_range hj, if_pos hj]
        have hl : j < W.length := by omega
        simp [List.getElem?_eq_getElem hl]
      · rw [List.getElem?_eq_none (by simp; omega), if_neg hj]
        rfl
    · apply List.ext_getElem?
      intro j
      simp only [List.getElem?_map, List.getElem?_drop]
      by_cases hj : j < W.length - (i + 1)
      · rw [List.getElem?_range' hj]
        have hl : i + 1 + j < W.length := by omega
        simp [List.getElem?_eq_getElem hl]
      · rw [List.getElem?_eq_none (by simp; omega), List.getElem?_eq_none (by omega)]
        rfl
