/-! all steps together -/
section ZStep
variable {Y : List (Nat × Nat)} {own : String} {cc : ByteArray} {nL : Nat} {p : Program} {l : Launch} {e : Env} {R : Room} {s : State} {m : MethodId} {args : Array Value} {below : List Frame} {meth : Method} {c : Code} {cells slots : Nat} {Q : State → Prop} {D : va_G} {tys : List (ClassId × FieldType)} {ad : Nat → Nat} {dA : Nat → ClassId} {A : Nat → Prop} {pc n pc' : Nat} {lo lo' : ZL} {st st' : List AV} {M M' : AM}
def zlen (ins : Instr) : Nat := match ins with
  | .bipush _ => 2
  | .ldc _ => 2
  | .iload _ => 2
  | .lload _ => 2
  | .aload _ => 2
  | .istore _ => 2
  | .lstore _ => 2
  | .astore _ => 2
  | .sipush _ => 3
  | .ldc_w _ => 3
  | .ldc2_w _ => 3
  | .iinc _ _ => 3
  | .goto _ => 3
  | .getfield _ => 3
  | .putfield _ => 3
  | .invokestatic _ => 3
  | .invokevirtual _ => 3
  | .invokespecial _ => 3
  | .if_icmp _ _ => 3
  | .ifCond _ _ => 3
  | _ => 1
theorem zcl_in : ∀ q ∈ zcl, ∀ w ∈ u_ws q.1 q.2.1 q.2.2, w ∈ zws := by
  have h : zcl.all (fun q => (u_ws q.1 q.2.1 q.2.2).all (fun w => goodWord w && lw_tbl.contains w)) = true := by decide +kernel
  intro q hq w hw
  have h1 := List.all_eq_true.mp (List.all_eq_true.mp h q hq) w hw
  simp only [Bool.and_eq_true] at h1
  exact List.mem_filter.mpr ⟨List.contains_iff_mem.mp h1.2, h1.1⟩
def ztyb (q : vw_C) : Bool := (List.range q.2.2).all (fun a => (parseFieldDescriptor (q.2.1 a).2.2.1).isSome && (List.range q.2.2).all (fun b => decide (a = b) || decide ((q.2.1 a).2.1 ≠ (q.2.1 b).2.1)))
theorem zcl_ty : ∀ q ∈ zcl, ztyb q = true := by
  have h : zcl.all ztyb = true := by decide +kernel
  exact fun q hq => List.all_eq_true.mp h q hq
/-- the sort of a field by its descriptor -/
def zdsb (q : vw_C) (f : List (Nat × Nat × Nat × Nat)) : Bool := (List.range q.2.2).all (fun a => match f.getD a (9, 0, 0, 0) with
  | (0, _) => decide (parseFieldDescriptor (q.2.1 a).2.2.1 = some .int)
  | (1, _) => decide (parseFieldDescriptor (q.2.1 a).2.2.1 = some .long)
  | (2, _) => true
  | (3, _) => decide (parseFieldDescriptor (q.2.1 a).2.2.1 = some .boolean)
  | _ => false)
theorem zcl_ds : ∀ (i : Nat) (q : vw_C), zcl[i]? = some q → zdsb q (zft i) = true := by
  have h : (zcl.mapIdx (fun i q => zdsb q (zft i))).all id = true := by decide +kernel
  intro i q hq
  have h2 : (zcl.mapIdx (fun i q => zdsb q (zft i)))[i]? = some (zdsb q (zft i)) := by simp [List.getElem?_mapIdx, hq]
  exact List.all_eq_true.mp h _ (List.mem_of_getElem? h2)
theorem z_rg {z : Int} (h : zgC z = true) : g32 z := by
  simp only [zgC, Bool.and_eq_true, decide_eq_true_eq] at h
  exact (g32_iff z).mpr h
theorem z_rgL {z : Int} (h : zgCL z = true) : g64 z := by
  simp only [zgCL, Bool.and_eq_true, decide_eq_true_eq] at h
  exact (g64_iff z).mpr h
theorem z_lcmp {x y : Int} (hx : g64 x) (hy : g64 y) : lg_cmp (Int64.ofInt x) (Int64.ofInt y) = Int32.ofInt (l_cmp x y) := by
  unfold lg_cmp l_cmp
  have h1 : (Int64.ofInt x > Int64.ofInt y) ↔ y < x := by rw [gt_iff_lt, Int64.lt_iff_toInt_lt, hx, hy]
  have h2 : (Int64.ofInt x = Int64.ofInt y) ↔ x = y := by
    constructor
    · intro h
      have := congrArg Int64.toInt h
      rwa [hx, hy] at this
    · intro h; rw [h]
  by_cases e1 : y < x
  · simp [h1, e1]
  · by_cases e2 : x = y
    · simp [h1, e1, h2, e2]
    · simp [h1, e1, h2, e2]
theorem z_i2l {x : Int} (hx : g32 x) : (Int32.ofInt x).toInt64 = Int64.ofInt x ∧ g64 x := by
  have hr := (g32_iff x).mp hx
  have h64 : g64 x := (g64_iff x).mpr (by omega)
  refine ⟨?_, h64⟩
  apply Int64.toInt_inj.mp
  rw [h64, Int32.toInt_toInt64, hx]
theorem cv_cat1 {v : AV} (h : zc1 v = true) : (cv ad v).category = 1 := by rw [cat_cv, h]; rfl
theorem z_cpy (f g : Nat → Int) (sp dp n : Nat) : va_cpy (fun j => Int32.ofInt (f j)) (fun j => Int32.ofInt (g j)) sp dp n = fun j => Int32.ofInt (cp_row f g sp dp n j) := by
  funext j
  unfold va_cpy cp_row
  split <;> rfl
theorem z_cpyL (f g : Nat → Int) (sp dp n : Nat) : va_cpy (fun j => Int64.ofInt (f j)) (fun j => Int64.ofInt (g j)) sp dp n = fun j => Int64.ofInt (cp_row f g sp dp n j) := by
  funext j
  unfold va_cpy cp_row
  split <;> rfl
theorem z_nn {x : Int} (hg : g32 x) (h : 0 ≤ x) : ¬ Int32.ofInt x < 0 ∧ (Int32.ofInt x).toNatClampNeg = x.toNat := by
  constructor
  · rw [Int32.lt_iff_toInt_lt, hg]
    simp
    omega
  · rw [show (Int32.ofInt x).toNatClampNeg = (Int32.ofInt x).toInt.toNat from rfl, hg]
theorem zcat_le (r : List AV) : ((r.map (cv ad)).map fun v => v.category).sum ≤ 2 * r.length := by
  induction r with
  | nil => simp
  | cons a r ih =>
    simp only [List.map_cons, List.sum_cons, List.length_cons]
    have : (cv ad a).category ≤ 2 := by rw [cat_cv]; split <;> omega
    omega
theorem zw_nat : (Jvm.Cond.native arraycopyName) ∈ zws ∧ (Jvm.Cond.static arraycopyName) ∈ zws ∧ (Jvm.Cond.initialized "java/lang/System") ∈ zws := by
  have h : lw_tbl.contains (Jvm.Cond.native arraycopyName) && lw_tbl.contains (Jvm.Cond.static arraycopyName) && lw_tbl.contains (Jvm.Cond.initialized "java/lang/System") && goodWord (Jvm.Cond.native arraycopyName) && goodWord (Jvm.Cond.static arraycopyName) && goodWord (Jvm.Cond.initialized "java/lang/System") = true := by decide +kernel
  simp only [Bool.and_eq_true] at h
  obtain ⟨⟨⟨⟨⟨h1, h2⟩, h3⟩, h4⟩, h5⟩, h6⟩ := h
  exact ⟨List.mem_filter.mpr ⟨List.contains_iff_mem.mp h1, h4⟩, List.mem_filter.mpr ⟨List.contains_iff_mem.mp h2, h5⟩, List.mem_filter.mpr ⟨List.contains_iff_mem.mp h3, h6⟩⟩
theorem zs_copy {rn : Nat × Nat × Nat × Nat × Nat × Nat} {index : Nat} (C : zC Y own cc nL p R s m args c D tys dA A) (hl : rn.1 = 999 → Jvm.Cond.methodLink own index arraycopyName ∈ zws) (hfr : 1 ≤ R.frames) (hlo : 64 ≤ R.locals)
    (hd : decode cc pc = .ok (.invokestatic index, 3)) (hs : z_copy (pc + 3) rn lo st M = some (pc', lo', st', M')) (k : ZS Y nL p l e R s m args below meth c cells slots Q D ad dA A pc' lo' st' M') : ZS Y nL p l e R s m args below meth c cells slots Q D ad dA A pc lo st M := by
  obtain ⟨hx, hb, hml, hown, hts, hK, hT, hA, hR⟩ := C
  unfold z_copy at hs
  split at hs
  · rename_i cn dp q1 k1 n1 sp q0 k0 n0 r
    split at hs
    · rename_i hk
      simp only [Bool.and_eq_true, beq_iff_eq] at hk
      obtain ⟨⟨⟨⟨h999, hk0⟩, hk1⟩, hk2⟩, hr4⟩ := hk
      have hk2 : rn.2.1 < 2 := Nat.le_of_ble_eq_true hk2
      have hr4 : r.length ≤ 4 := Nat.le_of_ble_eq_true hr4
      split at hs
      · rename_i hin
        obtain ⟨i1, i2, i3, i4, i5⟩ := hin
        intro H locs ls hW hL hG
        have hgc : g32 cn := hG (vI cn) (by simp)
        have hgd : g32 dp := hG (vI dp) (by simp)
        have hgs : g32 sp := hG (vI sp) (by simp)
        have hq0 : Y[q0]? = some (k0, n0) := (hG (vR q0 k0 n0) (by simp)).resolve_left (by omega)
        have hq1 : Y[q1]? = some (k1, n1) := (hG (vR q1 k1 n1) (by simp)).resolve_left (by omega)
        obtain ⟨ec1, ec2⟩ := z_nn hgc i3
        obtain ⟨ed1, ed2⟩ := z_nn hgd i2
        obtain ⟨es1, es2⟩ := z_nn hgs i1
        obtain ⟨t0, ht0⟩ := hT q0 k0 n0 hq0 (by omega)
        obtain ⟨t1, ht1⟩ := hT q1 k1 n1 hq1 (by omega)
        have ha0 := zw_arr (ad := ad) (dA := dA) (M := M) hq0 (by omega)
        have ha1 := zw_arr (ad := ad) (dA := dA) (M := M) hq1 (by omega)
        have hg4 : ∀ w ∈ r, gd Y w := fun w hw => hG w (by simp [hw])
        have hmlx : c.maxLocals = ls.size := by rw [hml, hL.1]
        have hroom : ((r.map (cv ad)).map fun v => v.category).sum + (nativeFrameWords "java/lang/System" "arraycopy" 5 + 11) ≤ R.locals := by
          have h1 := zcat_le (ad := ad) r
          have h2 : nativeFrameWords "java/lang/System" "arraycopy" 5 ≤ 40 := by decide +kernel
          omega
        obtain ⟨w1, w2, w3⟩ := zw_nat
        have hset := zw_set (ad := ad) (dA := dA) (M := M) (cp_row (M q0) (M q1) sp.toNat dp.toNat cn.toNat) hq1
        have hgm : zgM Y (am_row M q1 (cp_row (M q0) (M q1) sp.toNat dp.toNat cn.toNat)) := by
          refine zgM_row _ hW.2.2.2 hq1 (fun j => ?_)
          unfold cp_row
          split
          · have := hW.2.2.2 q0 k0 n0 hq0 (sp.toNat + (j - dp.toNat))
            have e01 : k0 = k1 := by omega
            subst e01
            have h2 : k0 = 0 ∨ k0 = 1 := by omega
            rcases h2 with h | h <;> subst h <;> simpa [zgj] using this
          · exact hW.2.2.2 q1 k1 n1 hq1 j
        have hcase : rn.2.1 = 0 ∨ rn.2.1 = 1 := by omega
        rcases hcase with hz | hz
        · have e0 : k0 = 0 := by omega
          have e1 : k1 = 0 := by omega
          subst e0 e1
          cases hs
          refine va_copyi hx hb hmlx hown (hts _ (hl h999)) (hts _ w1) (hts _ w2) (hts _ w3) hK hW.1 hW.2.1 hW.2.2.1 q0 q1 t0 t1 (f := fun j => Int32.ofInt (M q0 j)) (g := fun j => Int32.ofInt (M q1 j)) ha0 ha1 ht0 ht1 rfl es1 ed1 ec1 (by rw [es2, ec2]; omega) (by rw [ed2, ec2]; omega) (fun _ _ => rfl) hfr hroom hd (fun H1 locs1 hP1 _ hS1 => ?_)
          rw [es2, ed2, ec2, z_cpy] at hP1
          have hP1 : va_P D zcl ((zw Y ad dA M).set q1 (ad q1, ze ad dA q1 (0, n1) (cp_row (M q0) (M q1) sp.toNat dp.toNat cn.toNat))) H1 := hP1
          rw [hset] at hP1
          exact k H1 locs1 ls ⟨hP1, zD_row hW.2.1, hS1, hgm⟩ hL hg4
        · have e0 : k0 = 1 := by omega
          have e1 : k1 = 1 := by omega
          subst e0 e1
          cases hs
          refine va_copyl hx hb hmlx hown (hts _ (hl h999)) (hts _ w1) (hts _ w2) (hts _ w3) hK hW.1 hW.2.1 hW.2.2.1 q0 q1 t0 t1 (f := fun j => Int64.ofInt (M q0 j)) (g := fun j => Int64.ofInt (M q1 j)) ha0 ha1 ht0 ht1 rfl es1 ed1 ec1 (by rw [es2, ec2]; omega) (by rw [ed2, ec2]; omega) (fun _ _ => rfl) hfr hroom hd (fun H1 locs1 hP1 _ hS1 => ?_)
          rw [es2, ed2, ec2, z_cpyL] at hP1
          have hP1 : va_P D zcl ((zw Y ad dA M).set q1 (ad q1, ze ad dA q1 (1, n1) (cp_row (M q0) (M q1) sp.toNat dp.toNat cn.toNat))) H1 := hP1
          rw [hset] at hP1
          exact k H1 locs1 ls ⟨hP1, zD_row hW.2.1, hS1, hgm⟩ hL hg4
      · cases hs
    · cases hs
  · cases hs
theorem zw_math : (∀ k, k < 3 → Jvm.Cond.static (zmn k) ∈ zws) ∧ Jvm.Cond.initialized "java/lang/Math" ∈ zws ∧ Jvm.Cond.code Lib.Math.min.name Lib.Math.min.code 2 (some .int) ∈ zws ∧ Jvm.Cond.code Lib.Math.max.name Lib.Math.max.code 2 (some .int) ∈ zws ∧ Jvm.Cond.code Lib.MathLoose.abs_long.x Lib.MathLoose.abs_long.code 2 (some .long) ∈ zws := by
  have hh : ∀ w : Jvm.Cond, (lw_tbl.contains w && goodWord w) = true → w ∈ zws := fun w h => by
    simp only [Bool.and_eq_true] at h
    exact List.mem_filter.mpr ⟨List.contains_iff_mem.mp h.1, h.2⟩
  refine ⟨?_, hh _ (by decide +kernel), hh _ (by decide +kernel), hh _ (by decide +kernel), hh _ (by decide +kernel)⟩
  intro k hk
  have : k = 0 ∨ k = 1 ∨ k = 2 := by omega
  rcases this with e | e | e <;> subst e <;> exact hh _ (by decide +kernel)
theorem zs_math {k0 index : Nat} (C : zC Y own cc nL p R s m args c D tys dA A) (hl : Jvm.Cond.methodLink own index (zmn k0) ∈ zws) (hfr : 1 ≤ R.frames) (hlo : 64 ≤ R.locals) (hcc : cells ≤ R.cells) (hss : slots ≤ R.slots)
    (hd : decode cc pc = .ok (.invokestatic index, 3)) (hs : z_math (pc + 3) k0 lo st M = some (pc', lo', st', M')) (k : ZS Y nL p l e R s m args below meth c cells slots Q D ad dA A pc' lo' st' M') : ZS Y nL p l e R s m args below meth c cells slots Q D ad dA A pc lo st M := by
  obtain ⟨hx, hb, hml, hown, hts, hK, hT, hA, hR⟩ := C
  obtain ⟨w1, w2, w3, w4, w5⟩ := zw_math
  unfold z_math at hs
  split at hs
  · split at hs
    · rename_i y x r
      split at hs
      · rename_i hr
        have hr : r.length ≤ 4 := Nat.le_of_ble_eq_true hr
        have hz := zcat_le (ad := ad) r
        cases hs
        intro H locs ls hW hL hG
        have hgx : g32 x := hG (vI x) (by simp)
        have hgy : g32 y := hG (vI y) (by simp)
        refine va_mmin hx hb (by rw [hml, hL.1]) hown (hts _ hl) (hts _ (w1 0 (by omega))) (hts _ w2) (hts _ w3) hfr (by omega) hcc hss hd ?_
        have e : (if Int32.ofInt y < Int32.ofInt x then Int32.ofInt y else Int32.ofInt x) = Int32.ofInt (o_min x y) := by
          unfold o_min
          have h0 : Int32.ofInt y < Int32.ofInt x ↔ y < x := by rw [Int32.lt_iff_toInt_lt, hgx, hgy]
          simp only [h0]
          split <;> rfl
        rw [e]
        exact k H locs ls hW hL (fun w hw => (List.mem_cons.mp hw).elim (fun e => by rw [e]; show g32 _; unfold o_min; split <;> assumption) (fun h => hG w (by simp [h])))
      · cases hs
    · cases hs
  · split at hs
    · rename_i y x r
      split at hs
      · rename_i hr
        have hr : r.length ≤ 4 := Nat.le_of_ble_eq_true hr
        have hz := zcat_le (ad := ad) r
        cases hs
        intro H locs ls hW hL hG
        have hgx : g32 x := hG (vI x) (by simp)
        have hgy : g32 y := hG (vI y) (by simp)
        refine va_mmax hx hb (by rw [hml, hL.1]) hown (hts _ hl) (hts _ (w1 1 (by omega))) (hts _ w2) (hts _ w4) hfr (by omega) hcc hss hd ?_
        have e : (if Int32.ofInt x < Int32.ofInt y then Int32.ofInt y else Int32.ofInt x) = Int32.ofInt (o_max x y) := by
          unfold o_max
          have h0 : Int32.ofInt x < Int32.ofInt y ↔ x < y := by rw [Int32.lt_iff_toInt_lt, hgx, hgy]
          simp only [h0]
          split <;> rfl
        rw [e]
        exact k H locs ls hW hL (fun w hw => (List.mem_cons.mp hw).elim (fun e => by rw [e]; show g32 _; unfold o_max; split <;> assumption) (fun h => hG w (by simp [h])))
      · cases hs
    · cases hs
  · rename_i n0 n1
    split at hs
    · rename_i x r
      split at hs
      · rename_i hr
        have hr : r.length ≤ 4 := Nat.le_of_ble_eq_true hr
        have hz := zcat_le (ad := ad) r
        cases hs
        intro H locs ls hW hL hG
        have hgx : g64 x := hG (vL x) (by simp)
        have hl2 : Jvm.Cond.methodLink own index Lib.MathLoose.abs_long.x ∈ zws := by
          have e : zmn k0 = Lib.MathLoose.abs_long.x := by
            unfold zmn
            split
            · exact absurd rfl n0
            · exact absurd rfl n1
            · rfl
          rw [← e]; exact hl
        refine va_mabs_long hx hb (by rw [hml, hL.1]) hown (hts _ hl2) (hts _ (w1 2 (by omega))) (hts _ w2) (hts _ w5) hfr (by omega) hcc hss hd ?_
        have e : (if 0 < Int64.ofInt x then Int64.ofInt x else -(Int64.ofInt x)) = Int64.ofInt (l_abs x) := by
          unfold l_abs
          have h0 : (0 : Int64) < Int64.ofInt x ↔ 0 < x := by rw [Int64.lt_iff_toInt_lt, hgx]; rfl
          simp only [h0]
          split
          · rfl
          · rw [Int64.ofInt_toInt]
        rw [e]
        exact k H locs ls hW hL (fun w hw => (List.mem_cons.mp hw).elim (fun e => by rw [e]; show g64 _; unfold l_abs; split; exact hgx; exact g64_of _) (fun h => hG w (by simp [h])))
      · cases hs
    · cases hs
end ZStep
