/-! all steps of the constructors' machine; runs; the contract out of a run -/
def krun (N0 : Nat → Bool) (G : Nat → Nat → Bool) (fin : Nat → Nat → KWd) (mc ms : Nat → Nat) (RC RS : Nat) (T : List ZE) (n : Nat) (s : KST) : Option KST := match n with
  | 0 => some s
  | n + 1 => match zent T s.1 with
    | some (i, rn, rz) => match kstp N0 G fin mc ms RC RS i rn rz s.1 s.2.1 s.2.2.1 s.2.2.2.1 s.2.2.2.2.1 s.2.2.2.2.2.1 s.2.2.2.2.2.2 with
      | some s' => krun N0 G fin mc ms RC RS T n s'
      | none => none
    | none => none
def kdec (cc : ByteArray) (pc : Nat) (ins : Instr) : Bool := match decode cc pc with
  | .ok (i, n) => decide (i = ins) && n == klen ins
  | _ => false
def ktab (kini : Nat → Zm) (own : String) (cc : ByteArray) (nL : Nat) (T : List ZE) : Bool := T.all (fun q => kdec cc q.1 q.2.1 && kok kini own nL q.1 q.2.1 q.2.2.1 q.2.2.2)
theorem ktab_at {kini : Nat → Zm} {own : String} {cc : ByteArray} {nL pc : Nat} {T : List ZE} {i : Instr} {rn : Nat × Nat × Nat × Nat × Nat × Nat} {rz : Int} (hT : ktab kini own cc nL T = true) (h : zent T pc = some (i, rn, rz)) : decode cc pc = .ok (i, klen i) ∧ kok kini own nL pc i rn rz = true := by
  have h1 := List.all_eq_true.mp hT _ (zent_mem h)
  simp only [Bool.and_eq_true] at h1
  refine ⟨?_, h1.2⟩
  have h2 := h1.1
  unfold kdec at h2
  split at h2
  · rename_i i2 n2 hd
    simp only [Bool.and_eq_true, decide_eq_true_eq, beq_iff_eq] at h2
    rw [hd, h2.1, h2.2]
  · cases h2
section KSound4
variable {sk : (Nat → Nat) × (Nat → Nat)} {own : String} {cc : ByteArray} {nL : Nat} {p : Program} {l : Launch} {e : Env} {R : Room} {s : State} {m : MethodId} {args : Array Value} {below : List Frame} {meth : Method} {c : Code} {Q : State → Prop} {D : va_G} {A : Nat → Prop} {N0 : Nat → Bool} {ad0 : Nat → Nat} {dA0 : Nat → ClassId} {G : Nat → Nat → Bool} {fin : Nat → Nat → KWd} {mc ms : Nat → Nat} {kini : Nat → Zm} {kd : Nat → Nat}
variable {pc n ce sl : Nat} {lo : ZL} {st : List AV} {W0 : KWd} {ns : List Nat} {y : KST}
theorem kcmp_ok {c : ClassFile.Cond} {x y : Int} : kcmpB c x y = true ↔ zcmp c x y := by
  cases c <;> simp [kcmpB, zcmp]
theorem kstep (C : kCx sk own cc nL p R s m args meth c A) (hStr : own = RX5 → kStr l ∧ (N0 999 = true ∧ ad0 999 = sk.1 0) ∧ 5 ≤ R.frames ∧ 320 ≤ R.locals) (hEmp : own = RX11 → kEmp l ∧ 2 ≤ R.frames ∧ 128 ≤ R.locals) (hM : ∀ ci q, G ci q = true → KM l (kini ci) (kd ci) (mc ci) (ms ci) ci q (fin ci q)) (hk : ∀ ci q, G ci q = true → kMo (kini ci) ∧ kd ci + 2 ≤ R.frames ∧ 64 * (kd ci + 2) ≤ R.locals)
    {ins : Instr} {rn : Nat × Nat × Nat × Nat × Nat × Nat} {rz : Int} (hd : decode cc pc = .ok (ins, klen ins)) (hok : kok kini own nL pc ins rn rz = true)
    (hs : kstp N0 G fin mc ms R.cells R.slots ins rn rz pc lo st W0 ns ce sl = some y) (k : KB nL p l e R s m args below meth c Q D A N0 ad0 dA0 y) : KB nL p l e R s m args below meth c Q D A N0 ad0 dA0 (pc, lo, st, W0, ns, ce, sl) := by
  have C0 := C
  obtain ⟨hx, hb, hml, hown, hts, hAs, hE, hin2, hfr, hlr, hSx⟩ := C0
  cases ins with
  | iconst z =>
    simp only [kok, Bool.and_eq_true, beq_iff_eq] at hok
    cases hs
    exact ks_push (v := vI rz) (fun H locs ls rest ad _ kk => lv_iconst hx hb hd (by rw [hok.1]) kk) (fun _ _ _ => z_rg hok.2) k
  | bipush z =>
    simp only [kok, Bool.and_eq_true, decide_eq_true_eq] at hok
    cases hs
    exact ks_push (v := vI rz) (fun H locs ls rest ad _ kk => lv_bipush hx hb hd hok.1 kk) (fun _ _ _ => z_rg hok.2) k
  | sipush z =>
    simp only [kok, Bool.and_eq_true, decide_eq_true_eq] at hok
    cases hs
    exact ks_push (v := vI rz) (fun H locs ls rest ad _ kk => lv_sipush hx hb hd hok.1 kk) (fun _ _ _ => z_rg hok.2) k
  | lconst z =>
    simp only [kok, beq_iff_eq] at hok
    cases hs
    exact ks_push (v := vL rz) (fun H locs ls rest ad _ kk => lv_lconst hx hb hd (by rw [hok]; rfl) kk) (fun _ _ _ => by rw [hok]; exact (g64_iff _).mpr (by have := z.isLt; omega)) k
  | aload_n i =>
    simp only [kstp] at hs
    split at hs
    · rename_i q k2 l2 hg
      cases hs
      exact ks_push (v := vR q k2 l2) (fun H locs ls rest ad hL kk => lv_aload_n hx hb hd rfl (hL.2.2 _ _ hg).1 kk) (fun ad ls hL => (hL.2.2 _ _ hg).2) k
    · cases hs
  | iload_n i =>
    simp only [kstp] at hs
    split at hs
    · rename_i x hg
      cases hs
      exact ks_push (v := vI x) (fun H locs ls rest ad hL kk => lv_iload_n hx hb hd rfl (hL.2.2 _ _ hg).1 kk) (fun ad ls hL => (hL.2.2 _ _ hg).2) k
    · cases hs
  | istore_n i =>
    simp only [kstp] at hs
    split at hs
    · split at hs
      · cases hs
      · rename_i x r _ hz
        cases hs
        intro ad dA tys hA H locs ls hP hD hS hK hT hL hG
        exact lv_istore_n hx hb hd rfl hL.has (Nat.le_of_ble_eq_true hok) rfl (fun ls' h' => k ad dA tys hA H locs ls' hP hD hS hK hT (hL.store1 (v := vI x) (hG _ List.mem_cons_self) hz h') (fun w hw => hG w (List.mem_cons_of_mem _ hw)))
    · cases hs
  | astore_n i =>
    simp only [kstp] at hs
    split at hs
    · split at hs
      · cases hs
      · rename_i q k2 l2 r _ hz
        cases hs
        intro ad dA tys hA H locs ls hP hD hS hK hT hL hG
        exact lv_astore_n hx hb hd rfl hL.has (Nat.le_of_ble_eq_true hok) rfl (fun ls' h' => k ad dA tys hA H locs ls' hP hD hS hK hT (hL.store1 (v := vR q k2 l2) (hG _ List.mem_cons_self) hz h') (fun w hw => hG w (List.mem_cons_of_mem _ hw)))
    · cases hs
  | iinc i z =>
    simp only [kok, Bool.and_eq_true, decide_eq_true_eq] at hok
    simp only [kstp] at hs
    split at hs
    · rename_i x hg
      split at hs
      · cases hs
      · rename_i hz
        cases hs
        simp only [Bool.or_eq_false_iff, Bool.not_eq_false'] at hz
        obtain ⟨hz, hgx⟩ := hz
        intro ad dA tys hA H locs ls hP hD hS hK hT hL hG
        obtain ⟨hw1, hw2, hw3⟩ := hL.has
        obtain ⟨j, hj⟩ := List.getElem?_of_mem (zlv_mem.mpr ⟨i, _, hg, rfl⟩ : (0 + i, cv ad (vI x)) ∈ zlv ad 0 lo)
        rw [Nat.zero_add] at hj
        have hgi : g32 x := (hL.2.2 _ _ hg).2
        have e9 : Int32.ofInt x + Int32.ofInt z = Int32.ofInt (x + rz) := by
          rw [hok.2.1, ← Int32.ofInt_add]
        exact lv_iinc hx hb hd hL.has (k := j) hj (v := Int32.ofInt (x + rz)) e9 (Nat.le_of_ble_eq_true hok.1) rfl (fun ls' h' => k ad dA tys hA H locs ls' hP hD hS hK hT (hL.store1 (v := vI (x + rz)) (z_rg hgx) hz h') hG)
    · cases hs
  | dup =>
    simp only [kstp] at hs
    split at hs
    · rename_i q k2 l2 r
      cases hs
      intro ad dA tys hA H locs ls hP hD hS hK hT hL hG
      exact lv_dup hx hb hd rfl (k ad dA tys hA H locs ls hP hD hS hK hT hL (fun w hw => (List.mem_cons.mp hw).elim (fun e => by rw [e]; exact hG _ List.mem_cons_self) (fun h => hG w h)))
    · cases hs
  | goto off =>
    simp only [kok, beq_iff_eq] at hok
    cases hs
    intro ad dA tys hA H locs ls hP hD hS hK hT hL hG
    exact lv_goto hx hb hd hok (k ad dA tys hA H locs ls hP hD hS hK hT hL hG)
  | if_icmp cd off =>
    simp only [kok, beq_iff_eq] at hok
    simp only [kstp] at hs
    split at hs
    · rename_i yv xv r
      intro ad dA tys hA H locs ls hP hD hS hK hT hL hG
      have hx1 : g32 xv := hG (vI xv) (by simp)
      have hy1 : g32 yv := hG (vI yv) (by simp)
      have hr : ∀ w ∈ r, gd [] w := fun w h => hG w (by simp [h])
      have KT : zcmp cd xv yv → W p l e R s m args below meth c H locs ce sl Q (F0 m rn.1 ls (r.map (cv ad))) := fun h => by
        rw [kcmp_ok.mpr h] at hs
        cases hs
        exact k ad dA tys hA H locs ls hP hD hS hK hT hL hr
      have KF : ¬ zcmp cd xv yv → W p l e R s m args below meth c H locs ce sl Q (F0 m (pc + 3) ls (r.map (cv ad))) := fun h => by
        rw [show kcmpB cd xv yv = false from by cases hb : kcmpB cd xv yv with | false => rfl | true => exact absurd (kcmp_ok.mp hb) h] at hs
        cases hs
        exact k ad dA tys hA H locs ls hP hD hS hK hT hL hr
      cases cd with
      | eq => exact lv_icmp_eq hx hb hd hok (fun h => KT ((i32_eq hx1 hy1).mp h)) (fun h => KF (fun h2 => h ((i32_eq hx1 hy1).mpr h2)))
      | ne => exact lv_icmp_ne hx hb hd hok (fun h => KT (fun h2 => h ((i32_eq hx1 hy1).mpr h2))) (fun h => KF (fun h2 => h2 ((i32_eq hx1 hy1).mp h)))
      | lt => exact lv_icmp_lt hx hb hd hok (fun h => KT ((i32_lt hx1 hy1).mp h)) (fun h => KF (fun h2 => h ((i32_lt hx1 hy1).mpr h2)))
      | ge => exact lv_icmp_ge hx hb hd hok (fun h => KT ((i32_le hy1 hx1).mp h)) (fun h => KF (fun h2 => h ((i32_le hy1 hx1).mpr h2)))
      | gt => exact lv_icmp_gt hx hb hd hok (fun h => KT ((i32_lt hy1 hx1).mp h)) (fun h => KF (fun h2 => h ((i32_lt hy1 hx1).mpr h2)))
      | le => exact lv_icmp_le hx hb hd hok (fun h => KT ((i32_le hx1 hy1).mp h)) (fun h => KF (fun h2 => h ((i32_le hx1 hy1).mpr h2)))
    · cases hs
  | new i =>
    simp only [kok] at hok
    split at hok
    · rename_i Cn T N hc
      simp only [Bool.and_eq_true, beq_iff_eq, List.all_eq_true, List.mem_range, decide_eq_true_eq] at hok
      exact ks_new C hc hok.1 hok.2.1 hok.2.2.1 hok.2.2.2.1 hok.2.2.2.2 hd hs k
    · cases hok
  | newarray t =>
    simp only [kok, Bool.and_eq_true, decide_eq_true_eq] at hok
    exact ks_newarr C hok.1 hok.2.1 (Nat.blt_eq.mp hok.2.2) hd hs k
  | anewarray i =>
    simp only [kok, Bool.and_eq_true] at hok
    obtain ⟨h1, h2⟩ := hok
    split at h1
    · rename_i Cn hc
      simp only [Bool.and_eq_true] at h1
      exact ks_newarrq C hc h1.1 (List.contains_iff_mem.mp h1.2) (Nat.le_of_ble_eq_true h2) hd hs k
    · cases h1
  | getfield i =>
    simp only [kok] at hok
    split at hok
    · rename_i Cn T N hc
      simp only [Bool.and_eq_true, decide_eq_true_eq] at hok
      exact ks_get C hc hok.1 hok.2 hd hs k
    · cases hok
  | putfield i =>
    simp only [kok] at hok
    split at hok
    · rename_i Cn T N hc
      simp only [Bool.and_eq_true, decide_eq_true_eq] at hok
      exact ks_put C hc hok.1 hok.2.1 hok.2.2.1 hok.2.2.2 hd hs k
    · cases hok
  | aastore => exact ks_aast C hd hs k
  | invokespecial i =>
    obtain ⟨r1, r2, r3, r4, r5, r6⟩ := rn
    simp only [kstp] at hs
    match r1, hok, hs with
    | 0, hok, hs =>
      simp only [kok, Bool.and_eq_true] at hok
      replace hs : k_obj pc lo st W0 ns ce sl = some y := hs
      unfold k_obj at hs
      split at hs
      · rename_i r _
        split at hs
        · rename_i hr4
          cases hs
          intro ad dA tys hA H locs ls hP hD hS hK hT hL hG
          have h8 := zcat_small (ad := ad) (Nat.le_of_ble_eq_true hr4)
          exact W.objInit hx hb hown (hts _ (zhas_mem hok.1)) (hts _ (zhas_mem hok.2.1)) (hts _ (zhas_mem hok.2.2)) rfl (by rw [hml]; exact hL.1) rfl hd hfr (by show 2 * 0 + ((r.map (cv ad)).map fun v => v.category).sum + 12 ≤ R.locals; omega) (k ad dA tys hA H locs ls hP hD hS hK hT hL (fun w hw => hG w (List.mem_cons_of_mem _ hw)))
        · cases hs
      · cases hs
    | 1, hok, hs => exact ks_call C (hM r2) (hk r2) (Or.inl (zhas_mem hok)) hd hs k
    | n + 2, hok, hs => exact ks_call C (hM r2) (hk r2) (Or.inr (of_decide_eq_true hok)) hd hs k
  | ldc i =>
    simp only [kok, decide_eq_true_eq] at hok
    obtain ⟨ho, rfl⟩ := hok
    obtain ⟨h1, h2, h3, h4⟩ := hStr ho
    simp only [kstp] at hs
    split at hs
    · cases hs
      intro ad dA tys hA H locs ls hP hD hS hK hT hL hG
      have e9 : ad 999 = sk.1 0 := (hA 999 h2.1).1.trans h2.2
      refine va_ldcS hx hb hown (by rw [ho]; exact hSx.2.2.2) hd ?_
      rw [← e9]
      exact k ad dA tys hA H locs ls hP hD hS hK hT hL (fun w hw => (List.mem_cons.mp hw).elim (fun e => by rw [e]; exact Or.inl rfl) (hG w))
    · cases hs
  | ldc2_w i =>
    simp only [kok, Bool.and_eq_true] at hok
    cases hs
    exact ks_push (v := vL rz) (fun H locs ls rest ad _ kk => lv_ldc2 hx hb hown (hts _ (zhas_mem hok.1)) hd kk) (fun _ _ _ => z_rgL hok.2) k
  | iadd => exact ks_bin (F := fun x y => x + y) (fun x y => (Int32.ofInt_add x y).symm) (fun H locs ls rest x y kk => lv_iadd hx hb hd kk) hs k
  | isub => exact ks_bin (F := fun x y => x - y) (fun x y => (Int32.ofInt_sub x y).symm) (fun H locs ls rest x y kk => lv_isub hx hb hd kk) hs k
  | imul => exact ks_bin (F := fun x y => x * y) (fun x y => (Int32.ofInt_mul x y).symm) (fun H locs ls rest x y kk => lv_imul hx hb hd kk) hs k
  | ladd => exact ks_binL (F := fun x y => x + y) (fun x y => (Int64.ofInt_add x y).symm) (fun H locs ls rest x y kk => lv_ladd hx hb hd kk) hs k
  | lmul => exact ks_binL (F := fun x y => x * y) (fun x y => (Int64.ofInt_mul x y).symm) (fun H locs ls rest x y kk => lv_lmul hx hb hd kk) hs k
  | i2l =>
    simp only [kstp] at hs
    split at hs
    · rename_i x r
      cases hs
      intro ad dA tys hA H locs ls hP hD hS hK hT hL hG
      have hxg : g32 x := hG (vI x) (by simp)
      exact lv_i2l hx hb hd (z_i2l hxg).1 (k ad dA tys hA H locs ls hP hD hS hK hT hL (fun w hw => (List.mem_cons.mp hw).elim (fun e => by rw [e]; exact (z_i2l hxg).2) (fun h => hG w (List.mem_cons_of_mem _ h))))
    · cases hs
  | laload => exact ks_lald C hd hs k
  | lastore => exact ks_last C hd hs k
  | iastore => exact ks_iast C hd hs k
  | invokevirtual i =>
    obtain ⟨r1, r2, r3, r4, r5, r6⟩ := rn
    match r1, hok, hs with
    | 0, hok, hs => cases hs
    | 1, hok, hs =>
      simp only [kok, Bool.and_eq_true, decide_eq_true_eq] at hok
      obtain ⟨h1, h2, h3, h4⟩ := hStr hok.1
      exact ks_slen C h1 h2 hok.2 h3 h4 hd hs k
    | 2, hok, hs =>
      have hok : (decide (own = RX5) && zhas r2 (Jvm.Cond.methodLink own i yJ0_charAt_5068e)) = true := hok
      simp only [Bool.and_eq_true, decide_eq_true_eq] at hok
      obtain ⟨h1, h2, h3, h4⟩ := hStr hok.1
      exact ks_schr C h1 h2 hok.2 h3 h4 hd hs k
    | 3, hok, hs =>
      have hok : (decide (own = RX11) && zhas r2 (Jvm.Cond.methodLink own i (zy m_X11_empties))) = true := hok
      simp only [Bool.and_eq_true, decide_eq_true_eq] at hok
      obtain ⟨h1, h3, h4⟩ := hEmp hok.1
      exact ks_emp C h1 hok.2 h3 h4 hd hs k
    | n + 4, hok, hs => cases hs
  | _ => cases hs
theorem kruns {T : List ZE} (C : kCx sk own cc nL p R s m args meth c A) (hStr : own = RX5 → kStr l ∧ (N0 999 = true ∧ ad0 999 = sk.1 0) ∧ 5 ≤ R.frames ∧ 320 ≤ R.locals) (hEmp : own = RX11 → kEmp l ∧ 2 ≤ R.frames ∧ 128 ≤ R.locals) (hM : ∀ ci q, G ci q = true → KM l (kini ci) (kd ci) (mc ci) (ms ci) ci q (fin ci q)) (hk : ∀ ci q, G ci q = true → kMo (kini ci) ∧ kd ci + 2 ≤ R.frames ∧ 64 * (kd ci + 2) ≤ R.locals) (hT : ktab kini own cc nL T = true) :
    ∀ (n : Nat) (x y : KST), krun N0 G fin mc ms R.cells R.slots T n x = some y → KB nL p l e R s m args below meth c Q D A N0 ad0 dA0 y → KB nL p l e R s m args below meth c Q D A N0 ad0 dA0 x := by
  intro n
  induction n with
  | zero =>
    intro x y h k
    cases h
    exact k
  | succ n ih =>
    intro x y h k
    simp only [krun] at h
    split at h
    · rename_i i rn rz he
      split at h
      · rename_i s' hs
        obtain ⟨h1, h2⟩ := ktab_at hT he
        exact kstep C hStr hEmp hM hk h1 h2 hs (ih s' y h k)
      · cases h
    · cases h
end KSound4
