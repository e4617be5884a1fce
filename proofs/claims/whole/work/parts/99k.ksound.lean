/-! the constructors' machine is sound -/
def krm (d mc ms : Nat) : Room := { frames := d + 1, cells := mc, slots := ms, locals := 64 * (d + 1) }
def kQ (Wi Wo : KWd) (D : va_G) (ad : Nat → Nat) (dA : Nat → ClassId) (A : Nat → Prop) : Array Value → State → Outcome → State → Prop :=
  va_Qv (S := (Nat → Nat) × (Nat → ClassId) × List (ClassId × FieldType)) (fun u => ∀ x ∈ Wi, u.1 x.1 = ad x.1 ∧ u.2.1 x.1 = dA x.1) (fun u t => va_P D zcl (kw u.1 u.2.1 Wo) t.heap ∧ va_K D zcl u.2.2 t ∧ kT Wo u.2.1 u.2.2 ∧ va_D A (kw u.1 u.2.1 Wo)) A
def kPre (sk : (Nat → Nat) × (Nat → Nat)) (D : va_G) (ad : Nat → Nat) (dA : Nat → ClassId) (sz : Nat) (Wi : KWd) (U : State) : Prop := U.heap.size = sz ∧ va_P D zcl (kw ad dA Wi) U.heap ∧ va_K D zcl [] U ∧ va_D (fun _ => True) (kw ad dA Wi) ∧ kE U ∧ kSx sk (va_A (kw ad dA Wi) sz) U U.heap
def kWi (ci q : Nat) : KWd := [(q, .inr (ci, kdef ci))]
/-- THE CONTRACT of a constructor, on an object of the class ci that is named q -/
def KM (l : Launch) (f : Zm) (d mc ms ci q : Nat) (Wo : KWd) : Prop := ∀ (sk : (Nat → Nat) × (Nat → Nat)) (D : va_G) (ad : Nat → Nat) (dA : Nat → ClassId) (sz : Nat),
  Met l (zy f) (Jvm.Cond.code (zy f) (zc f) (zn f) (zr f) :: zws) (krm d mc ms) (va_Pc [.ref (ad q)] (kPre sk D ad dA sz (kWi ci q))) (kQ (kWi ci q) Wo D ad dA (va_A (kw ad dA (kWi ci q)) sz)) mc ms (va_A (kw ad dA (kWi ci q)) sz)
def kmOk (f : Zm) (ix : Nat × Nat × Nat) : Bool := zhas ix.1 (Jvm.Cond.code (zy f) (zc f) (zn f) none) && (zhas ix.2.1 (Jvm.Cond.initialized (zy f).cls) && (zhas ix.2.2 (Jvm.Cond.instanceMethod (zy f)) && (plainName (zy f).cls && (decide ((zy f).cls ≠ "java/lang/invoke/MethodHandle" ∧ (zy f).cls ≠ "java/lang/invoke/VarHandle" ∧ (parseMethodDescriptor (zy f).desc).map (fun d => d.parameters.length) = some 0) && (Nat.ble (zn f) 40 && (decide ((zy f).name = "<init>") && decide (zr f = none)))))))
def kMo (f : Zm) : Prop := ∃ ix, kmOk f ix = true
theorem kMo.spec {f : Zm} (h : kMo f) : Jvm.Cond.code (zy f) (zc f) (zn f) (zr f) ∈ zws ∧ Jvm.Cond.initialized (zy f).cls ∈ zws ∧ Jvm.Cond.instanceMethod (zy f) ∈ zws ∧ plainName (zy f).cls = true ∧ ((zy f).cls ≠ "java/lang/invoke/MethodHandle" ∧ (zy f).cls ≠ "java/lang/invoke/VarHandle" ∧ (parseMethodDescriptor (zy f).desc).map (fun d => d.parameters.length) = some 0) ∧ zn f ≤ 40 ∧ (zy f).name = "<init>" ∧ zr f = none := by
  obtain ⟨ix, h⟩ := h
  simp only [kmOk, Bool.and_eq_true, decide_eq_true_eq] at h
  obtain ⟨h1, h2, h3, h4, h5, h6, h7, h8⟩ := h
  rw [h8]
  exact ⟨zhas_mem h1, zhas_mem h2, zhas_mem h3, h4, h5, Nat.le_of_ble_eq_true h6, h7, rfl⟩
theorem kgoodIn {f : Zm} (h : Jvm.Cond.code (zy f) (zc f) (zn f) (zr f) ∈ zws) : GoodIn zws (Jvm.Cond.code (zy f) (zc f) (zn f) (zr f) :: zws) := by
  intro w hw
  have h1 : w ∈ zws := (List.mem_cons.mp hw).elim (fun e => e ▸ h) id
  exact ⟨h1, good_of_word (List.mem_filter.mp h1).2⟩
def kCx (sk : (Nat → Nat) × (Nat → Nat)) (own : String) (cc : ByteArray) (nL : Nat) (p : Program) (R : Room) (s : State) (m : MethodId) (args : Array Value) (meth : Method) (c : Code) (A : Nat → Prop) : Prop :=
  p.tables.exec = Jvm.exec ∧ c.code = cc ∧ c.maxLocals = nL ∧ s.vm.findClass own = some m.cls ∧ (∀ w ∈ zws, w.before args s = true) ∧ (∀ q : Nat, s.heap.size ≤ q → A q) ∧ kE s ∧ (meth.name = "<init>" ∨ own = "BellPullHouseLaw") ∧ 1 ≤ R.frames ∧ 64 ≤ R.locals ∧ kSx sk A s s.heap
/-- from the state x on, the machine comes to Q, wherever the names lie (those of N0 as given) -/
def KB (nL : Nat) (p : Program) (l : Launch) (e : Env) (R : Room) (s : State) (m : MethodId) (args : Array Value) (below : List Frame) (meth : Method) (c : Code) (Q : State → Prop) (D : va_G) (A : Nat → Prop) (N0 : Nat → Bool) (ad0 : Nat → Nat) (dA0 : Nat → ClassId) (x : KST) : Prop :=
  ∀ (ad : Nat → Nat) (dA : Nat → ClassId) (tys : List (ClassId × FieldType)), (∀ j, N0 j = true → ad j = ad0 j ∧ dA j = dA0 j) →
  ∀ (H : Heap) (locs : List Loc) (ls : Array Slot), va_P D zcl (kw ad dA x.2.2.2.1) H → va_D A (kw ad dA x.2.2.2.1) → va_S A s.heap H locs → va_K D zcl tys s → kT x.2.2.2.1 dA tys → zLo [] ad nL x.2.1 ls → (∀ v ∈ x.2.2.1, gd [] v) →
    W p l e R s m args below meth c H locs x.2.2.2.2.2.1 x.2.2.2.2.2.2 Q (F0 m x.1 ls (x.2.2.1.map (cv ad)))
section KSound
variable {sk : (Nat → Nat) × (Nat → Nat)} {own : String} {cc : ByteArray} {nL : Nat} {p : Program} {l : Launch} {e : Env} {R : Room} {s : State} {m : MethodId} {args : Array Value} {below : List Frame} {meth : Method} {c : Code} {Q : State → Prop} {D : va_G} {A : Nat → Prop} {N0 : Nat → Bool} {ad0 : Nat → Nat} {dA0 : Nat → ClassId} {G : Nat → Nat → Bool} {fin : Nat → Nat → KWd} {mc ms : Nat → Nat} {kini : Nat → Zm} {kd : Nat → Nat}
variable {pc n ce sl : Nat} {lo : ZL} {st : List AV} {W0 : KWd} {ns : List Nat} {y : KST}
theorem ks_push {v : AV} (row : ∀ (H : Heap) (locs : List Loc) (ls : Array Slot) (rest : List Value) (ad : Nat → Nat), zLo [] ad nL lo ls → W p l e R s m args below meth c H locs ce sl Q (F0 m n ls (cv ad v :: rest)) → W p l e R s m args below meth c H locs ce sl Q (F0 m pc ls rest)) (hv : ∀ (ad : Nat → Nat) (ls : Array Slot), zLo [] ad nL lo ls → gd [] v) (k : KB nL p l e R s m args below meth c Q D A N0 ad0 dA0 (n, lo, v :: st, W0, ns, ce, sl)) : KB nL p l e R s m args below meth c Q D A N0 ad0 dA0 (pc, lo, st, W0, ns, ce, sl) :=
  fun ad dA tys hA H locs ls hP hD hS hK hT hL hG => row H locs ls _ ad hL (k ad dA tys hA H locs ls hP hD hS hK hT hL (fun w hw => (List.mem_cons.mp hw).elim (fun e => e ▸ hv ad ls hL) (hG w)))
theorem kfresh_spec {L : List Nat} (h : kfresh N0 L lo st W0 = true) : W0.all (kpN (kno L)) = true ∧ st.all (kavN (kno L)) = true ∧ lo.all (kovN (kno L)) = true ∧ ∀ j, N0 j = true → kno L j = true := by
  simp only [kfresh, Bool.and_eq_true] at h
  obtain ⟨h1, h2, h3, h4⟩ := h
  refine ⟨h1, h2, h3, fun j hj => ?_⟩
  simp only [kno, Bool.not_eq_true']
  cases hc : L.contains j with
  | false => rfl
  | true =>
    have := List.all_eq_true.mp h4 j (List.contains_iff_mem.mp hc)
    rw [hj] at this
    cases this
/-- behind the making of a cell -/
theorem ks_made {q : Nat} {c0 : KC} (hf : kfresh N0 [q] lo st W0 = true) (hc0 : kcN (kno [q]) c0 = true) (k : KB nL p l e R s m args below meth c Q D A N0 ad0 dA0 (n, lo, vR q 9 0 :: st, W0 ++ [(q, c0)], ns, ce, sl))
    {ad : Nat → Nat} {dA : Nat → ClassId} {tys : List (ClassId × FieldType)} (hA : ∀ j, N0 j = true → ad j = ad0 j ∧ dA j = dA0 j) {H1 : Heap} {locs : List Loc} {ls : Array Slot} (a : Nat) (cA : ClassId) {E : va_E} (hE : E = kce (kmix [q] (fun _ => a) ad) (kmix [q] (fun _ => cA) dA) q c0)
    (hP : va_P D zcl (kw ad dA W0 ++ [(a, E)]) H1) (hD : va_D A (kw ad dA W0 ++ [(a, E)])) (hS : va_S A s.heap H1 locs) (t2 : List (ClassId × FieldType)) (hK : va_K D zcl (tys ++ t2) s) (hT : kT W0 dA tys) (hT2 : kT [(q, c0)] (kmix [q] (fun _ => cA) dA) (tys ++ t2)) (hL : zLo [] ad nL lo ls) (hG : ∀ v ∈ st, gd [] v) :
    W p l e R s m args below meth c H1 locs ce sl Q (F0 m n ls (.ref a :: st.map (cv ad))) := by
  obtain ⟨f1, f2, f3, f4⟩ := kfresh_spec hf
  have hq : kmix [q] (fun _ => a) ad q = a := kmix_in (by simp)
  have e1 : kw ad dA W0 = kw (kmix [q] (fun _ => a) ad) (kmix [q] (fun _ => cA) dA) W0 := kw_congr (fun j hj => ⟨kmix_out hj, kmix_out hj⟩) f1
  have e2 : Value.ref a :: st.map (cv ad) = (vR q 9 0 :: st).map (cv (kmix [q] (fun _ => a) ad)) := by
    rw [List.map_cons, ← kst_congr (fun j hj => kmix_out (a := fun _ => a) hj) f2]
    show _ = Value.ref _ :: _
    rw [hq]
  have e3 : kw ad dA W0 ++ [(a, E)] = kw (kmix [q] (fun _ => a) ad) (kmix [q] (fun _ => cA) dA) (W0 ++ [(q, c0)]) := by
    rw [kw_app, ← e1, hE]
    show _ = _ ++ [(kmix [q] (fun _ => a) ad q, _)]
    rw [hq]
  rw [e2]
  rw [e3] at hP hD
  refine k _ _ (tys ++ t2) (fun j hj => ?_) H1 locs ls hP hD hS hK (kT_app (kT_more (kT_congr (fun j hj => kmix_out hj) f1 hT)) hT2) (klo_congr (fun j hj => kmix_out hj) f3 hL) (fun v hv => (List.mem_cons.mp hv).elim (fun e => by rw [e]; exact Or.inl rfl) (hG v))
  rw [← kmix_out (f4 j hj), ← kmix_out (f4 j hj)]
  exact hA j hj
theorem kdef_v {ci : Nat} {ad ad' : Nat → Nat} {o : Option AV} (h : o ∈ kdef ci) : kfv ad o = kfv ad' o := by
  simp only [kdef, List.mem_map] at h
  obtain ⟨t, -, rfl⟩ := h
  by_cases h1 : t.1 = 1
  · rw [if_pos h1]; rfl
  · rw [if_neg h1]
    by_cases h2 : t.1 = 2
    · rw [if_pos h2]; rfl
    · rw [if_neg h2]; rfl
theorem kdef_N {ci : Nat} {N : Nat → Bool} : kcN N (.inr (ci, kdef ci)) = true := by
  refine List.all_eq_true.mpr (fun o ho => ?_)
  simp only [kdef, List.mem_map] at ho
  obtain ⟨t, -, rfl⟩ := ho
  by_cases h1 : t.1 = 1
  · rw [if_pos h1]; rfl
  · rw [if_neg h1]
    by_cases h2 : t.1 = 2
    · rw [if_pos h2]; rfl
    · rw [if_neg h2]; rfl
theorem kdef_get {ci j : Nat} {ad : Nat → Nat} : vp_V ((kdef ci).map (kfv ad)) j = kfv (fun _ => 0) ((kdef ci).getD j none) := by
  unfold vp_V
  rw [List.getD_eq_getElem?_getD, List.getD_eq_getElem?_getD, List.getElem?_map]
  cases h : (kdef ci)[j]? with
  | none => rfl
  | some o => exact kdef_v (List.mem_of_getElem? h)
theorem zcl_parse {i : Nat} {C : String} {T : u_T} {N : Nat} (hc : zcl[i]? = some (C, T, N)) : (∀ a, a < N → parseFieldDescriptor (T a).2.2.1 = some ((parseFieldDescriptor (T a).2.2.1).getD .int)) ∧ ∀ a, a < N → ∀ b, b < N → a ≠ b → (T a).2.1 ≠ (T b).2.1 := by
  have hty := zcl_ty _ (List.mem_of_getElem? hc)
  simp only [ztyb, List.all_eq_true, List.mem_range, Bool.and_eq_true, Bool.or_eq_true, decide_eq_true_eq] at hty
  refine ⟨fun a ha => ?_, fun a ha b hb' hne => ((hty a ha).2 b hb').resolve_left hne⟩
  have h7 := (hty a ha).1
  cases h8 : parseFieldDescriptor (T a).2.2.1 with
  | none => rw [h8] at h7; cases h7
  | some t => rfl
theorem ks_new (C : kCx sk own cc nL p R s m args meth c A) {i ci i1 i2 i3 : Nat} {Cn : String} {T : u_T} {N : Nat} (hc : zcl[ci]? = some (Cn, T, N)) (h1 : zhas i1 (Jvm.Cond.classLink own i Cn) = true) (h2 : zhas i2 (Jvm.Cond.instantiable Cn N) = true) (h3 : zhas i3 (Jvm.Cond.initialized Cn) = true) (h4 : N = (zft ci).length) (h5 : ∀ j, j < N → defaultValue ((parseFieldDescriptor (T j).2.2.1).getD .int) = kfv (fun _ => 0) ((kdef ci).getD j none)) (hd : decode cc pc = .ok (.new i, 3))
    (hs : k_new N0 R.cells R.slots pc ci lo st W0 ns ce sl = some y) (k : KB nL p l e R s m args below meth c Q D A N0 ad0 dA0 y) : KB nL p l e R s m args below meth c Q D A N0 ad0 dA0 (pc, lo, st, W0, ns, ce, sl) := by
  obtain ⟨hx, hb, hml, hown, hts, hAs, hE, hin2, hfr, hlr, hSx⟩ := C
  unfold k_new at hs
  split at hs
  · cases hs
  · rename_i q ns'
    split at hs
    · rename_i hf
      cases hs
      simp only [Bool.and_eq_true] at hf
      obtain ⟨hf, hce, hsl⟩ := hf
      intro ad dA tys hA H locs ls hP hD hS hK hT hL hG
      subst h4
      refine va_new (ci := ci) (C := Cn) (T := T) (N := (zft ci).length) (fs := (kdef ci).map (kfv ad)) hx hb hts (fun w hw => zcl_in _ (List.mem_of_getElem? hc) w hw) (fun a => (parseFieldDescriptor (T a).2.2.1).getD .int) (zcl_parse hc).1 hown (hts _ (zhas_mem h1)) (hts _ (zhas_mem h2)) (hts _ (zhas_mem h3)) hK hP hD hS hAs hc (fun j hj => by rw [kdef_get]; exact h5 j hj) (Nat.le_of_ble_eq_true hce) (Nat.le_of_ble_eq_true hsl) hd (fun a H1 hP1 hD1 hS1 => ?_)
      refine ks_made hf kdef_N k hA a (dA q) ?_ hP1 hD1 hS1 [] (by rw [List.append_nil]; exact hK) hT ?_ hL hG
      · show Sum.inr _ = Sum.inr _
        rw [show (kdef ci).map (kfv ad) = (kdef ci).map (kfv (kmix [q] (fun _ => a) ad)) from List.map_congr_left (fun o ho => kdef_v ho)]
      · intro i2 q2 k2 n2 rs2 hi
        match i2, hi with
        | 0, hi => cases hi
        | i2 + 1, hi => cases hi
    · cases hs
theorem ks_newarr (C : kCx sk own cc nL p R s m args meth c A) {at1 : ArrayType} {kk i1 : Nat} (h0 : newarray.typeOf at1 = zet kk) (h1 : zhas i1 (Jvm.Cond.arrayClass (newarray.typeOf at1)) = true) (h3 : kk < 3) (hd : decode cc pc = .ok (.newarray at1, 2))
    (hs : k_newa N0 R.cells R.slots (pc + 2) kk lo st W0 ns ce sl = some y) (k : KB nL p l e R s m args below meth c Q D A N0 ad0 dA0 y) : KB nL p l e R s m args below meth c Q D A N0 ad0 dA0 (pc, lo, st, W0, ns, ce, sl) := by
  obtain ⟨hx, hb, hml, hown, hts, hAs, hE, hin2, hfr, hlr, hSx⟩ := C
  unfold k_newa at hs
  split at hs
  · cases hs
  · rename_i q ns'
    split at hs
    · rename_i x r
      split at hs
      · rename_i hf
        cases hs
        simp only [Bool.and_eq_true, decide_eq_true_eq] at hf
        obtain ⟨hf, hx0, hx1, hce, hsl⟩ := hf
        have hx1 := Nat.le_of_ble_eq_true hx1
        intro ad dA tys hA H locs ls hP hD hS hK hT hL hG
        have hgx : g32 x := hG (vI x) List.mem_cons_self
        have hnn : ¬ Int32.ofInt x < 0 := by
          rw [← z0, i32_lt hgx g32_0]
          omega
        have hN : (Int32.ofInt x).toNatClampNeg = x.toNat := by
          show (Int32.ofInt x).toInt.toNat = _
          rw [hgx]
        have hby : x.toNat * componentBytes (zet kk) ≤ 536870912 := by
          have : componentBytes (zet kk) ≤ 8 := by
            have : kk = 0 ∨ kk = 1 ∨ kk = 2 := by omega
            rcases this with rfl | rfl | rfl <;> decide
          calc x.toNat * componentBytes (zet kk) ≤ 2000 * 8 := Nat.mul_le_mul hx1 this
            _ ≤ 536870912 := by decide
        refine va_newa (a0 := kea ad kk x.toNat []) hx hb (hts _ (zhas_mem h1)) h0 hK hP hD hS hAs (fun cA => ?_) hnn hN hby (Nat.le_of_ble_eq_true hce) (Nat.le_of_ble_eq_true hsl) hd (fun a cA H1 hK1 hP1 hD1 hS1 => ?_)
        · have : kk = 0 ∨ kk = 1 ∨ kk = 2 := by omega
          rcases this with rfl | rfl | rfl <;> rfl
        · refine ks_made hf ?_ k hA a cA ?_ hP1 hD1 hS1 [(cA, zet kk)] hK1 hT ?_ hL (fun v hv => hG v (List.mem_cons_of_mem _ hv))
          · show (Nat.blt kk 3 || _) = true
            rw [Nat.blt_eq.mpr h3]
            rfl
          · show Sum.inl _ = Sum.inl _
            rw [kmix_in (by simp)]
            have : kk = 0 ∨ kk = 1 ∨ kk = 2 := by omega
            rcases this with rfl | rfl | rfl <;> rfl
          · intro i2 q2 k2 n2 rs2 hi
            match i2, hi with
            | 0, hi =>
              cases hi
              exact ⟨tys.length, by rw [kmix_in (by simp)]; simp⟩
            | i2 + 1, hi => cases hi
      · cases hs
    · cases hs
theorem ks_newarrq (C : kCx sk own cc nL p R s m args meth c A) {i kk i1 : Nat} {Cn : String} (h0 : zet kk = .object Cn) (h1 : zhas i1 (Jvm.Cond.classLink own i Cn) = true) (h2 : Cn ∈ kAL) (h3 : 3 ≤ kk) (hd : decode cc pc = .ok (.anewarray i, 3))
    (hs : k_newa N0 R.cells R.slots (pc + 3) kk lo st W0 ns ce sl = some y) (k : KB nL p l e R s m args below meth c Q D A N0 ad0 dA0 y) : KB nL p l e R s m args below meth c Q D A N0 ad0 dA0 (pc, lo, st, W0, ns, ce, sl) := by
  obtain ⟨hx, hb, hml, hown, hts, hAs, hE, hin2, hfr, hlr, hSx⟩ := C
  unfold k_newa at hs
  split at hs
  · cases hs
  · rename_i q ns'
    split at hs
    · rename_i x r
      split at hs
      · rename_i hf
        cases hs
        simp only [Bool.and_eq_true, decide_eq_true_eq] at hf
        obtain ⟨hf, hx0, hx1, hce, hsl⟩ := hf
        have hx1 := Nat.le_of_ble_eq_true hx1
        intro ad dA tys hA H locs ls hP hD hS hK hT hL hG
        have hgx : g32 x := hG (vI x) List.mem_cons_self
        have hnn : ¬ Int32.ofInt x < 0 := by
          rw [← z0, i32_lt hgx g32_0]
          omega
        have hN : (Int32.ofInt x).toNatClampNeg = x.toNat := by
          show (Int32.ofInt x).toInt.toNat = _
          rw [hgx]
        have k1 : ¬ kk = 1 := by omega
        refine va_newq hx hb hown (hts _ (zhas_mem h1)) (hE.2 _ h2) hK hP hD hS hAs hnn hN (by omega) (Nat.le_of_ble_eq_true hce) (Nat.le_of_ble_eq_true hsl) hd (fun a cA H1 hK1 hP1 hD1 hS1 => ?_)
        refine ks_made hf ?_ k hA a cA ?_ hP1 hD1 hS1 [(cA, .object Cn)] hK1 hT ?_ hL (fun v hv => hG v (List.mem_cons_of_mem _ hv))
        · show (Nat.blt kk 3 || _) = true
          rw [Bool.or_eq_true]
          exact Or.inr rfl
        · show Sum.inl _ = Sum.inl _
          rw [kmix_in (by simp)]
          unfold kea
          rw [if_neg k1, if_pos h3]
          rfl
        · intro i2 q2 k2 n2 rs2 hi
          match i2, hi with
          | 0, hi =>
            cases hi
            exact ⟨tys.length, by rw [kmix_in (by simp), h0]; simp⟩
          | i2 + 1, hi => cases hi
      · cases hs
    · cases hs
end KSound
