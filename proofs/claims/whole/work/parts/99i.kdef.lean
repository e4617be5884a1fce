/-! names of the methods on Strings -/
def RJ1 : String := "java/lang/StringLatin1"
def RJ3 : String := "jdk/internal/util/Preconditions"
abbrev cJ0_length_8abf5 : ByteArray := prog_16_method_54_code
def yJ0_length_8abf5 : MethodName := ⟨RJ0, "length", "()I"⟩
abbrev cJ0_charAt_5068e : ByteArray := prog_16_method_56_code
def yJ0_charAt_5068e : MethodName := ⟨RJ0, "charAt", "(I)C"⟩
abbrev cJ0_coder_7d493 : ByteArray := prog_16_method_152_code
def yJ0_coder_7d493 : MethodName := ⟨RJ0, "coder", "()B"⟩
abbrev cJ0_isLatin1_aae02 : ByteArray := prog_16_method_154_code
def yJ0_isLatin1_aae02 : MethodName := ⟨RJ0, "isLatin1", "()Z"⟩
abbrev cJ0_checkIndex_df160 : ByteArray := prog_16_method_155_code
def yJ0_checkIndex_df160 : MethodName := ⟨RJ0, "checkIndex", "(II)V"⟩
abbrev cJ1_charAt_3b067 : ByteArray := prog_17_method_2_code
def yJ1_charAt_3b067 : MethodName := ⟨RJ1, "charAt", "([BI)C"⟩
abbrev cJ3_checkIndex_8e157 : ByteArray := prog_21_method_11_code
def yJ3_checkIndex_8e157 : MethodName := ⟨RJ3, "checkIndex", "(IILjava/util/function/BiFunction;)I"⟩
/-! CONSTRUCTORS. A machine whose cells have names; an object under way holds null or what has been laid. -/
abbrev KC : Type := (Nat × Nat × List Int) ⊕ (Nat × List (Option AV))
abbrev KWd : Type := List (Nat × KC)
def kfv (ad : Nat → Nat) (o : Option AV) : Value := match o with
  | none => .null
  | some v => cv ad v
def kro (ad : Nat → Nat) (x : Int) : Option Nat := if x ≤ 0 then none else some (ad (x.toNat - 1))
def kea (ad : Nat → Nat) (k n : Nat) (rs : List Int) : vp_A := if k = 1 then (n, .inr (.inl (fun j => Int64.ofInt (rs.getD j 0)))) else if 3 ≤ k then (n, .inr (.inr (.inr (.inr (fun j => kro ad (rs.getD j 0)))))) else (n, .inl (fun j => Int32.ofInt (rs.getD j 0)))
def kce (ad : Nat → Nat) (dA : Nat → ClassId) (q : Nat) (c : KC) : va_E := match c with
  | .inl (k, n, rs) => .inl (dA q, kea ad k n rs)
  | .inr (ci, fs) => .inr (ci, fs.map (kfv ad))
def kw (ad : Nat → Nat) (dA : Nat → ClassId) (W : KWd) : va_W := W.map (fun p => (ad p.1, kce ad dA p.1 p.2))
/-- every name in it satisfies N -/
def kavN (N : Nat → Bool) (v : AV) : Bool := match v with
  | .inr (.inr (q, _, _)) => N q
  | _ => true
def kovN (N : Nat → Bool) (o : Option AV) : Bool := match o with
  | none => true
  | some v => kavN N v
def kcN (N : Nat → Bool) (c : KC) : Bool := match c with
  | .inl (k, _, rs) => Nat.blt k 3 || rs.all (fun x => decide (x ≤ 0) || N (x.toNat - 1))
  | .inr (_, fs) => fs.all (kovN N)
def kpN (N : Nat → Bool) (p : Nat × KC) : Bool := N p.1 && kcN N p.2
theorem cv_congr {a a' : Nat → Nat} {N : Nat → Bool} {v : AV} (h : ∀ j, N j = true → a j = a' j) (hv : kavN N v = true) : cv a v = cv a' v := by
  rcases v with x | x | ⟨q, k, n⟩
  · rfl
  · rfl
  · show Value.ref _ = Value.ref _
    rw [h q hv]
theorem kfv_congr {a a' : Nat → Nat} {N : Nat → Bool} {v : Option AV} (h : ∀ j, N j = true → a j = a' j) (hv : kovN N v = true) : kfv a v = kfv a' v := by
  cases v with
  | none => rfl
  | some v => exact cv_congr h hv
theorem kea_congr {a a' : Nat → Nat} {N : Nat → Bool} {k n : Nat} {rs : List Int} (h : ∀ j, N j = true → a j = a' j) (hv : (Nat.blt k 3 || rs.all (fun x => decide (x ≤ 0) || N (x.toNat - 1))) = true) : kea a k n rs = kea a' k n rs := by
  unfold kea
  by_cases h1 : k = 1
  · rw [if_pos h1, if_pos h1]
  · rw [if_neg h1, if_neg h1]
    by_cases h3 : 3 ≤ k
    · rw [if_pos h3, if_pos h3]
      have hb : Nat.blt k 3 = false := by
        cases e : Nat.blt k 3 with
        | false => rfl
        | true => exact absurd (Nat.le_of_ble_eq_true e) (by omega)
      rw [hb, Bool.false_or] at hv
      have e : (fun j => kro a (rs.getD j 0)) = fun j => kro a' (rs.getD j 0) := by
        funext j
        unfold kro
        by_cases h0 : rs.getD j 0 ≤ 0
        · rw [if_pos h0, if_pos h0]
        · rw [if_neg h0, if_neg h0]
          have hm : rs.getD j 0 ∈ rs := by
            rw [List.getD_eq_getElem?_getD] at h0 ⊢
            cases e : rs[j]? with
            | none => rw [e] at h0; exact absurd (Int.le_refl 0) h0
            | some z => exact List.mem_of_getElem? e
          have h4 := List.all_eq_true.mp hv _ hm
          simp only [Bool.or_eq_true, decide_eq_true_eq] at h4
          rw [h _ (h4.resolve_left h0)]
      rw [e]
    · rw [if_neg h3, if_neg h3]
theorem kce_congr {a a' : Nat → Nat} {d d' : Nat → ClassId} {N : Nat → Bool} {q : Nat} {c : KC} (h : ∀ j, N j = true → a j = a' j ∧ d j = d' j) (hq : N q = true) (hv : kcN N c = true) : kce a d q c = kce a' d' q c := by
  rcases c with ⟨k, n, rs⟩ | ⟨ci, fs⟩
  · show Sum.inl _ = Sum.inl _
    rw [(h q hq).2, kea_congr (fun j hj => (h j hj).1) hv]
  · show Sum.inr _ = Sum.inr _
    have e : fs.map (kfv a) = fs.map (kfv a') := List.map_congr_left (fun v hm => kfv_congr (fun j hj => (h j hj).1) (List.all_eq_true.mp hv v hm))
    rw [e]
theorem kw_congr {a a' : Nat → Nat} {d d' : Nat → ClassId} {N : Nat → Bool} {W : KWd} (h : ∀ j, N j = true → a j = a' j ∧ d j = d' j) (hv : W.all (kpN N) = true) : kw a d W = kw a' d' W := by
  refine List.map_congr_left (fun p hm => ?_)
  have h1 := List.all_eq_true.mp hv p hm
  simp only [kpN, Bool.and_eq_true] at h1
  rw [(h _ h1.1).1, kce_congr h h1.1 h1.2]
theorem kst_congr {a a' : Nat → Nat} {N : Nat → Bool} {st : List AV} (h : ∀ j, N j = true → a j = a' j) (hv : st.all (kavN N) = true) : st.map (cv a) = st.map (cv a') := List.map_congr_left (fun v hm => cv_congr h (List.all_eq_true.mp hv v hm))
theorem kmem_get {lo : ZL} : ∀ {i : Nat} {v : AV}, zget lo i = some v → some v ∈ lo := by
  induction lo with
  | nil => intro i v h; cases h
  | cons a l ih =>
    intro i v h
    cases i with
    | zero => simp only [zget] at h; rw [h]; exact List.mem_cons_self
    | succ n => exact List.mem_cons_of_mem _ (ih h)
theorem klo_congr {a a' : Nat → Nat} {N : Nat → Bool} {lo : ZL} {nL : Nat} {ls : Array Slot} (h : ∀ j, N j = true → a j = a' j) (hv : lo.all (kovN N) = true) (hL : zLo [] a nL lo ls) : zLo [] a' nL lo ls := by
  refine ⟨hL.1, hL.2.1, fun i v hi => ?_⟩
  have h1 : kovN N (some v) = true := List.all_eq_true.mp hv _ (kmem_get hi)
  exact ⟨by rw [← cv_congr h h1]; exact (hL.2.2 i v hi).1, (hL.2.2 i v hi).2⟩
/-- names L by the first, all others by the second -/
def kmix {α : Type} (L : List Nat) (a b : Nat → α) (j : Nat) : α := if L.contains j then a j else b j
def kno (L : List Nat) (j : Nat) : Bool := !L.contains j
theorem kmix_out {α : Type} {L : List Nat} {a b : Nat → α} {j : Nat} (h : kno L j = true) : b j = kmix L a b j := by
  unfold kmix
  simp only [kno, Bool.not_eq_true'] at h
  rw [h]
  rfl
theorem kmix_in {α : Type} {L : List Nat} {a b : Nat → α} {j : Nat} (h : L.contains j = true) : kmix L a b j = a j := by
  unfold kmix
  rw [if_pos h]
/-- a cell by its name -/
def kfind : KWd → Nat → Nat → Option (Nat × KC)
  | [], _, _ => none
  | (r, c) :: W, q, i => match r == q with
    | true => some (i, c)
    | false => kfind W q (i + 1)
theorem kfind_at {W : KWd} : ∀ {q i j : Nat} {c : KC}, kfind W q i = some (j, c) → i ≤ j ∧ W[j - i]? = some (q, c) := by
  induction W with
  | nil => intro q i j c h; cases h
  | cons x W ih =>
    intro q i j c h
    obtain ⟨r, c'⟩ := x
    simp only [kfind] at h
    split at h
    · rename_i hr
      cases h
      refine ⟨Nat.le_refl _, ?_⟩
      rw [Nat.sub_self]
      have : r = q := by simpa using hr
      rw [this]
      rfl
    · obtain ⟨h1, h2⟩ := ih h
      refine ⟨by omega, ?_⟩
      rw [show j - i = (j - (i + 1)) + 1 by omega]
      exact h2
theorem kfind0 {W : KWd} {q j : Nat} {c : KC} (h : kfind W q 0 = some (j, c)) : W[j]? = some (q, c) := (kfind_at h).2
theorem kw_at {W : KWd} {ad : Nat → Nat} {dA : Nat → ClassId} {i q : Nat} {c : KC} (h : W[i]? = some (q, c)) : (kw ad dA W)[i]? = some (ad q, kce ad dA q c) := by
  simp [kw, h]
theorem kw_set {W : KWd} {ad : Nat → Nat} {dA : Nat → ClassId} {i q : Nat} {c : KC} : (kw ad dA W).set i (ad q, kce ad dA q c) = kw ad dA (W.set i (q, c)) := by
  simp [kw, List.map_set]
theorem kw_app {W W' : KWd} {ad : Nat → Nat} {dA : Nat → ClassId} : kw ad dA (W ++ W') = kw ad dA W ++ kw ad dA W' := by simp [kw]
/-- the types of the arrays' cells are known -/
def kT (W : KWd) (dA : Nat → ClassId) (tys : List (ClassId × FieldType)) : Prop := ∀ (i q k n : Nat) (rs : List Int), W[i]? = some (q, .inl (k, n, rs)) → ∃ t0 : Nat, tys[t0]? = some (dA q, zet k)
theorem kT_more {W : KWd} {dA : Nat → ClassId} {tys t2 : List (ClassId × FieldType)} (h : kT W dA tys) : kT W dA (tys ++ t2) := by
  intro i q k n rs hi
  obtain ⟨t0, ht⟩ := h i q k n rs hi
  exact ⟨t0, by rw [List.getElem?_append_left (List.getElem?_eq_some_iff.mp ht).1]; exact ht⟩
theorem kT_app {W W' : KWd} {dA : Nat → ClassId} {tys : List (ClassId × FieldType)} (h : kT W dA tys) (h' : kT W' dA tys) : kT (W ++ W') dA tys := by
  intro i q k n rs hi
  by_cases hl : i < W.length
  · rw [List.getElem?_append_left hl] at hi
    exact h i q k n rs hi
  · rw [List.getElem?_append_right (by omega)] at hi
    exact h' _ q k n rs hi
theorem kT_congr {W : KWd} {d d' : Nat → ClassId} {N : Nat → Bool} {tys : List (ClassId × FieldType)} (hd : ∀ j, N j = true → d j = d' j) (hv : W.all (kpN N) = true) (h : kT W d tys) : kT W d' tys := by
  intro i q k n rs hi
  have h1 := List.all_eq_true.mp hv _ (List.mem_of_getElem? hi)
  simp only [kpN, Bool.and_eq_true] at h1
  rw [← hd q h1.1]
  exact h i q k n rs hi
theorem kT_sub {W W' : KWd} {d : Nat → ClassId} {tys : List (ClassId × FieldType)} (hs : ∀ x ∈ W', x ∈ W) (h : kT W d tys) : kT W' d tys := by
  intro i q k n rs hi
  obtain ⟨j, hj⟩ := List.getElem?_of_mem (hs _ (List.mem_of_getElem? hi))
  exact h j q k n rs hj
/-- the words that do not stand in the methods' lists: links of private constructors, array classes over the own classes -/
def kNL : List (String × Nat × MethodName) := [(RX10, 41, yX1_init), (RX10, 51, yX8_init), (RX10, 72, yX0_init), (RX10, 79, yX7_init), (RX10, 86, yX4_init), (RX10, 93, yX3_init), (RX3, 26, yX0_init), (RX10, 106, yX6_init)]
def kAL : List String := [RX6, RX1, RX8]
def kE (U : State) : Prop := (∀ q ∈ kNL, va_Nw (.methodLinkNest q.1 q.2.1 q.2.2 RX10) U) ∧ ∀ C ∈ kAL, va_AO C U
theorem kE_warm {s U : State} (hW : s.WarmedH U.vm) (h : kE s) : kE U := ⟨fun q hq => va_Nw.warmM hW (h.1 q hq), fun C hC => va_AO.moved hW.alike (h.2 C hC)⟩
theorem kE_same {u U : State} (hv : u.vm = U.vm) (h : kE u) : kE U := ⟨fun q hq => va_Nw.same rfl hv (h.1 q hq), fun C hC => va_AO.moved (by rw [hv]; exact Vm.Alike.refl _) (h.2 C hC)⟩
/-- the keywords' text, its chars; what is known of it and of two statics, where A may not write -/
def kSt : String := "power odds room wire from to slack couple he she love day damp dry mend cut any when rung parted loop end stop "
def kSc : List Int := [112, 111, 119, 101, 114, 32, 111, 100, 100, 115, 32, 114, 111, 111, 109, 32, 119, 105, 114, 101, 32, 102, 114, 111, 109, 32, 116, 111, 32, 115, 108, 97, 99, 107, 32, 99, 111, 117, 112, 108, 101, 32, 104, 101, 32, 115, 104, 101, 32, 108, 111, 118, 101, 32, 100, 97, 121, 32, 100, 97, 109, 112, 32, 100, 114, 121, 32, 109, 101, 110, 100, 32, 99, 117, 116, 32, 97, 110, 121, 32, 119, 104, 101, 110, 32, 114, 117, 110, 103, 32, 112, 97, 114, 116, 101, 100, 32, 108, 111, 111, 112, 32, 101, 110, 100, 32, 115, 116, 111, 112, 32]
def kSx (sk : (Nat → Nat) × (Nat → Nat)) (A : Nat → Prop) (U : State) (H : Heap) : Prop := vk_S 1 [kSc.length] [kSc.map Int32.ofInt] sk.1 sk.2 A U H ∧ va_Z "java/lang/String" "COMPACT_STRINGS" "Z" (.int 1) A U H ∧ va_Zq "jdk/internal/util/Preconditions" "SIOOBE_FORMATTER" "Ljava/util/function/BiFunction;" A U H ∧ vk_R RX5 54 kSt (sk.1 0) U
theorem kSx.kept {sk : (Nat → Nat) × (Nat → Nat)} {A : Nat → Prop} {U : State} {H H1 : Heap} (h : kSx sk A U H) (hq : ∀ a : Nat, a < H.size → ¬ A a → H1[a]? = H[a]?) : kSx sk A U H1 := ⟨h.1.kept hq, h.2.1.kept hq, h.2.2.1.kept hq, h.2.2.2⟩
theorem kSx.narrow {sk : (Nat → Nat) × (Nat → Nat)} {A B : Nat → Prop} {U : State} {H : Heap} (h : kSx sk A U H) (hAB : ∀ q, B q → A q) : kSx sk B U H := ⟨h.1.narrow hAB, h.2.1.narrow hAB, h.2.2.1.narrow hAB, h.2.2.2⟩
theorem kSx.warm {sk : (Nat → Nat) × (Nat → Nat)} {A : Nat → Prop} {s U : State} {H : Heap} (hW : s.WarmedH U.vm) (h : kSx sk A s H) : kSx sk A U H := ⟨vk_S.moved hW.alike h.1, va_Z.moved hW.alike h.2.1, va_Zq.moved hW.alike h.2.2.1, vk_R.warm hW h.2.2.2⟩
theorem kSx.same {sk : (Nat → Nat) × (Nat → Nat)} {A : Nat → Prop} {u U : State} {H : Heap} (hv : U.vm = u.vm) (h : kSx sk A u H) : kSx sk A U H := by
  have ha : u.vm.Alike U.vm := by rw [hv]; exact Vm.Alike.refl _
  exact ⟨vk_S.moved ha h.1, va_Z.moved ha h.2.1, va_Zq.moved ha h.2.2.1, vk_R.same hv h.2.2.2⟩
/-- a cell of the layout with the rows mm in it -/
def kzg (mm : Nat → List Int) (q : Nat) (t : Nat × Nat) : KC := if t.1 < 3 then .inl (t.1, t.2, mm q) else if t.1 < 10 then .inl (t.1, t.2, (List.range t.2).map (fun j => ((zro t.1 q j : Nat) : Int) + 1)) else .inr (t.1 - 10, (zft (t.1 - 10)).mapIdx (fun k f => if f.1 = 1 then some (vL ((mm q).getD k 0)) else if f.1 = 2 then some (vR (q + f.2.1) 9 0) else some (vI ((mm q).getD k 0))))
def kaM (mm : Nat → List Int) : AM := fun q j => (mm q).getD j 0
theorem kzg_ze {mm : Nat → List Int} {q : Nat} {t : Nat × Nat} {ad : Nat → Nat} {dA : Nat → ClassId} (ht : t.1 < 3 ∨ 10 ≤ t.1) : kce ad dA q (kzg mm q t) = ze ad dA q t (kaM mm q) := by
  rcases ht with ht | ht
  · unfold kzg ze
    rw [if_pos ht, if_pos (by omega)]
    show Sum.inl (_, kea ad t.1 t.2 (mm q)) = Sum.inl (_, zea t.1 t.2 ad q (kaM mm q))
    unfold kea zea
    by_cases h1 : t.1 = 1
    · rw [if_pos h1, if_pos h1]
      rfl
    · rw [if_neg h1, if_neg h1, if_neg (by omega), if_neg (by omega)]
      rfl
  · unfold kzg ze
    rw [if_neg (by omega), if_neg (by omega), if_neg (by omega)]
    show Sum.inr (_, List.map _ _) = Sum.inr (_, zfs (t.1 - 10) ad q (kaM mm q))
    unfold zfs
    have e : ∀ L : List (Nat × Nat × Nat × Nat), List.map (kfv ad) (L.mapIdx (fun k f => if f.1 = 1 then some (vL ((mm q).getD k 0)) else if f.1 = 2 then some (vR (q + f.2.1) 9 0) else some (vI ((mm q).getD k 0)))) = L.mapIdx (fun k t => zfv ad q t (kaM mm q k)) := by
      intro L
      apply List.ext_getElem?
      intro i
      rw [List.getElem?_map, List.getElem?_mapIdx, List.getElem?_mapIdx]
      cases L[i]? with
      | none => rfl
      | some f =>
        show some (kfv ad (if f.1 = 1 then some (vL ((mm q).getD i 0)) else if f.1 = 2 then some (vR (q + f.2.1) 9 0) else some (vI ((mm q).getD i 0)))) = some (if f.1 = 1 then .long (Int64.ofInt (kaM mm q i)) else if f.1 = 2 then .ref (ad (q + f.2.1)) else .int (Int32.ofInt (kaM mm q i)))
        by_cases h1 : f.1 = 1
        · rw [if_pos h1, if_pos h1]
          rfl
        · rw [if_neg h1, if_neg h1]
          by_cases h2 : f.1 = 2
          · rw [if_pos h2, if_pos h2]
            rfl
          · rw [if_neg h2, if_neg h2]
            rfl
    rw [e]
/-- the model before and behind the last call of its constructor -/
def mM0 (q : Nat) : List Int := match q with
  | 0 => [0, 0, 0, 1, 0, 0, 0, 0, 0, 0, -1, -1]
  | 2 => [-1, -1, -1, -1]
  | _ => []
def mM1 (q : Nat) : List Int := match q with
  | 5 => [0, 0, 0, 8, 2]
  | q => mM0 q
def kWm (mm : Nat → List Int) : KWd := (List.range 15).map (fun q => (q, kzg mm q (zY.getD q (0, 0))))
def kceq (a b : KC) : Bool := match a, b with
  | .inl (k, n, rs), .inl (k', n', rs') => k == k' && (n == n' && decide (rs = rs'))
  | .inr (ci, fs), .inr (ci', fs') => ci == ci' && decide (fs = fs')
  | _, _ => false
theorem kceq_ok {a b : KC} (h : kceq a b = true) : a = b := by
  rcases a with ⟨k, n, rs⟩ | ⟨ci, fs⟩ <;> rcases b with ⟨k', n', rs'⟩ | ⟨ci', fs'⟩
  · simp only [kceq, Bool.and_eq_true, beq_iff_eq, decide_eq_true_eq] at h
    rw [h.1, h.2.1, h.2.2]
  · cases h
  · cases h
  · simp only [kceq, Bool.and_eq_true, beq_iff_eq, decide_eq_true_eq] at h
    rw [h.1, h.2]
def kweq : KWd → KWd → Bool
  | [], [] => true
  | (i, a) :: l, (j, b) :: r => i == j && (kceq a b && kweq l r)
  | _, _ => false
theorem kweq_ok : ∀ {W W' : KWd}, kweq W W' = true → W = W'
  | [], [], _ => rfl
  | [], _ :: _, h => by cases h
  | _ :: _, [], h => by cases h
  | (i, a) :: l, (j, b) :: r, h => by
    simp only [kweq, Bool.and_eq_true, beq_iff_eq] at h
    rw [h.1, kceq_ok h.2.1, kweq_ok h.2.2]
