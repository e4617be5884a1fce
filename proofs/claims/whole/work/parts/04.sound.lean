/-! SOUNDNESS of the steps. -/
/-- the fixed things of a run of a method: class own, code bytes cc, nL locals -/
def zC (Y : List (Nat × Nat)) (own : String) (cc : ByteArray) (nL : Nat) (p : Program) (R : Room) (s : State) (m : MethodId) (args : Array Value) (c : Code) (D : va_G) (tys : List (ClassId × FieldType)) (dA : Nat → ClassId) (A : Nat → Prop) : Prop :=
  p.tables.exec = Jvm.exec ∧ c.code = cc ∧ c.maxLocals = nL ∧ s.vm.findClass own = some m.cls ∧ (∀ w ∈ zws, w.before args s = true) ∧ va_K D zcl tys s ∧ (∀ q k n, Y[q]? = some (k, n) → k < 10 → ∃ t0 : Nat, tys[t0]? = some (dA q, zet k)) ∧ (∀ q : Nat, s.heap.size ≤ q → A q) ∧ zReg Y
/-- the heap holds the memory -/
def zW (Y : List (Nat × Nat)) (s : State) (D : va_G) (ad : Nat → Nat) (dA : Nat → ClassId) (A : Nat → Prop) (M : AM) (H : Heap) (locs : List Loc) : Prop :=
  va_P D zcl (zw Y ad dA M) H ∧ va_D A (zw Y ad dA M) ∧ va_S A s.heap H locs ∧ zgM Y M
/-- the locals hold what the abstract ones say -/
def zLo (Y : List (Nat × Nat)) (ad : Nat → Nat) (nL : Nat) (lo : ZL) (ls : Array Slot) : Prop :=
  ls.size = nL ∧ lv_wf ls ∧ ∀ i v, zget lo i = some v → ls[i]? = some (.val (cv ad v)) ∧ gd Y v
/-- from the abstract state on, the machine comes to Q -/
def ZS (Y : List (Nat × Nat)) (nL : Nat) (p : Program) (l : Launch) (e : Env) (R : Room) (s : State) (m : MethodId) (args : Array Value) (below : List Frame) (meth : Method) (c : Code) (cells slots : Nat) (Q : State → Prop) (D : va_G) (ad : Nat → Nat) (dA : Nat → ClassId) (A : Nat → Prop) (pc : Nat) (lo : ZL) (st : List AV) (M : AM) : Prop :=
  ∀ (H : Heap) (locs : List Loc) (ls : Array Slot), zW Y s D ad dA A M H locs → zLo Y ad nL lo ls → (∀ v ∈ st, gd Y v) → W p l e R s m args below meth c H locs cells slots Q (F0 m pc ls (st.map (cv ad)))
theorem zget_zset_self {lo : ZL} {i : Nat} {v w : Option AV} (h : zget (zset lo i v) i = w) : w = v ∨ w = none := by
  induction lo generalizing i with
  | nil => right; simpa [zset, zget] using h.symm
  | cons a l ih =>
    cases i with
    | zero => left; simpa [zset, zget] using h.symm
    | succ n => exact ih (by simpa [zset, zget] using h)
theorem zget_zset_ne {lo : ZL} {i j : Nat} {v : Option AV} (h : j ≠ i) : zget (zset lo i v) j = zget lo j := by
  induction lo generalizing i j with
  | nil => simp [zset]
  | cons a l ih =>
    cases i with
    | zero =>
      cases j with
      | zero => exact absurd rfl h
      | succ k => simp [zset, zget]
    | succ n =>
      cases j with
      | zero => simp [zset, zget]
      | succ k => simpa [zset, zget] using ih (by omega)
/-- the abstract locals as a list of places -/
def zlv (ad : Nat → Nat) : Nat → ZL → List (Nat × Value)
  | _, [] => []
  | n, none :: l => zlv ad (n + 1) l
  | n, some v :: l => (n, cv ad v) :: zlv ad (n + 1) l
theorem zlv_mem {ad : Nat → Nat} {lo : ZL} {n : Nat} {q : Nat × Value} : q ∈ zlv ad n lo ↔ ∃ i v, zget lo i = some v ∧ q = (n + i, cv ad v) := by
  induction lo generalizing n with
  | nil => simp [zlv, zget]
  | cons a l ih =>
    cases a with
    | none =>
      simp only [zlv, ih]
      constructor
      · rintro ⟨i, v, h, rfl⟩
        exact ⟨i + 1, v, by simpa [zget] using h, by rw [Nat.add_assoc, Nat.add_comm 1 i]⟩
      · rintro ⟨i, v, h, rfl⟩
        cases i with
        | zero => simp [zget] at h
        | succ k => exact ⟨k, v, by simpa [zget] using h, by rw [Nat.add_assoc, Nat.add_comm 1 k]⟩
    | some w =>
      simp only [zlv, List.mem_cons, ih]
      constructor
      · rintro (rfl | ⟨i, v, h, rfl⟩)
        · exact ⟨0, w, by simp [zget], by simp⟩
        · exact ⟨i + 1, v, by simpa [zget] using h, by rw [Nat.add_assoc, Nat.add_comm 1 i]⟩
      · rintro ⟨i, v, h, rfl⟩
        cases i with
        | zero => left; simp [zget] at h; simp [h]
        | succ k => right; exact ⟨k, v, by simpa [zget] using h, by rw [Nat.add_assoc, Nat.add_comm 1 k]⟩
theorem zLo.has {Y : List (Nat × Nat)} {ad : Nat → Nat} {nL : Nat} {lo : ZL} {ls : Array Slot} (h : zLo Y ad nL lo ls) : lv_has ls nL (zlv ad 0 lo) := by
  refine ⟨h.1, h.2.1, fun q hq => ?_⟩
  obtain ⟨i, v, hv, rfl⟩ := zlv_mem.mp hq
  simpa using (h.2.2 i v hv).1
theorem cat_cv {ad : Nat → Nat} {v : AV} : (cv ad v).category = if zc1 v then 1 else 2 := by
  rcases v with x | x | ⟨q, k, n⟩ <;> rfl
/-- behind a store of one word -/
theorem zLo.store1 {Y : List (Nat × Nat)} {ad : Nat → Nat} {nL i : Nat} {lo : ZL} {ls ls' : Array Slot} {v : AV} (h : zLo Y ad nL lo ls) (hg : gd Y v) (hz : zlong lo i = false)
    (h' : lv_has ls' nL ((i, cv ad v) :: (zlv ad 0 lo).filter (fun q => !(q.1 == i) && !(q.1 + 1 == i && q.2.category == 2)))) : zLo Y ad nL (zset lo i (some v)) ls' := by
  refine ⟨h'.1, h'.2.1, fun j w hj => ?_⟩
  by_cases e : j = i
  · subst e
    rcases zget_zset_self hj with h1 | h1
    · cases h1
      exact ⟨h'.2.2 (j, cv ad v) List.mem_cons_self, hg⟩
    · cases h1
  · rw [zget_zset_ne e] at hj
    refine ⟨h'.2.2 (j, cv ad w) (List.mem_cons_of_mem _ (List.mem_filter.mpr ⟨zlv_mem.mpr ⟨j, w, hj, by simp⟩, ?_⟩)), (h.2.2 j w hj).2⟩
    have e1 : (j == i) = false := by simpa using e
    by_cases e2 : j + 1 = i
    · subst e2
      have : zc1 w = true := by
        rcases w with x | x | ⟨q, k, n⟩
        · rfl
        · simp [zlong, hj] at hz
        · rfl
      simp [e1, cat_cv, this]
    · simp [e1, e2]
theorem zLo.store2 {Y : List (Nat × Nat)} {ad : Nat → Nat} {nL i : Nat} {lo : ZL} {ls ls' : Array Slot} {v : AV} (h : zLo Y ad nL lo ls) (hg : gd Y v) (hz : zlong lo i = false)
    (h' : lv_has ls' nL ((i, cv ad v) :: (zlv ad 0 lo).filter (fun q => !(q.1 == i) && (!(q.1 == i + 1) && !(q.1 + 1 == i && q.2.category == 2))))) : zLo Y ad nL (zset (zset lo (i + 1) none) i (some v)) ls' := by
  refine ⟨h'.1, h'.2.1, fun j w hj => ?_⟩
  by_cases e : j = i
  · subst e
    rcases zget_zset_self hj with h1 | h1
    · cases h1
      exact ⟨h'.2.2 (j, cv ad v) List.mem_cons_self, hg⟩
    · cases h1
  · rw [zget_zset_ne e] at hj
    by_cases e3 : j = i + 1
    · subst e3
      rcases zget_zset_self hj with h1 | h1 <;> cases h1
    · rw [zget_zset_ne e3] at hj
      refine ⟨h'.2.2 (j, cv ad w) (List.mem_cons_of_mem _ (List.mem_filter.mpr ⟨zlv_mem.mpr ⟨j, w, hj, by simp⟩, ?_⟩)), (h.2.2 j w hj).2⟩
      have e1 : (j == i) = false := by simpa using e
      by_cases e2 : j + 1 = i
      · subst e2
        have : zc1 w = true := by
          rcases w with x | x | ⟨q, k, n⟩
          · rfl
          · simp [zlong, hj] at hz
          · rfl
        have e4 : ¬ j = j + 1 + 1 := by omega
        simp [e1, e4, cat_cv, this]
      · simp [e1, e2, e3]
