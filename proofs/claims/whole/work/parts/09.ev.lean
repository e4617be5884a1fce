/-! METHODS, runs of methods, and the rules by which they are shown. -/
/-- name, code, locals, what it returns, static or not, parameters, table -/
abbrev Zm : Type := MethodName × ByteArray × Nat × Option FieldType × Bool × Nat × List ZE
abbrev zy (f : Zm) : MethodName := f.1
abbrev zc (f : Zm) : ByteArray := f.2.1
abbrev zn (f : Zm) : Nat := f.2.2.1
abbrev zr (f : Zm) : Option FieldType := f.2.2.2.1
abbrev zst (f : Zm) : Bool := f.2.2.2.2.1
abbrev zna (f : Zm) : Nat := f.2.2.2.2.2.1
abbrev zt (f : Zm) : List ZE := f.2.2.2.2.2.2
def zmOk (f : Zm) (ix : Nat × Nat × Nat × Nat) : Bool := ztab (zy f).cls (zc f) (zn f) (zt f) && zhas ix.1 (Jvm.Cond.code (zy f) (zc f) (zn f) (zr f)) && zhas ix.2.1 (Jvm.Cond.initialized (zy f).cls) && (match zst f with
    | true => zhas ix.2.2.1 (Jvm.Cond.static (zy f))
    | false => zhas ix.2.2.1 (Jvm.Cond.instanceMethod (zy f)) && zhas ix.2.2.2 (Jvm.Cond.selects (zy f).cls (zy f) (zy f)))
  && plainName (zy f).cls && decide ((zy f).cls ≠ "java/lang/invoke/MethodHandle" ∧ (zy f).cls ≠ "java/lang/invoke/VarHandle") && decide ((parseMethodDescriptor (zy f).desc).map (fun d => d.parameters.length) = some (zna f)) && Nat.ble (zn f) 40
def zM (f : Zm) : Prop := ∃ ix, zmOk f ix = true
theorem zM.spec {f : Zm} (h : zM f) : ztab (zy f).cls (zc f) (zn f) (zt f) = true ∧ Jvm.Cond.code (zy f) (zc f) (zn f) (zr f) ∈ zws ∧ Jvm.Cond.initialized (zy f).cls ∈ zws ∧ (zst f = true → Jvm.Cond.static (zy f) ∈ zws) ∧ (zst f = false → Jvm.Cond.instanceMethod (zy f) ∈ zws ∧ Jvm.Cond.selects (zy f).cls (zy f) (zy f) ∈ zws) ∧ plainName (zy f).cls = true ∧ ((zy f).cls ≠ "java/lang/invoke/MethodHandle" ∧ (zy f).cls ≠ "java/lang/invoke/VarHandle") ∧ (parseMethodDescriptor (zy f).desc).map (fun d => d.parameters.length) = some (zna f) ∧ zn f ≤ 40 := by
  obtain ⟨ix, h⟩ := h
  simp only [zmOk, Bool.and_eq_true, decide_eq_true_eq] at h
  obtain ⟨⟨⟨⟨⟨⟨⟨h1, h2⟩, h3⟩, h4⟩, h5⟩, h6⟩, h7⟩, h8⟩ := h
  refine ⟨h1, zhas_mem h2, zhas_mem h3, fun e => ?_, fun e => ?_, h5, h6, h7, Nat.le_of_ble_eq_true h8⟩
  · rw [e] at h4
    exact zhas_mem h4
  · rw [e] at h4
    simp only [Bool.and_eq_true] at h4
    exact ⟨zhas_mem h4.1, zhas_mem h4.2⟩
def zlay : List AV → ZL
  | [] => []
  | v :: r => match zc1 v with
    | true => some v :: zlay r
    | false => some v :: none :: zlay r
def zpad : Nat → ZL → ZL
  | 0, lo => lo
  | n + 1, [] => none :: zpad n []
  | n + 1, a :: l => a :: zpad n l
/-- is this the place of a return with this value -/
def zret (f : Zm) (pc : Nat) (v : Option AV) : Prop := match v with
  | none => zr f = none ∧ ∃ x, zent (zt f) pc = some (.return_, x)
  | some (.inl x) => (zr f = some .int ∨ zr f = some .boolean ∧ (x = 0 ∨ x = 1)) ∧ ∃ y, zent (zt f) pc = some (.ireturn, y)
  | some (.inr (.inl _)) => zr f = some .long ∧ ∃ y, zent (zt f) pc = some (.lreturn, y)
  | _ => False
def zYs (Y : List (Nat × Nat)) : Prop := ∀ (q k l0 : Nat), Y[q]? = some (k, l0) → l0 < 2147483648
/-- THE JUDGEMENT: method f, at depth d, from this abstract state on returns v with memory M' -/
def EvP (P : State → (Nat → Nat) → (Nat → Prop) → Prop) (Y : List (Nat × Nat)) (d : Nat) (f : Zm) (pc : Nat) (lo : ZL) (st : List AV) (M : AM) (v : Option AV) (M' : AM) : Prop :=
  ∀ (p : Program) (l : Launch) (e : Env) (R : Room) (s : State) (m : MethodId) (args : Array Value) (below : List Frame) (meth : Method) (c : Code) (cells slots : Nat) (Q : State → Prop) (D : va_G) (tys : List (ClassId × FieldType)) (ad : Nat → Nat) (dA : Nat → ClassId) (A : Nat → Prop),
    zC Y (zy f).cls (zc f) (zn f) p R s m args c D tys dA A → zYs Y → d + 1 ≤ R.frames → 64 * (d + 1) ≤ R.locals → cells ≤ R.cells → slots ≤ R.slots → P s ad A →
    (∀ pcr lo', zret f pcr v → ZS Y (zn f) p l e R s m args below meth c cells slots Q D ad dA A pcr lo' v.toList M') →
    ZS Y (zn f) p l e R s m args below meth c cells slots Q D ad dA A pc lo st M
abbrev zT : State → (Nat → Nat) → (Nat → Prop) → Prop := fun _ _ _ => True
abbrev Ev (Y : List (Nat × Nat)) (d : Nat) (f : Zm) (pc : Nat) (lo : ZL) (st : List AV) (M : AM) (v : Option AV) (M' : AM) : Prop := EvP zT Y d f pc lo st M v M'
section ZRules
variable {P : State → (Nat → Nat) → (Nat → Prop) → Prop} {Y : List (Nat × Nat)} {d : Nat} {f : Zm} {pc : Nat} {lo : ZL} {st : List AV} {M : AM} {v : Option AV} {M' : AM}
/-- so many steps straight on -/
theorem Z_blk (hm : zM f) (n : Nat) {pc' : Nat} {lo' : ZL} {st' : List AV} {M1 : AM} (h : zrun (zt f) n (pc, lo, st, M) = some (pc', lo', st', M1)) (k : EvP P Y d f pc' lo' st' M1 v M') : EvP P Y d f pc lo st M v M' :=
  fun p l e R s m args below meth c cells slots Q D tys ad dA A C hY hfr hlo hc hsl hP hret => zruns hm.spec.1 C hY (by omega) (by omega) hc hsl n _ _ h (k p l e R s m args below meth c cells slots Q D tys ad dA A C hY hfr hlo hc hsl hP hret)
theorem Z_ret (h : zret f pc v) (hst : st = v.toList) : EvP P Y d f pc lo st M v M :=
  fun p l e R s m args below meth c cells slots Q D tys ad dA A C hY hfr hlo hc hsl hP hret => by rw [hst]; exact hret pc lo h
def zcmp (c : ClassFile.Cond) (x y : Int) : Prop := match c with
  | .eq => x = y
  | .ne => ¬ x = y
  | .lt => x < y
  | .ge => y ≤ x
  | .gt => y < x
  | .le => x ≤ y
theorem i32_lt {x y : Int} (hx : g32 x) (hy : g32 y) : Int32.ofInt x < Int32.ofInt y ↔ x < y := by rw [Int32.lt_iff_toInt_lt, hx, hy]
theorem i32_le {x y : Int} (hx : g32 x) (hy : g32 y) : Int32.ofInt x ≤ Int32.ofInt y ↔ x ≤ y := by rw [Int32.le_iff_toInt_le, hx, hy]
theorem i32_eq {x y : Int} (hx : g32 x) (hy : g32 y) : Int32.ofInt x = Int32.ofInt y ↔ x = y := by
  constructor
  · intro h
    have := congrArg Int32.toInt h
    rwa [hx, hy] at this
  · intro h; rw [h]
theorem g32_0 : g32 0 := (g32_iff 0).mpr (by omega)
theorem z0 : Int32.ofInt 0 = 0 := rfl
theorem Z_icmp (hm : zM f) {cd : ClassFile.Cond} {off : Int} {x y : Int} {r : List AV} {rn : (Nat × Nat × Nat × Nat × Nat × Nat) × Int} (he : zent (zt f) pc = some (.if_icmp cd off, rn)) (tgt : Nat) (ht : (pc : Int) + off = (tgt : Int))
    (kt : zcmp cd x y → EvP P Y d f tgt lo r M v M') (kf : ¬ zcmp cd x y → EvP P Y d f (pc + 3) lo r M v M') : EvP P Y d f pc lo (vI y :: vI x :: r) M v M' := by
  intro p l e R s m args below meth c cells slots Q D tys ad dA A C hY hfr hlo hc hsl hP hret H locs ls hW hL hG
  have hx : g32 x := hG (vI x) (by simp)
  have hy : g32 y := hG (vI y) (by simp)
  have hr : ∀ w ∈ r, gd Y w := fun w h => hG w (by simp [h])
  have hd := zdec_plain (ztab_at hm.spec.1 (rn := rn.1) (rz := rn.2) he).1 (fun _ _ _ _ => by simp) (fun _ _ => by simp)
  have KT : zcmp cd x y → W p l e R s m args below meth c H locs cells slots Q (F0 m tgt ls (r.map (cv ad))) := fun h => kt h p l e R s m args below meth c cells slots Q D tys ad dA A C hY hfr hlo hc hsl hP hret H locs ls hW hL hr
  have KF : ¬ zcmp cd x y → W p l e R s m args below meth c H locs cells slots Q (F0 m (pc + 3) ls (r.map (cv ad))) := fun h => kf h p l e R s m args below meth c cells slots Q D tys ad dA A C hY hfr hlo hc hsl hP hret H locs ls hW hL hr
  cases cd with
  | eq => exact lv_icmp_eq C.1 C.2.1 hd ht (fun h => KT ((i32_eq hx hy).mp h)) (fun h => KF (fun h2 => h ((i32_eq hx hy).mpr h2)))
  | ne => exact lv_icmp_ne C.1 C.2.1 hd ht (fun h => KT (fun h2 => h ((i32_eq hx hy).mpr h2))) (fun h => KF (fun h2 => h2 ((i32_eq hx hy).mp h)))
  | lt => exact lv_icmp_lt C.1 C.2.1 hd ht (fun h => KT ((i32_lt hx hy).mp h)) (fun h => KF (fun h2 => h ((i32_lt hx hy).mpr h2)))
  | ge => exact lv_icmp_ge C.1 C.2.1 hd ht (fun h => KT ((i32_le hy hx).mp h)) (fun h => KF (fun h2 => h ((i32_le hy hx).mpr h2)))
  | gt => exact lv_icmp_gt C.1 C.2.1 hd ht (fun h => KT ((i32_lt hy hx).mp h)) (fun h => KF (fun h2 => h ((i32_lt hy hx).mpr h2)))
  | le => exact lv_icmp_le C.1 C.2.1 hd ht (fun h => KT ((i32_le hx hy).mp h)) (fun h => KF (fun h2 => h ((i32_le hx hy).mpr h2)))
theorem Z_if (hm : zM f) {cd : ClassFile.Cond} {off : Int} {x : Int} {r : List AV} {rn : (Nat × Nat × Nat × Nat × Nat × Nat) × Int} (he : zent (zt f) pc = some (.ifCond cd off, rn)) (tgt : Nat) (ht : (pc : Int) + off = (tgt : Int))
    (kt : zcmp cd x 0 → EvP P Y d f tgt lo r M v M') (kf : ¬ zcmp cd x 0 → EvP P Y d f (pc + 3) lo r M v M') : EvP P Y d f pc lo (vI x :: r) M v M' := by
  intro p l e R s m args below meth c cells slots Q D tys ad dA A C hY hfr hlo hc hsl hP hret H locs ls hW hL hG
  have hx : g32 x := hG (vI x) (by simp)
  have hy : g32 0 := g32_0
  have hr : ∀ w ∈ r, gd Y w := fun w h => hG w (by simp [h])
  have hd := zdec_plain (ztab_at hm.spec.1 (rn := rn.1) (rz := rn.2) he).1 (fun _ _ _ _ => by simp) (fun _ _ => by simp)
  have KT : zcmp cd x 0 → W p l e R s m args below meth c H locs cells slots Q (F0 m tgt ls (r.map (cv ad))) := fun h => kt h p l e R s m args below meth c cells slots Q D tys ad dA A C hY hfr hlo hc hsl hP hret H locs ls hW hL hr
  have KF : ¬ zcmp cd x 0 → W p l e R s m args below meth c H locs cells slots Q (F0 m (pc + 3) ls (r.map (cv ad))) := fun h => kf h p l e R s m args below meth c cells slots Q D tys ad dA A C hY hfr hlo hc hsl hP hret H locs ls hW hL hr
  cases cd with
  | eq => exact lv_if_eq C.1 C.2.1 hd ht (fun h => KT ((i32_eq hx hy).mp h)) (fun h => KF (fun h2 => h ((i32_eq hx hy).mpr h2)))
  | ne => exact lv_if_ne C.1 C.2.1 hd ht (fun h => KT (fun h2 => h ((i32_eq hx hy).mpr h2))) (fun h => KF (fun h2 => h2 ((i32_eq hx hy).mp h)))
  | lt => exact lv_if_lt C.1 C.2.1 hd ht (fun h => KT ((i32_lt hx hy).mp h)) (fun h => KF (fun h2 => h ((i32_lt hx hy).mpr h2)))
  | ge => exact lv_if_ge C.1 C.2.1 hd ht (fun h => KT ((i32_le hy hx).mp h)) (fun h => KF (fun h2 => h ((i32_le hy hx).mpr h2)))
  | gt => exact lv_if_gt C.1 C.2.1 hd ht (fun h => KT ((i32_lt hy hx).mp h)) (fun h => KF (fun h2 => h ((i32_lt hy hx).mpr h2)))
  | le => exact lv_if_le C.1 C.2.1 hd ht (fun h => KT ((i32_le hx hy).mp h)) (fun h => KF (fun h2 => h ((i32_le hx hy).mpr h2)))
theorem Z_tabIn (hm : zM f) {df lo0 hi : Int} {offs : Array Int} {x off : Int} {r : List AV} {rn : (Nat × Nat × Nat × Nat × Nat × Nat) × Int} (he : zent (zt f) pc = some (.tableswitch df lo0 hi offs, rn)) (tgt : Nat) (h1 : ¬ x < lo0) (h2 : ¬ hi < x) (ho : offs[(x - lo0).toNat]? = some off) (ht : (pc : Int) + off = (tgt : Int))
    (k : EvP P Y d f tgt lo r M v M') : EvP P Y d f pc lo (vI x :: r) M v M' := by
  intro p l e R s m args below meth c cells slots Q D tys ad dA A C hY hfr hlo hc hsl hP hret H locs ls hW hL hG
  have hx : g32 x := hG (vI x) (by simp)
  have hr : ∀ w ∈ r, gd Y w := fun w h => hG w (by simp [h])
  have hd := (ztab_at hm.spec.1 (rn := rn.1) (rz := rn.2) he).1
  simp only [zdec] at hd
  split at hd
  · rename_i i n2 hd2
    simp only [decide_eq_true_eq] at hd
    subst hd
    exact lv_tableIn C.1 C.2.1 hd2 (x := Int32.ofInt x) (by rw [hx]; exact h1) (by rw [hx]; exact h2) (by rw [hx]; exact ho) ht (k p l e R s m args below meth c cells slots Q D tys ad dA A C hY hfr hlo hc hsl hP hret H locs ls hW hL hr)
  · cases hd
theorem Z_tabOut (hm : zM f) {df lo0 hi : Int} {offs : Array Int} {x : Int} {r : List AV} {rn : (Nat × Nat × Nat × Nat × Nat × Nat) × Int} (he : zent (zt f) pc = some (.tableswitch df lo0 hi offs, rn)) (tgt : Nat) (h1 : x < lo0 ∨ hi < x) (ht : (pc : Int) + df = (tgt : Int))
    (k : EvP P Y d f tgt lo r M v M') : EvP P Y d f pc lo (vI x :: r) M v M' := by
  intro p l e R s m args below meth c cells slots Q D tys ad dA A C hY hfr hlo hc hsl hP hret H locs ls hW hL hG
  have hx : g32 x := hG (vI x) (by simp)
  have hr : ∀ w ∈ r, gd Y w := fun w h => hG w (by simp [h])
  have hd := (ztab_at hm.spec.1 (rn := rn.1) (rz := rn.2) he).1
  simp only [zdec] at hd
  split at hd
  · rename_i i n2 hd2
    simp only [decide_eq_true_eq] at hd
    subst hd
    exact lv_tableOut C.1 C.2.1 hd2 (x := Int32.ofInt x) (by rw [hx]; exact h1) ht (k p l e R s m args below meth c cells slots Q D tys ad dA A C hY hfr hlo hc hsl hP hret H locs ls hW hL hr)
  · cases hd
theorem Z_look (hm : zM f) {df : Int} {ps : Array (Int × Int)} {x off : Int} {r : List AV} {rn : (Nat × Nat × Nat × Nat × Nat × Nat) × Int} (he : zent (zt f) pc = some (.lookupswitch df ps, rn)) (tgt : Nat) (ho : Op.lookupswitch.offset ps.toList df x = off) (ht : (pc : Int) + off = (tgt : Int))
    (k : EvP P Y d f tgt lo r M v M') : EvP P Y d f pc lo (vI x :: r) M v M' := by
  intro p l e R s m args below meth c cells slots Q D tys ad dA A C hY hfr hlo hc hsl hP hret H locs ls hW hL hG
  have hx : g32 x := hG (vI x) (by simp)
  have hr : ∀ w ∈ r, gd Y w := fun w h => hG w (by simp [h])
  have hd := (ztab_at hm.spec.1 (rn := rn.1) (rz := rn.2) he).1
  simp only [zdec] at hd
  split at hd
  · rename_i i n2 hd2
    simp only [Bool.and_eq_true, decide_eq_true_eq] at hd
    obtain ⟨hi, hp⟩ := hd
    subst hi
    exact lv_lookup C.1 C.2.1 hd2 hp (x := Int32.ofInt x) (by rw [hx]; exact ho) ht (k p l e R s m args below meth c cells slots Q D tys ad dA A C hY hfr hlo hc hsl hP hret H locs ls hW hL hr)
  · cases hd
end ZRules
