/-! CALLS: a run of a method gives its contract, and the contract gives the rule of the call. -/
theorem zlay_args {ad : Nat → Nat} : ∀ (vs : List AV) (n i : Nat) (v : AV), zget (zlay vs) i = some v → (n + i, cv ad v) ∈ lv_args n (vs.map (cv ad))
  | [], _, _, _, h => by simp [zlay, zget] at h
  | a :: r, n, i, v, h => by
    simp only [List.map_cons, lv_args, cat_cv]
    cases ha : zc1 a with
    | true =>
      simp only [zlay, ha] at h
      cases i with
      | zero => simp [zget] at h; simp [h]
      | succ j =>
        have := zlay_args (ad := ad) r (n + 1) j v (by simpa [zget] using h)
        rw [Nat.add_assoc, Nat.add_comm 1 j] at this
        simp only [if_true]
        exact List.mem_cons_of_mem _ (by simpa using this)
    | false =>
      simp only [zlay, ha] at h
      match i, h with
      | 0, h => simp [zget] at h; simp [h]
      | 1, h => simp [zget] at h
      | j + 2, h =>
        have := zlay_args (ad := ad) r (n + 2) j v (by simpa [zget] using h)
        rw [Nat.add_assoc, Nat.add_comm 2 j] at this
        exact List.mem_cons_of_mem _ (by simpa using this)
theorem zlay_mem : ∀ (vs : List AV) (i : Nat) (v : AV), zget (zlay vs) i = some v → v ∈ vs
  | [], _, _, h => by simp [zlay, zget] at h
  | a :: r, i, v, h => by
    cases ha : zc1 a with
    | true =>
      simp only [zlay, ha] at h
      cases i with
      | zero => simp [zget] at h; simp [h]
      | succ j => exact List.mem_cons_of_mem _ (zlay_mem r j v (by simpa [zget] using h))
    | false =>
      simp only [zlay, ha] at h
      match i, h with
      | 0, h => simp [zget] at h; simp [h]
      | 1, h => simp [zget] at h
      | j + 2, h => exact List.mem_cons_of_mem _ (zlay_mem r j v (by simpa [zget] using h))
theorem zpad_get : ∀ (n : Nat) (lo : ZL) (i : Nat) (v : AV), zget (zpad n lo) i = some v → zget lo i = some v
  | 0, _, _, _, h => h
  | n + 1, [], i, v, h => by
    cases i with
    | zero => simp [zpad, zget] at h
    | succ j =>
      have := zpad_get n [] j v (by simpa [zpad, zget] using h)
      simp [zget] at this
  | n + 1, a :: l, i, v, h => by
    cases i with
    | zero => simpa [zpad, zget] using h
    | succ j =>
      have := zpad_get n l j v (by simpa [zpad, zget] using h)
      simpa [zget] using this
theorem zlay_len {ad : Nat → Nat} (vs : List AV) : (lg_sl (vs.map (cv ad))).length = (zlay vs).length := by
  induction vs with
  | nil => rfl
  | cons a r ih =>
    simp only [lg_sl] at ih
    simp only [lg_sl, List.map_cons, List.flatMap_cons, List.length_append, cat_cv, ih]
    cases ha : zc1 a <;> simp [zlay, ha] <;> omega
/-- what a call of a method answers and leaves -/
def zQ (v : Option Value) (B : State → Prop) (A : Nat → Prop) : Array Value → State → Outcome → State → Prop := fun _ st oc t => (oc = .returned v ∧ B t) ∧ va_F A st t
def zrm (d : Nat) : Room := { frames := d + 1, cells := 0, slots := 0, locals := 64 * (d + 1) }
theorem zgoodIn {f : Zm} (hm : zM f) : GoodIn zws (Jvm.Cond.code (zy f) (zc f) (zn f) (zr f) :: zws) := by
  intro w hw
  have h1 : w ∈ zws := (List.mem_cons.mp hw).elim (fun e => e ▸ hm.spec.2.1) id
  exact ⟨h1, good_of_word (List.mem_filter.mp h1).2⟩
theorem zbool {x : Int} (h : x = 0 ∨ x = 1) : narrow .boolean (.int (Int32.ofInt x)) = .int (Int32.ofInt x) := by
  rcases h with h | h <;> subst h <;> rfl
theorem Ev_Met {Y : List (Nat × Nat)} {d : Nat} {f : Zm} {vs : List AV} {M M' : AM} {v : Option AV} (hm : zM f) (hE : Ev Y d f 0 (zpad (zn f) (zlay vs)) [] M v M') (hlen : (zlay vs).length ≤ zn f) (hgs : ∀ w ∈ vs, gd Y w) (hgM : zgM Y M) (hReg : zReg Y) (hY : zYs Y)
    (l : Launch) (D : va_G) (tys : List (ClassId × FieldType)) (ad : Nat → Nat) (dA : Nat → ClassId) (hT : ∀ (q k n : Nat), Y[q]? = some (k, n) → k < 10 → ∃ t0 : Nat, tys[t0]? = some (dA q, zet k)) (sz : Nat) :
    Met l (zy f) (Jvm.Cond.code (zy f) (zc f) (zn f) (zr f) :: zws) (zrm d) (va_Pc (vs.map (cv ad)) (fun U => U.heap.size = sz ∧ va_P D zcl (zw Y ad dA M) U.heap ∧ va_K D zcl tys U ∧ va_D (fun _ => True) (zw Y ad dA M)))
      (zQ (v.map (cv ad)) (fun t => va_P D zcl (zw Y ad dA M') t.heap ∧ zgM Y M' ∧ ∀ w ∈ v.toList, gd Y w) (va_A (zw Y ad dA M) sz)) 0 0 (va_A (zw Y ad dA M) sz) := by
  refine Met.ofW (cc := zc f) (maxL := zn f) (ret := zr f) hm.spec.2.2.2.2.2.1 rfl ?_
  intro p e s m args below meth c s₁ B hml hvv
  obtain ⟨rfl, hsz, hP, hK, hD0⟩ := hvv
  have hts := atoms_spec (ws := Jvm.Cond.code (zy f) (zc f) (zn f) (zr f) :: zws) B.pre
  have hown : s.vm.findClass (zy f).cls = some m.cls := findClass_of_methodNamed B.named
  have hlocks := B.notSynchronized
  subst hsz
  have hD := hD0.self (sz := s.heap.size)
  have hA : ∀ q : Nat, s.heap.size ≤ q → va_A (zw Y ad dA M) s.heap.size q := fun q h => Or.inr h
  have C : zC Y (zy f).cls (zc f) (zn f) p (headSpec (Jvm.Cond.code (zy f) (zc f) (zn f) (zr f) :: zws) (zrm d)).room s m (vs.map (cv ad)).toArray c D tys dA (va_A (zw Y ad dA M) s.heap.size) :=
    ⟨B.exec, B.bytes, hml, hown, fun w hw => hts w (List.mem_cons_of_mem _ hw), hK, hT, hA, hReg⟩
  have hl := lv_entry (vs.map (cv ad)) (n := zn f) (by rw [zlay_len]; exact hlen)
  rw [lg_entry_eq]
  refine hE p l e _ s m _ below meth c 0 0 _ D tys ad dA _ C hY (Nat.le_refl _) (Nat.le_refl _) (Nat.zero_le _) (Nat.zero_le _) trivial ?_ s.heap [] _ ⟨hP, hD, va_S.rf, hgM⟩ ⟨hl.1, hl.2.1, ?_⟩ (fun _ h => absurd h List.not_mem_nil)
  · intro pcr lo' hret H locs ls hW hL hG
    have hS := hW.2.2.1
    have fin : ∀ t : State, t.heap = H → s.WarmedH t.vm → zQ (v.map (cv ad)) (fun t => va_P D zcl (zw Y ad dA M') t.heap ∧ zgM Y M' ∧ ∀ w ∈ v.toList, gd Y w) (va_A (zw Y ad dA M) s.heap.size) (vs.map (cv ad)).toArray s (.returned (v.map (cv ad))) t := fun t ht hWm => ⟨⟨rfl, by rw [ht]; exact hW.1, hW.2.2.2, hG⟩, hS.F ht⟩
    match v, hret with
    | none, hret =>
      obtain ⟨h1, x, h2⟩ := hret
      exact W.vret B.exec B.bytes (by rw [B.returns, h1]) fin hS.2.2 (zdec_plain (ztab_at hm.spec.1 h2).1 (fun _ _ _ _ => by simp) (fun _ _ => by simp))
    | some (.inl x), hret =>
      obtain ⟨h1, y, h2⟩ := hret
      have hdg := zdec_plain (ztab_at hm.spec.1 h2).1 (fun _ _ _ _ => by simp) (fun _ _ => by simp)
      rcases h1 with h1 | ⟨h1, h3⟩
      · exact W.iret (v := Int32.ofInt x) B.exec B.bytes (by rw [B.returns, h1]) fin hS.2.2 hdg
      · exact W.zret (v := Int32.ofInt x) (ty := .boolean) B.exec B.bytes (by rw [B.returns, h1]) (zbool h3) fin hS.2.2 hdg
    | some (.inr (.inl x)), hret =>
      obtain ⟨h1, y, h2⟩ := hret
      exact W.lret (v := Int64.ofInt x) B.exec B.bytes (by rw [B.returns, h1]) fin hS.2.2 (zdec_plain (ztab_at hm.spec.1 h2).1 (fun _ _ _ _ => by simp) (fun _ _ => by simp))
    | some (.inr (.inr x)), hret => exact hret.elim
  · intro i w hi
    have h1 := zpad_get _ _ _ _ hi
    have h2 := hl.2.2 (i, cv ad w) (by have := zlay_args (ad := ad) vs 0 i w h1; simpa using this)
    exact ⟨h2, hgs w (zlay_mem vs i w h1)⟩
section ZCalls
variable {P : State → (Nat → Nat) → (Nat → Prop) → Prop} {Y : List (Nat × Nat)} {d : Nat} {f g : Zm} {pc : Nat} {lo : ZL} {M M1 M' : AM} {v u : Option AV}
theorem z_go {p : Program} {l : Launch} {e : Env} {R : Room} {s : State} {m : MethodId} {args : Array Value} {below : List Frame} {meth : Method} {c : Code} {H : Heap} {locs : List Loc} {cells slots : Nat} {Q : State → Prop} {A0 A1 : Nat → Prop} {H0 : Heap} {free : Addr → Prop} {ls : Array Slot} {st0 rest : List Value} {a : Array Value} {w : Option Value} {B : State → Prop}
    (hr : va_Run p l e R s m args below meth c H locs cells slots 0 0 (F0 m pc ls st0) rest (zQ w B A1 a) free) (hS : va_S A0 H0 H locs) (hA : ∀ q, q < H.size → A1 q → A0 q) (hf : ∀ q, free q → A0 q)
    (kk : ∀ (t : State) (H1 : Heap) (locs1 : List Loc), t.heap = H1 → B t → va_S A0 H0 H1 locs1 → W p l e R s m args below meth c H1 locs1 cells slots Q (F0 m (pc + 3) ls (w.toList ++ rest))) : W p l e R s m args below meth c H locs cells slots Q (F0 m pc ls st0) := by
  intro T hT X
  obtain ⟨v, st₀, t, T', L, h0, X', hL, e1, e2, ⟨⟨hv, hb⟩, hz, hk⟩, st⟩ := hr T hT X
  cases hv
  rw [h0] at hz hk
  obtain ⟨t2, a1, b1⟩ := kk t T'.heap (locs ++ L) e1.symm hb
    ⟨Nat.le_trans hS.1 (by rw [e1]; exact hz), fun q h1 h2 => by rw [e1, hk q (Nat.lt_of_lt_of_le h1 hS.1) (fun z => h2 (hA q (Nat.lt_of_lt_of_le h1 hS.1) z))]; exact hS.2.1 q h1 h2, fun q hq => by
      rcases List.mem_append.mp hq with h | h
      · exact hS.2.2 q h
      · exact hf _ (hL q h)⟩ T' rfl X'
  exact ⟨t2, st t2 a1, b1⟩
theorem z_cb {p : Program} {R : Room} {s : State} {m : MethodId} {args : Array Value} {c : Code} {D : va_G} {tys : List (ClassId × FieldType)} {dA : Nat → ClassId} {A : Nat → Prop} {own : String} {cc : ByteArray} {nL index : Nat} (C : zC Y own cc nL p R s m args c D tys dA A) (hg : zM g) (hl : Jvm.Cond.methodLink own index (zy g) ∈ zws) (hfr : d + 1 + 1 ≤ R.frames) (hlo : 64 * (d + 1 + 1) ≤ R.locals) :
    CallB R s args own index (zy g) (zc g) (zn g) (zr g) (Jvm.Cond.code (zy g) (zc g) (zn g) (zr g) :: zws) (zrm d) 0 0 (zna g) := by
  obtain ⟨hx, hb, hml, hown, hts, hK, hT, hA, hR⟩ := C
  obtain ⟨h1, h2, h3, h4, h5, h6, h7, h8, h9⟩ := hg.spec
  refine ⟨rfl, rfl, hfr, ?_, pay_in hts (zgoodIn hg), List.mem_cons_self, hts _ h2, hts _ h3, h7, fun sig h => ?_, hts _ hl⟩
  · show 8 + (zn g + 11) + 64 * (d + 1) ≤ R.locals
    omega
  · rw [h] at h8
    exact (Option.some.inj h8).symm
theorem z_blind {av : List Value} {D : va_G} {tys : List (ClassId × FieldType)} {ws : va_W} {sz : Nat} : FrameBlind (va_Pc av (fun U => U.heap.size = sz ∧ va_P D zcl ws U.heap ∧ va_K D zcl tys U ∧ va_D (fun _ => True) ws)) := by
  intro a U gg mk q
  obtain ⟨q0, q1, qP, qK, qD⟩ := q
  exact ⟨q0, q1, qP, va_K.moved (u := U) (U := U.calling gg mk a) (Vm.Alike.refl U.vm) qK, qD⟩
theorem z_A {A : Nat → Prop} {ad : Nat → Nat} {dA : Nat → ClassId} {s : State} {H : Heap} {locs : List Loc} (hD : va_D A (zw Y ad dA M)) (hS : va_S A s.heap H locs) (hA : ∀ q : Nat, s.heap.size ≤ q → A q) : ∀ q, va_A (zw Y ad dA M) H.size q → A q := by
  intro q h
  rcases h with ⟨k, e, hk⟩ | h
  · exact hD.2 k _ hk
  · exact hA q (Nat.le_trans hS.1 h)
theorem zcat_small {ad : Nat → Nat} {r : List AV} (h : r.length ≤ 4) : ((r.map (cv ad)).map fun v => v.category).sum ≤ 8 := by
  have := zcat_le (ad := ad) r
  omega
/-- what stands behind a call -/
theorem z_toL {ad : Nat → Nat} (u : Option AV) (r : List AV) : (u.map (cv ad)).toList ++ r.map (cv ad) = (u.toList ++ r).map (cv ad) := by cases u <;> rfl
theorem Z_callS (hf : zM f) (hg : zM g) (hsg : zst g = true) {idx i : Nat} {rn : (Nat × Nat × Nat × Nat × Nat × Nat) × Int} (he : zent (zt f) pc = some (.invokestatic idx, rn)) (hl : zhas i (Jvm.Cond.methodLink (zy f).cls idx (zy g)) = true)
    {st : List AV} (vs r : List AV) (hst : st = vs.reverse ++ r) (hn : vs.length = zna g) (hlen : (zlay vs).length ≤ zn g) (hr4 : r.length ≤ 4) (hE : Ev Y d g 0 (zpad (zn g) (zlay vs)) [] M u M1) (k : EvP P Y (d + 1) f (pc + 3) lo (u.toList ++ r) M1 v M') : EvP P Y (d + 1) f pc lo st M v M' := by
  intro p l e R s m args below meth c cells slots Q D tys ad dA A C hY hfr hlo hc hsl hP hret H locs ls hW hL hG
  have C0 := C
  obtain ⟨hx, hb, hml, hown, hts, hK, hT, hA, hR⟩ := C0
  subst hst
  have hgv : ∀ w ∈ vs, gd Y w := fun w h => hG w (by simp [h])
  have hgr : ∀ w ∈ r, gd Y w := fun w h => hG w (by simp [h])
  have hd := zdec_plain (ztab_at hf.spec.1 (rn := rn.1) (rz := rn.2) he).1 (fun _ _ _ _ => by simp) (fun _ _ => by simp)
  have hMet := Ev_Met hg hE hlen hgv hW.2.2.2 hR hY l D tys ad dA hT H.size
  have hFc := z_A hW.2.1 hW.2.2.1 hA
  have hstk : (vs.reverse ++ r).map (cv ad) = (vs.map (cv ad)).reverse ++ r.map (cv ad) := by simp
  rw [hstk]
  refine z_go (va_runS (As := vs.map (cv ad)) (rest := r.map (cv ad)) (Ts := zws) ⟨hx, hb, hml, hown, hts⟩ hMet ⟨z_cb C hg (zhas_mem hl) hfr hlo, hts _ (hg.spec.2.2.2.1 hsg)⟩ ⟨z_blind, fun U hU hWm => ⟨rfl, by rw [hU], by rw [hU]; exact hW.1, va_K.moved hWm.alike hK, hW.2.1.weaken (fun _ _ _ _ => trivial)⟩⟩ rfl (by simpa using hn) hL.1 rfl (lv_room (zcat_small hr4)) hd ⟨by simpa using hc, by simpa using hsl⟩) hW.2.2.1 (fun q _ h => hFc q h) hFc (fun t H1 locs1 ht hB hS1 => ?_)
  rw [z_toL]
  refine k p l e R s m args below meth c cells slots Q D tys ad dA A C hY hfr hlo hc hsl hP hret H1 locs1 ls ⟨by rw [← ht]; exact hB.1, zD_row hW.2.1, hS1, hB.2.1⟩ hL ?_
  intro w hw
  rcases List.mem_append.mp hw with h | h
  · exact hB.2.2 w h
  · exact hgr w h
theorem Z_callV (hf : zM f) (hg : zM g) (hsg : zst g = false) {idx i : Nat} {rn : (Nat × Nat × Nat × Nat × Nat × Nat) × Int} (he : zent (zt f) pc = some (.invokevirtual idx, rn)) (hl : zhas i (Jvm.Cond.methodLink (zy f).cls idx (zy g)) = true) {ci q n0 : Nat} (hci : (zcl[ci]?).map (fun x => x.1) = some (zy g).cls)
    {st : List AV} (vs r : List AV) (hst : st = vs.reverse ++ vR q (10 + ci) n0 :: r) (hn : vs.length = zna g) (hlen : (zlay (vR q (10 + ci) n0 :: vs)).length ≤ zn g) (hr4 : r.length ≤ 4) (hE : Ev Y d g 0 (zpad (zn g) (zlay (vR q (10 + ci) n0 :: vs))) [] M u M1) (k : EvP P Y (d + 1) f (pc + 3) lo (u.toList ++ r) M1 v M') : EvP P Y (d + 1) f pc lo st M v M' := by
  intro p l e R s m args below meth c cells slots Q D tys ad dA A C hY hfr hlo hc hsl hP hret H locs ls hW hL hG
  have C0 := C
  obtain ⟨hx, hb, hml, hown, hts, hK, hT, hA, hR⟩ := C0
  subst hst
  have hgv : ∀ w ∈ vs, gd Y w := fun w h => hG w (by simp [h])
  have hgq : Y[q]? = some (10 + ci, n0) := (hG (vR q (10 + ci) n0) (by simp)).resolve_left (by omega)
  have hgr : ∀ w ∈ r, gd Y w := fun w h => hG w (by simp [h])
  have hd := zdec_plain (ztab_at hf.spec.1 (rn := rn.1) (rz := rn.2) he).1 (fun _ _ _ _ => by simp) (fun _ _ => by simp)
  have hMet := Ev_Met hg hE hlen (fun w hw => (List.mem_cons.mp hw).elim (fun e => by rw [e]; exact Or.inr hgq) (hgv w)) hW.2.2.2 hR hY l D tys ad dA hT H.size
  have hFc := z_A hW.2.1 hW.2.2.1 hA
  have hstk : (vs.reverse ++ vR q (10 + ci) n0 :: r).map (cv ad) = (vs.map (cv ad)).reverse ++ .ref (ad q) :: r.map (cv ad) := by simp [cv]
  rw [hstk]
  obtain ⟨cq, hcq, hcq2⟩ : ∃ cq, zcl[ci]? = some cq ∧ cq.1 = (zy g).cls := by
    cases h : zcl[ci]? with
    | none => rw [h] at hci; cases hci
    | some cq => rw [h] at hci; exact ⟨cq, rfl, Option.some.inj hci⟩
  have hrecv := va_recv hK hW.1 hcq (zw_obj hgq)
  rw [hcq2] at hrecv
  have hins := hg.spec.2.2.2.2.1 hsg
  refine z_go (va_runV (As := vs.map (cv ad)) (rest := r.map (cv ad)) (Ts := zws) ⟨hx, hb, hml, hown, hts⟩ hMet ⟨z_cb C hg (zhas_mem hl) hfr hlo, hts _ hins.1, hts _ hins.2⟩ ⟨z_blind, hrecv, fun U hU hWm => ⟨rfl, by rw [hU], by rw [hU]; exact hW.1, va_K.moved hWm.alike hK, hW.2.1.weaken (fun _ _ _ _ => trivial)⟩⟩ rfl (by simpa using hn) hL.1 rfl (lv_room (zcat_small hr4)) hd ⟨by simpa using hc, by simpa using hsl⟩) hW.2.2.1 (fun q _ h => hFc q h) hFc (fun t H1 locs1 ht hB hS1 => ?_)
  rw [z_toL]
  refine k p l e R s m args below meth c cells slots Q D tys ad dA A C hY hfr hlo hc hsl hP hret H1 locs1 ls ⟨by rw [← ht]; exact hB.1, zD_row hW.2.1, hS1, hB.2.1⟩ hL ?_
  intro w hw
  rcases List.mem_append.mp hw with h | h
  · exact hB.2.2 w h
  · exact hgr w h
end ZCalls
