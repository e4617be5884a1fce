/-! length() and charAt(int) of a String, out of the JDK's code -/
abbrev SK : Type := (Nat → Nat) × (Nat → Nat)
abbrev nA : Nat → Prop := fun _ => False
/-- a method that changes nothing: arguments, answer -/
def kMg (l : Launch) (y : MethodName) (bytes : ByteArray) (maxL : Nat) (ret : Option FieldType) (d : Nat) (vs : SK → List Value) (v : Option Value) : Prop := ∀ (sk : SK) (H0 : Heap), Met l y (Jvm.Cond.code y bytes maxL ret :: zws) (krm d 0 0) (va_Pc (vs sk) (fun U => U.heap = H0 ∧ kSx sk nA U H0)) (zQ v (fun t => t.heap = H0) nA) 0 0 nA
/-- what is known inside -/
def kC9 (sk : SK) (own : String) (cc : ByteArray) (nL d : Nat) (ret : Option FieldType) (p : Program) (R : Room) (s : State) (m : MethodId) (args : Array Value) (meth : Method) (c : Code) : Prop :=
  p.tables.exec = Jvm.exec ∧ c.code = cc ∧ c.maxLocals = nL ∧ s.vm.findClass own = some m.cls ∧ (∀ w ∈ zws, w.before args s = true) ∧ kSx sk nA s s.heap ∧ meth.sig.returnType = ret ∧ meth.locks = false ∧ d + 1 ≤ R.frames ∧ 64 * (d + 1) ≤ R.locals
theorem kMg_of {l : Launch} {y : MethodName} {bytes : ByteArray} {maxL : Nat} {ret : Option FieldType} {d : Nat} {vs : SK → List Value} {v : Option Value} (hy : plainName y.cls = true) (hlen : ∀ sk, (lg_sl (vs sk)).length ≤ maxL)
    (body : ∀ (sk : SK) (p : Program) (e : Env) (R : Room) (s : State) (m : MethodId) (below : List Frame) (meth : Method) (c : Code) (ls : Array Slot), kC9 sk y.cls bytes maxL d ret p R s m (vs sk).toArray meth c → lv_has ls maxL (lv_args 0 (vs sk)) →
      W p l e R s m (vs sk).toArray below meth c s.heap [] 0 0 (MQ below (zQ v (fun t => t.heap = s.heap) nA) (vs sk).toArray s 0 0 nA) (F0 m 0 ls [])) : kMg l y bytes maxL ret d vs v := by
  intro sk H0
  refine Met.ofW (cc := bytes) (maxL := maxL) (ret := ret) hy rfl ?_
  intro p e s m args below meth c s₁ B hml hvv
  obtain ⟨rfl, rfl, hSx⟩ := hvv
  have hts := atoms_spec (ws := Jvm.Cond.code y bytes maxL ret :: zws) B.pre
  have hown : s.vm.findClass y.cls = some m.cls := findClass_of_methodNamed B.named
  have hl := lv_entry (vs sk) (n := maxL) (hlen sk)
  rw [lg_entry_eq]
  exact body sk p e _ s m below meth c _ ⟨B.exec, B.bytes, hml, hown, fun w hw => hts w (List.mem_cons_of_mem _ hw), hSx, B.returns, B.notSynchronized, Nat.le_refl _, Nat.le_refl _⟩ hl
section KJ
variable {sk : SK} {own : String} {cc : ByteArray} {nL d : Nat} {ret : Option FieldType} {p : Program} {l : Launch} {e : Env} {R : Room} {s : State} {m : MethodId} {args : Array Value} {below : List Frame} {meth : Method} {c : Code} {Q : State → Prop} {pc : Nat} {ls : Array Slot} {rest : List Value} {locs : List Loc}
theorem kj_S (C : kC9 sk own cc nL (d + 1) ret p R s m args meth c) {yy : MethodName} {bytes : ByteArray} {maxL idx : Nat} {r2 : Option FieldType} {vs : SK → List Value} {v : Option Value} (hM : kMg l yy bytes maxL r2 d vs v) (hw : Jvm.Cond.code yy bytes maxL r2 ∈ zws ∧ Jvm.Cond.initialized yy.cls ∈ zws ∧ Jvm.Cond.static yy ∈ zws) (hl : Jvm.Cond.methodLink own idx yy ∈ zws) (hne : yy.cls ≠ "java/lang/invoke/MethodHandle" ∧ yy.cls ≠ "java/lang/invoke/VarHandle") (hpar : (parseMethodDescriptor yy.desc).map (fun d => d.parameters.length) = some (vs sk).length) (hmax : maxL ≤ 40) (hd : decode cc pc = .ok (.invokestatic idx, 3))
    (hsz : ls.size = nL) (hr : (rest.map fun v => v.category).sum ≤ 8) (hS : va_S nA s.heap s.heap locs) (kk : ∀ locs1 : List Loc, va_S nA s.heap s.heap locs1 → W p l e R s m args below meth c s.heap locs1 0 0 Q (F0 m (pc + 3) ls (v.toList ++ rest))) : W p l e R s m args below meth c s.heap locs 0 0 Q (F0 m pc ls ((vs sk).reverse ++ rest)) := by
  obtain ⟨hx, hb, hml, hown, hts, hSx, hret, hlk, hfr, hlo⟩ := C
  refine z_go (va_runS (As := vs sk) (rest := rest) (Ts := zws) ⟨hx, hb, hml, hown, hts⟩ (hM sk s.heap) ⟨⟨rfl, rfl, hfr, ?_, pay_in hts (kgoodw hw.1), List.mem_cons_self, hts _ hw.1, hts _ hw.2.1, hne, fun sig h => ?_, hts _ hl⟩, hts _ hw.2.2⟩ ⟨?_, fun U hU hW => ⟨rfl, hU, kSx.warm hW hSx⟩⟩ rfl rfl hsz rfl (lv_room hr) hd ⟨Nat.zero_le _, Nat.zero_le _⟩) hS (fun q _ h => h.elim) (fun q h => h.elim) (fun t H1 locs1 ht hB hS1 => ?_)
  · show 8 + (maxL + 11) + 64 * (d + 1) ≤ R.locals
    omega
  · rw [h] at hpar
    exact (Option.some.inj hpar).symm
  · intro a U gg mk q
    obtain ⟨q0, q1, q2⟩ := q
    exact ⟨q0, q1, kSx.same (u := U) (U := U.calling gg mk a) rfl q2⟩
  · have e : H1 = s.heap := ht.symm.trans hB
    rw [e] at hS1 ⊢
    exact kk locs1 hS1
theorem kj_V (C : kC9 sk own cc nL (d + 1) ret p R s m args meth c) {yy : MethodName} {bytes : ByteArray} {maxL idx : Nat} {r2 : Option FieldType} {v : Option Value} (hM : kMg l yy bytes maxL r2 d (fun sk => [.ref (sk.1 0)]) v) (hw : Jvm.Cond.code yy bytes maxL r2 ∈ zws ∧ Jvm.Cond.initialized RJ0 ∈ zws ∧ Jvm.Cond.instanceMethod yy ∈ zws ∧ Jvm.Cond.selects RJ0 yy yy ∈ zws) (hl : Jvm.Cond.methodLink own idx yy ∈ zws) (hcls : yy.cls = RJ0) (hpar : (parseMethodDescriptor yy.desc).map (fun d => d.parameters.length) = some 0) (hmax : maxL ≤ 40) (hd : decode cc pc = .ok (.invokevirtual idx, 3))
    (hsz : ls.size = nL) (hr : (rest.map fun v => v.category).sum ≤ 8) (hS : va_S nA s.heap s.heap locs) (kk : ∀ locs1 : List Loc, va_S nA s.heap s.heap locs1 → W p l e R s m args below meth c s.heap locs1 0 0 Q (F0 m (pc + 3) ls (v.toList ++ rest))) : W p l e R s m args below meth c s.heap locs 0 0 Q (F0 m pc ls (.ref (sk.1 0) :: rest)) := by
  obtain ⟨hx, hb, hml, hown, hts, hSx, hret, hlk, hfr, hlo⟩ := C
  have hne : yy.cls ≠ "java/lang/invoke/MethodHandle" ∧ yy.cls ≠ "java/lang/invoke/VarHandle" := by rw [hcls]; exact ⟨by decide +kernel, by decide +kernel⟩
  refine z_go (va_runV (As := []) (rest := rest) (Ts := zws) (C := RJ0) ⟨hx, hb, hml, hown, hts⟩ (hM sk s.heap) ⟨⟨rfl, rfl, hfr, ?_, pay_in hts (kgoodw hw.1), List.mem_cons_self, hts _ hw.1, by rw [hcls]; exact hts _ hw.2.1, hne, fun sig h => ?_, hts _ hl⟩, hts _ hw.2.2.1, hts _ hw.2.2.2⟩ ⟨?_, vk_recv hSx.1 (by decide) hS, fun U hU hW => ⟨rfl, hU, kSx.warm hW hSx⟩⟩ rfl rfl hsz rfl (lv_room hr) hd ⟨Nat.zero_le _, Nat.zero_le _⟩) hS (fun q _ h => h.elim) (fun q h => h.elim) (fun t H1 locs1 ht hB hS1 => ?_)
  · show 8 + (maxL + 11) + 64 * (d + 1) ≤ R.locals
    omega
  · rw [h] at hpar
    exact (Option.some.inj hpar).symm
  · intro a U gg mk q
    obtain ⟨q0, q1, q2⟩ := q
    exact ⟨q0, q1, kSx.same (u := U) (U := U.calling gg mk a) rfl q2⟩
  · have e : H1 = s.heap := ht.symm.trans hB
    rw [e] at hS1 ⊢
    exact kk locs1 hS1
end KJ
theorem kj_dec (cc : ByteArray) (pc : Nat) (i : Instr) (n : Nat) (h : (match decode cc pc with
  | .ok (j, k) => decide (j = i) && k == n
  | _ => false) = true) : decode cc pc = .ok (i, n) := by
  split at h
  · rename_i j k hd
    simp only [Bool.and_eq_true, decide_eq_true_eq, beq_iff_eq] at h
    rw [hd, h.1, h.2]
  · cases h
theorem kj_coder {l : Launch} : kMg l yJ0_coder_7d493 cJ0_coder_7d493 1 (some .byte) 0 (fun sk => [.ref (sk.1 0)]) (some (.int 0)) := by
  refine kMg_of (by decide +kernel) (fun _ => Nat.le_refl 1) ?_
  intro sk p e R s m below meth c ls C hl
  obtain ⟨hx, hb, hml, hown, hts, hSx, hret, hlocks, hfr, hlo⟩ := C
  have hS : va_S nA s.heap s.heap [] := va_S.rf
  have hl : lv_has ls 1 [(0, .ref (sk.1 0))] := hl
  refine va_gets hx hb hSx.2.1 hS hown (index := 38) (ref := "java/lang/String") (hts _ (zhas_mem (i := 1046) (by decide +kernel))) (fun _ h => h) (by decide +kernel) ?_
  refine lv_if_eq hx hb (off := 10) (tgt := 13) (by decide +kernel) rfl (fun h => absurd h (by decide)) (fun _ => ?_)
  refine lv_aload_n hx hb (k := 0) (by decide +kernel) rfl (lv_at hl 0 rfl) ?_
  refine vk_getf hx hb (hSx.1.1 0 (by decide)).2.1 hS hown (index := 15) (ref := "java/lang/String") (hts _ (zhas_mem (i := 9046) (by decide +kernel))) (fun _ h => h) (by decide +kernel) ?_
  refine lv_goto hx hb (off := 4) (tgt := 14) (by decide +kernel) rfl ?_
  exact W.zret (ty := .byte) hx hb hret rfl (fun t ht _ => ⟨⟨rfl, ht⟩, hS.F ht⟩) hS.2.2 (by decide +kernel)
