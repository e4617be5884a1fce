/-! calls on the keywords' text -/
theorem kws_len : Jvm.Cond.code yJ0_length_8abf5 cJ0_length_8abf5 1 (some .int) ∈ zws ∧ Jvm.Cond.initialized RJ0 ∈ zws ∧ Jvm.Cond.instanceMethod yJ0_length_8abf5 ∈ zws ∧ Jvm.Cond.selects RJ0 yJ0_length_8abf5 yJ0_length_8abf5 ∈ zws := ⟨zhas_mem (i := 1041) (by decide +kernel), zhas_mem (i := 1003) (by decide +kernel), zhas_mem (i := 1039) (by decide +kernel), zhas_mem (i := 1040) (by decide +kernel)⟩
theorem kws_chr : Jvm.Cond.code yJ0_charAt_5068e cJ0_charAt_5068e 2 (some .char) ∈ zws ∧ Jvm.Cond.initialized RJ0 ∈ zws ∧ Jvm.Cond.instanceMethod yJ0_charAt_5068e ∈ zws ∧ Jvm.Cond.selects RJ0 yJ0_charAt_5068e yJ0_charAt_5068e ∈ zws := ⟨zhas_mem (i := 1051) (by decide +kernel), zhas_mem (i := 1003) (by decide +kernel), zhas_mem (i := 1049) (by decide +kernel), zhas_mem (i := 1050) (by decide +kernel)⟩
theorem kgoodw {w : Jvm.Cond} (h : w ∈ zws) : GoodIn zws (w :: zws) := by
  intro w2 hw
  have h1 : w2 ∈ zws := (List.mem_cons.mp hw).elim (fun e => e ▸ h) id
  exact ⟨h1, good_of_word (List.mem_filter.mp h1).2⟩
section KSound6
variable {sk : (Nat → Nat) × (Nat → Nat)} {own : String} {cc : ByteArray} {nL : Nat} {p : Program} {l : Launch} {e : Env} {R : Room} {s : State} {m : MethodId} {args : Array Value} {below : List Frame} {meth : Method} {c : Code} {Q : State → Prop} {D : va_G} {A : Nat → Prop} {N0 : Nat → Bool} {ad0 : Nat → Nat} {dA0 : Nat → ClassId}
variable {pc n ce sl : Nat} {lo : ZL} {st : List AV} {W0 : KWd} {ns : List Nat} {y : KST}
/-- a call on the text -/
theorem ks_str (C : kCx sk own cc nL p R s m args meth c A) {yy : MethodName} {bytes : ByteArray} {maxL idx d : Nat} {ret : Option FieldType} {As : List Value} {v : Value} (hM : kMs l yy bytes maxL ret d As v) (hw : Jvm.Cond.code yy bytes maxL ret ∈ zws ∧ Jvm.Cond.initialized RJ0 ∈ zws ∧ Jvm.Cond.instanceMethod yy ∈ zws ∧ Jvm.Cond.selects RJ0 yy yy ∈ zws) (hl : Jvm.Cond.methodLink own idx yy ∈ zws) (hcls : yy.cls = RJ0) (hpar : (parseMethodDescriptor yy.desc).map (fun d => d.parameters.length) = some As.length) (hmax : maxL ≤ 40) (hfr : d + 1 + 1 ≤ R.frames) (hlo : 64 * (d + 1 + 1) ≤ R.locals) (hce : ce ≤ R.cells) (hsl : sl ≤ R.slots) (hd : decode cc pc = .ok (.invokevirtual idx, 3))
    {H : Heap} {locs : List Loc} {ls : Array Slot} {rest : List Value} (hsz : ls.size = nL) (hr : (rest.map fun v => v.category).sum ≤ 8) (hS : va_S A s.heap H locs)
    (kk : ∀ locs1 : List Loc, va_S A s.heap H locs1 → W p l e R s m args below meth c H locs1 ce sl Q (F0 m (pc + 3) ls (v :: rest))) : W p l e R s m args below meth c H locs ce sl Q (F0 m pc ls (As.reverse ++ .ref (sk.1 0) :: rest)) := by
  obtain ⟨hx, hb, hml, hown, hts, hAs, hE, hin2, hfr0, hlr, hSx⟩ := C
  have hne : yy.cls ≠ "java/lang/invoke/MethodHandle" ∧ yy.cls ≠ "java/lang/invoke/VarHandle" := by rw [hcls]; exact ⟨by decide +kernel, by decide +kernel⟩
  have hS9 : kSx sk (fun _ => False) s H := (hSx.kept hS.2.1).narrow (fun _ h => h.elim)
  refine z_go (va_runV (As := As) (rest := rest) (Ts := zws) (C := RJ0) ⟨hx, hb, hml, hown, hts⟩ (hM sk H) ⟨⟨rfl, rfl, hfr, ?_, pay_in hts (kgoodw hw.1), List.mem_cons_self, hts _ hw.1, by rw [hcls]; exact hts _ hw.2.1, hne, fun sig h => ?_, hts _ hl⟩, hts _ hw.2.2.1, hts _ hw.2.2.2⟩ ⟨?_, vk_recv hSx.1 (by decide) hS, fun U hU hW => ⟨rfl, hU, kSx.warm hW hS9⟩⟩ rfl rfl hsz rfl (lv_room hr) hd ⟨by simpa using hce, by simpa using hsl⟩) hS (fun q _ h => h.elim) (fun q h => h.elim) (fun t H1 locs1 ht hB hS1 => ?_)
  · show 8 + (maxL + 11) + 64 * (d + 1) ≤ R.locals
    omega
  · rw [h] at hpar
    exact (Option.some.inj hpar).symm
  · intro a U gg mk q
    obtain ⟨q0, q1, q2⟩ := q
    exact ⟨q0, q1, kSx.same (u := U) (U := U.calling gg mk a) rfl q2⟩
  · have e : H1 = H := ht.symm.trans hB
    rw [e] at hS1 ⊢
    exact kk locs1 hS1
theorem ks_slen (C : kCx sk own cc nL p R s m args meth c A) (hStr : kStr l) (h9 : N0 999 = true ∧ ad0 999 = sk.1 0) {i i1 : Nat} (hl : zhas i1 (Jvm.Cond.methodLink own i yJ0_length_8abf5) = true) (hfr : 5 ≤ R.frames) (hlo : 320 ≤ R.locals) (hd : decode cc pc = .ok (.invokevirtual i, 3))
    (hs : k_slen R.cells R.slots pc lo st W0 ns ce sl = some y) (kk : KB nL p l e R s m args below meth c Q D A N0 ad0 dA0 y) : KB nL p l e R s m args below meth c Q D A N0 ad0 dA0 (pc, lo, st, W0, ns, ce, sl) := by
  unfold k_slen at hs
  split at hs
  · rename_i q q2 q3 r
    split at hs
    · rename_i hg
      cases hs
      simp only [Bool.and_eq_true, beq_iff_eq] at hg
      obtain ⟨rfl, hr4, hce, hsl⟩ := hg
      have hce := Nat.le_of_ble_eq_true hce
      have hsl := Nat.le_of_ble_eq_true hsl
      intro ad dA tys hA H locs ls hP hD hS hK hT hL hG
      have e9 : ad 999 = sk.1 0 := (hA 999 h9.1).1.trans h9.2
      have e8 : (vR 999 q2 q3 :: r).map (cv ad) = ([] : List Value).reverse ++ .ref (sk.1 0) :: r.map (cv ad) := by
        rw [List.map_cons, ← e9]
        rfl
      rw [e8]
      exact ks_str C hStr.1 kws_len (zhas_mem hl) rfl (by decide +kernel) (by decide) hfr hlo hce hsl hd hL.1 (zcat_small (Nat.le_of_ble_eq_true hr4)) hS (fun locs1 hS1 => kk ad dA tys hA H locs1 ls hP hD hS1 hK hT hL (fun w hw => (List.mem_cons.mp hw).elim (fun e => by rw [e]; exact (g32_iff _).mpr (by decide +kernel)) (fun h => hG w (List.mem_cons_of_mem _ h))))
    · cases hs
  · cases hs
theorem kpar1 {v : Value} : (parseMethodDescriptor yJ0_charAt_5068e.desc).map (fun d => d.parameters.length) = some [v].length := by
  show _ = some 1
  decide +kernel
theorem kSc_g : ∀ j : Nat, g32 (kSc.getD j 0) := by
  have h : kSc.all (fun x => zgC x) = true := by decide +kernel
  intro j
  rw [List.getD_eq_getElem?_getD]
  cases e : kSc[j]? with
  | none => exact g32_0
  | some x => exact z_rg (List.all_eq_true.mp h x (List.mem_of_getElem? e))
theorem ks_schr (C : kCx sk own cc nL p R s m args meth c A) (hStr : kStr l) (h9 : N0 999 = true ∧ ad0 999 = sk.1 0) {i i1 : Nat} (hl : zhas i1 (Jvm.Cond.methodLink own i yJ0_charAt_5068e) = true) (hfr : 5 ≤ R.frames) (hlo : 320 ≤ R.locals) (hd : decode cc pc = .ok (.invokevirtual i, 3))
    (hs : k_schr R.cells R.slots pc lo st W0 ns ce sl = some y) (kk : KB nL p l e R s m args below meth c Q D A N0 ad0 dA0 y) : KB nL p l e R s m args below meth c Q D A N0 ad0 dA0 (pc, lo, st, W0, ns, ce, sl) := by
  unfold k_schr at hs
  split at hs
  · rename_i j q q2 q3 r
    split at hs
    · rename_i hg
      cases hs
      simp only [Bool.and_eq_true, beq_iff_eq, decide_eq_true_eq] at hg
      obtain ⟨rfl, hr4, h0, h1, hce, hsl⟩ := hg
      have hce := Nat.le_of_ble_eq_true hce
      have hsl := Nat.le_of_ble_eq_true hsl
      have h1 := Nat.blt_eq.mp h1
      intro ad dA tys hA H locs ls hP hD hS hK hT hL hG
      have e9 : ad 999 = sk.1 0 := (hA 999 h9.1).1.trans h9.2
      have ej : ((j.toNat : Nat) : Int) = j := Int.toNat_of_nonneg h0
      have e8 : (vI j :: vR 999 q2 q3 :: r).map (cv ad) = [Value.int (Int32.ofInt ((j.toNat : Nat) : Int))].reverse ++ .ref (sk.1 0) :: r.map (cv ad) := by
        rw [List.map_cons, List.map_cons, ← e9, ej]
        rfl
      rw [e8]
      exact ks_str C (hStr.2 j.toNat h1) kws_chr (zhas_mem hl) rfl kpar1 (by decide) hfr hlo hce hsl hd hL.1 (zcat_small (Nat.le_of_ble_eq_true hr4)) hS (fun locs1 hS1 => kk ad dA tys hA H locs1 ls hP hD hS1 hK hT hL (fun w hw => (List.mem_cons.mp hw).elim (fun e => by rw [e]; exact kSc_g _) (fun h => hG w (List.mem_cons_of_mem _ (List.mem_cons_of_mem _ h)))))
    · cases hs
  · cases hs
end KSound6
