/-! stores into objects and arrays, reads, calls of constructors -/
section KSound2
variable {sk : (Nat → Nat) × (Nat → Nat)} {own : String} {cc : ByteArray} {nL : Nat} {p : Program} {l : Launch} {e : Env} {R : Room} {s : State} {m : MethodId} {args : Array Value} {below : List Frame} {meth : Method} {c : Code} {Q : State → Prop} {D : va_G} {A : Nat → Prop} {N0 : Nat → Bool} {ad0 : Nat → Nat} {dA0 : Nat → ClassId} {G : Nat → Nat → Bool} {fin : Nat → Nat → KWd} {mc ms : Nat → Nat} {kini : Nat → Zm} {kd : Nat → Nat}
variable {pc n ce sl : Nat} {lo : ZL} {st : List AV} {W0 : KWd} {ns : List Nat} {y : KST}
theorem kT_set {W : KWd} {dA : Nat → ClassId} {tys : List (ClassId × FieldType)} {i q : Nat} {c0 c1 : KC} (h : kT W dA tys) (hi : W[i]? = some (q, c0)) (hc : ∀ k n rs, c1 = .inl (k, n, rs) → ∃ n2 rs2, c0 = .inl (k, n2, rs2)) : kT (W.set i (q, c1)) dA tys := by
  intro j q2 k n rs hj
  by_cases e : i = j
  · subst e
    rw [List.getElem?_set_self (List.getElem?_eq_some_iff.mp hi).1] at hj
    cases hj
    obtain ⟨n2, rs2, h2⟩ := hc k n rs rfl
    subst h2
    exact h i _ _ _ _ hi
  · rw [List.getElem?_set_ne e] at hj
    exact h j q2 k n rs hj
theorem kfit_ok {d : String} {t : Nat} {v : AV} {ad : Nat → Nat} (ht : (t = 0 ∧ parseFieldDescriptor d = some .int) ∨ (t = 1 ∧ parseFieldDescriptor d = some .long) ∨ (t = 2 ∧ ∃ ty, parseFieldDescriptor d = some ty ∧ ((∃ C, ty = .object C) ∨ ∃ u, ty = .array u)) ∨ (t = 3 ∧ parseFieldDescriptor d = some .boolean)) (hv : kfit t v = true) :
    ∃ ty, parseFieldDescriptor d = some ty ∧ narrow ty (cv ad v) = cv ad v ∧ fits ty (cv ad v) = true := by
  rcases ht with ⟨rfl, h⟩ | ⟨rfl, h⟩ | ⟨rfl, ty, h, h2⟩ | ⟨rfl, h⟩
  · refine ⟨_, h, ?_⟩
    rcases v with x | x | ⟨q, k, n⟩
    · exact ⟨rfl, rfl⟩
    · cases hv
    · cases hv
  · refine ⟨_, h, ?_⟩
    rcases v with x | x | ⟨q, k, n⟩
    · simp [kfit] at hv
    · exact ⟨rfl, rfl⟩
    · cases hv
  · refine ⟨_, h, ?_⟩
    rcases v with x | x | ⟨q, k, n⟩
    · simp [kfit] at hv
    · cases hv
    · rcases h2 with ⟨C, rfl⟩ | ⟨u, rfl⟩ <;> exact ⟨rfl, rfl⟩
  · refine ⟨_, h, ?_⟩
    rcases v with x | x | ⟨q, k, n⟩
    · simp [kfit] at hv
      rcases hv with rfl | rfl <;> exact ⟨rfl, rfl⟩
    · cases hv
    · cases hv
/-- of every field that is a reference: what its descriptor says -/
def kdsb (q : vw_C) (f : List (Nat × Nat × Nat × Nat)) : Bool := (List.range q.2.2).all (fun a => match f.getD a (9, 0, 0, 0) with
  | (2, _) => match parseFieldDescriptor (q.2.1 a).2.2.1 with
    | some (.object _) => true
    | some (.array _) => true
    | _ => false
  | _ => true)
theorem zcl_kds : ∀ (i : Nat) (q : vw_C), zcl[i]? = some q → kdsb q (zft i) = true := by
  have h : (zcl.mapIdx (fun i q => kdsb q (zft i))).all id = true := by decide +kernel
  intro i q hq
  have h2 : (zcl.mapIdx (fun i q => kdsb q (zft i)))[i]? = some (kdsb q (zft i)) := by simp [List.getElem?_mapIdx, hq]
  exact List.all_eq_true.mp h _ (List.mem_of_getElem? h2)
theorem zcl_sort {ci k t : Nat} {C : String} {T : u_T} {N : Nat} (hc : zcl[ci]? = some (C, T, N)) (hk : k < N) (ht : ((zft ci)[k]?).map (fun t => t.1) = some t) : (t = 0 ∧ parseFieldDescriptor (T k).2.2.1 = some .int) ∨ (t = 1 ∧ parseFieldDescriptor (T k).2.2.1 = some .long) ∨ (t = 2 ∧ ∃ ty, parseFieldDescriptor (T k).2.2.1 = some ty ∧ ((∃ C, ty = .object C) ∨ ∃ u, ty = .array u)) ∨ (t = 3 ∧ parseFieldDescriptor (T k).2.2.1 = some .boolean) := by
  have h1 := zcl_ds _ _ hc
  have h2 := zcl_kds _ _ hc
  simp only [zdsb, List.all_eq_true, List.mem_range] at h1
  simp only [kdsb, List.all_eq_true, List.mem_range] at h2
  have h1 := h1 k hk
  have h2 := h2 k hk
  cases hz : (zft ci)[k]? with
  | none => rw [hz] at ht; cases ht
  | some z =>
    rw [hz] at ht
    have hg : (zft ci).getD k (9, 0, 0, 0) = z := by simp [List.getD_eq_getElem?_getD, hz]
    rw [hg] at h1 h2
    obtain ⟨a, b⟩ := z
    cases ht
    match a, h1, h2 with
    | 0, h1, _ => exact Or.inl ⟨rfl, by simpa using h1⟩
    | 1, h1, _ => exact Or.inr (Or.inl ⟨rfl, by simpa using h1⟩)
    | 2, _, h2 =>
      refine Or.inr (Or.inr (Or.inl ⟨rfl, ?_⟩))
      have h3 : (match parseFieldDescriptor (T k).2.2.1 with
        | some (.object _) => true
        | some (.array _) => true
        | _ => false) = true := h2
      split at h3
      · rename_i C1 hp
        exact ⟨_, hp, Or.inl ⟨_, rfl⟩⟩
      · rename_i u hp
        exact ⟨_, hp, Or.inr ⟨_, rfl⟩⟩
      · cases h3
    | 3, h1, _ => exact Or.inr (Or.inr (Or.inr ⟨rfl, by simpa using h1⟩))
    | n + 4, h1, _ => cases h1
theorem zcl_noL {i : Nat} {C : String} {T : u_T} {N : Nat} (hc : zcl[i]? = some (C, T, N)) {k : Nat} (hk : k < N) : (T k).1 ≠ "BellPullHouseLaw" := by
  have h : zcl.all (fun q => (List.range q.2.2).all (fun k => decide ((q.2.1 k).1 ≠ "BellPullHouseLaw"))) = true := by decide +kernel
  have h1 := List.all_eq_true.mp h _ (List.mem_of_getElem? hc)
  have h2 := List.all_eq_true.mp h1 k (List.mem_range.mpr hk)
  exact of_decide_eq_true h2
theorem ks_put (C : kCx sk own cc nL p R s m args meth c A) {i ci k t i1 : Nat} {Cn : String} {T : u_T} {N : Nat} (hc : zcl[ci]? = some (Cn, T, N)) (hk : k < N) (ht : ((zft ci)[k]?).map (fun t => t.1) = some t) (h1 : zhas i1 (Jvm.Cond.fieldLink own i (T k).1 (T k).2.1 (T k).2.2.1) = true) (h2 : (!(T k).2.2.2 || decide ((T k).1 = own)) = true) (hd : decode cc pc = .ok (.putfield i, 3))
    (hs : k_put pc ci k t lo st W0 ns ce sl = some y) (kk : KB nL p l e R s m args below meth c Q D A N0 ad0 dA0 y) : KB nL p l e R s m args below meth c Q D A N0 ad0 dA0 (pc, lo, st, W0, ns, ce, sl) := by
  obtain ⟨hx, hb, hml, hown, hts, hAs, hE, hin2, hfr, hlr, hSx⟩ := C
  unfold k_put at hs
  split at hs
  · rename_i v q q2 q3 r
    split at hs
    · rename_i j ci' fs hf
      split at hs
      · rename_i hg
        cases hs
        simp only [Bool.and_eq_true, beq_iff_eq] at hg
        obtain ⟨rfl, hfit, hlen⟩ := hg
        have hlen : k < fs.length := Nat.blt_eq.mp hlen
        intro ad dA tys hA H locs ls hP hD hS hK hT hL hG
        have hj := kfind0 hf
        obtain ⟨ty, t1, t2, t3⟩ := kfit_ok (ad := ad) (zcl_sort hc hk ht) hfit
        have he := kw_at (ad := ad) (dA := dA) hj
        have e0 : (ad q, (Sum.inr (ci', (fs.map (kfv ad)).set k (cv ad v)) : va_E)) = (ad q, kce ad dA q (.inr (ci', fs.set k (some v)))) := by
          show (_, Sum.inr (_, _)) = (_, Sum.inr (_, _))
          rw [List.map_set]
          rfl
        have fin : ∀ (H1 : Heap) (locs1 : List Loc), va_P D zcl ((kw ad dA W0).set j (ad q, .inr (ci', (fs.map (kfv ad)).set k (cv ad v)))) H1 → va_D A ((kw ad dA W0).set j (ad q, .inr (ci', (fs.map (kfv ad)).set k (cv ad v)))) → va_S A s.heap H1 locs1 → W p l e R s m args below meth c H1 locs1 ce sl Q (F0 m (pc + 3) ls (r.map (cv ad))) := by
          intro H1 locs1 hP1 hD1 hS1
          rw [e0, kw_set] at hP1 hD1
          exact kk ad dA tys hA H1 locs1 ls hP1 hD1 hS1 hK (kT_set hT hj (fun k n rs h => by cases h)) hL (fun w hw => hG w (List.mem_cons_of_mem _ (List.mem_cons_of_mem _ hw)))
        cases hfin : (T k).2.2.2 with
        | false => exact va_put hx hb hts (fun w hw => zcl_in _ (List.mem_of_getElem? hc) w hw) (fun a => (parseFieldDescriptor (T a).2.2.1).getD .int) (zcl_parse hc).1 (zcl_parse hc).2 hown hK hP hD hS j he hc k hk (hts _ (zhas_mem h1)) (fun _ h => h) hfin t1 t2 t3 (by rw [List.length_map]; exact hlen) hd fin
        | true =>
          rw [hfin] at h2
          have h2 : (T k).1 = own := by simpa using h2
          exact va_putF hx hb hts (fun w hw => zcl_in _ (List.mem_of_getElem? hc) w hw) (fun a => (parseFieldDescriptor (T a).2.2.1).getD .int) (zcl_parse hc).1 (zcl_parse hc).2 hown hK hP hD hS j he hc k hk (hts _ (zhas_mem h1)) (fun _ h => h) hfin (hin2.resolve_right (fun h9 => zcl_noL hc hk (h2.trans h9))) h2 t1 t2 t3 (by rw [List.length_map]; exact hlen) hd fin
      · cases hs
    · cases hs
  · cases hs
theorem kgd_ok {v : AV} (h : kgd v = true) : gd [] v := by
  rcases v with x | x | ⟨q, k, n⟩
  · exact z_rg h
  · exact z_rgL h
  · exact Or.inl (by simpa [kgd] using h)
theorem ks_get (C : kCx sk own cc nL p R s m args meth c A) {i ci k i1 : Nat} {Cn : String} {T : u_T} {N : Nat} (hc : zcl[ci]? = some (Cn, T, N)) (hk : k < N) (h1 : zhas i1 (Jvm.Cond.fieldLink own i (T k).1 (T k).2.1 (T k).2.2.1) = true) (hd : decode cc pc = .ok (.getfield i, 3))
    (hs : k_get pc ci k lo st W0 ns ce sl = some y) (kk : KB nL p l e R s m args below meth c Q D A N0 ad0 dA0 y) : KB nL p l e R s m args below meth c Q D A N0 ad0 dA0 (pc, lo, st, W0, ns, ce, sl) := by
  obtain ⟨hx, hb, hml, hown, hts, hAs, hE, hin2, hfr, hlr, hSx⟩ := C
  unfold k_get at hs
  split at hs
  · rename_i q q2 q3 r
    split at hs
    · rename_i j ci' fs hf
      split at hs
      · rename_i v hv
        split at hs
        · rename_i hg
          cases hs
          simp only [Bool.and_eq_true, beq_iff_eq] at hg
          obtain ⟨rfl, hg⟩ := hg
          intro ad dA tys hA H locs ls hP hD hS hK hT hL hG
          have he := kw_at (ad := ad) (dA := dA) (kfind0 hf)
          refine va_get (v := cv ad v) hx hb hts (fun w hw => zcl_in _ (List.mem_of_getElem? hc) w hw) hown hK hP j he hc k hk (hts _ (zhas_mem h1)) (fun _ h => h) (by rw [List.getElem?_map, hv]; rfl) hd ?_
          exact kk ad dA tys hA H locs ls hP hD hS hK hT hL (fun w hw => (List.mem_cons.mp hw).elim (fun e => by rw [e]; exact kgd_ok hg) (fun h => hG w (List.mem_cons_of_mem _ h)))
        · cases hs
      · cases hs
    · cases hs
  · cases hs
theorem kset_get : ∀ (j : Nat) (rs : List Int) (x : Int) (i : Nat), (kset rs j x).getD i 0 = if i = j then x else rs.getD i 0
  | 0, [], x, i => by cases i <;> simp [kset]
  | 0, a :: l, x, i => by cases i <;> simp [kset]
  | n + 1, [], x, i => by
    cases i with
    | zero => simp [kset]
    | succ i =>
      have h := kset_get n [] x i
      simp only [kset, List.getD_cons_succ, h, Nat.add_right_cancel_iff]
      split <;> simp
  | n + 1, a :: l, x, i => by
    cases i with
    | zero => simp [kset]
    | succ i =>
      have h := kset_get n l x i
      simp only [kset, List.getD_cons_succ, h, Nat.add_right_cancel_iff]
theorem ks_aast (C : kCx sk own cc nL p R s m args meth c A) (hd : decode cc pc = .ok (.aastore, 1))
    (hs : k_aast pc lo st W0 ns ce sl = some y) (kk : KB nL p l e R s m args below meth c Q D A N0 ad0 dA0 y) : KB nL p l e R s m args below meth c Q D A N0 ad0 dA0 (pc, lo, st, W0, ns, ce, sl) := by
  obtain ⟨hx, hb, hml, hown, hts, hAs, hE, hin2, hfr, hlr, hSx⟩ := C
  unfold k_aast at hs
  split at hs
  · rename_i v v2 v3 x q q2 q3 r
    split at hs
    · rename_i j k n rs hf
      split at hs
      · rename_i j2 cv1 fs hf2
        split at hs
        · rename_i hg
          cases hs
          simp only [Bool.and_eq_true, decide_eq_true_eq] at hg
          obtain ⟨hk3, hcl, hx0, hxn⟩ := hg
          intro ad dA tys hA H locs ls hP hD hS hK hT hL hG
          have hj := kfind0 hf
          have hj2 := kfind0 hf2
          have he := kw_at (ad := ad) (dA := dA) hj
          have he2 := kw_at (ad := ad) (dA := dA) hj2
          have hgx : g32 x := hG (vI x) (by simp)
          have k1 : ¬ k = 1 := by omega
          have ek : ∀ rs2 : List Int, kea ad k n rs2 = (n, .inr (.inr (.inr (.inr (fun j => kro ad (rs2.getD j 0)))))) := by
            intro rs2
            unfold kea
            rw [if_neg k1, if_pos hk3]
          obtain ⟨t0, ht0⟩ := hT _ _ _ _ _ hj
          cases hz : zcl[cv1]? with
          | none => rw [hz] at hcl; cases hcl
          | some z =>
            rw [hz] at hcl
            have hcl : zet k = .object z.1 := (Option.some.inj hcl).symm
            rw [hcl] at ht0
            have hN : (Int32.ofInt x).toNatClampNeg = x.toNat := by
              show (Int32.ofInt x).toInt.toNat = _
              rw [hgx]
            have hin : vp_in (Int32.ofInt x) n := by
              intro h
              rcases h with h | h
              · rw [← z0, i32_lt hgx g32_0] at h
                omega
              · rw [hN] at h
                omega
            have he' : (kw ad dA W0)[j]? = some (ad q, .inl (dA q, n, .inr (.inr (.inr (.inr (fun j => kro ad (rs.getD j 0))))))) := by
              rw [he, ← ek rs]
              rfl
            refine va_astq hx hb hK hP hD hS j t0 j2 cv1 he' ht0 he2 hz hin hd (fun H1 locs1 hP1 hD1 hS1 => ?_)
            have e0 : (ad q, (Sum.inl (dA q, n, .inr (.inr (.inr (.inr (va_up (fun j => kro ad (rs.getD j 0)) (Int32.ofInt x).toNatClampNeg (some (ad v))))))) : va_E)) = (ad q, kce ad dA q (.inl (k, n, kset rs x.toNat ((v : Int) + 1)))) := by
              show (_, Sum.inl (_, _)) = (_, Sum.inl (_, _))
              rw [ek, hN]
              have : va_up (fun j => kro ad (rs.getD j 0)) x.toNat (some (ad v)) = fun j => kro ad ((kset rs x.toNat ((v : Int) + 1)).getD j 0) := by
                funext i
                rw [kset_get]
                unfold va_up
                by_cases hi : i = x.toNat
                · rw [if_pos hi, if_pos hi]
                  unfold kro
                  rw [if_neg (by omega)]
                  congr 2
                · rw [if_neg hi, if_neg hi]
              rw [this]
            rw [e0, kw_set] at hP1 hD1
            exact kk ad dA tys hA H1 locs1 ls hP1 hD1 hS1 hK (kT_set hT hj (fun k n rs h => by cases h; exact ⟨_, _, rfl⟩)) hL (fun w hw => hG w (List.mem_cons_of_mem _ (List.mem_cons_of_mem _ (List.mem_cons_of_mem _ hw))))
        · cases hs
      · cases hs
    · cases hs
  · cases hs
end KSound2
