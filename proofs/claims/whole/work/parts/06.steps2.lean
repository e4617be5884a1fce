/-! the steps, stores and fields -/
section ZSteps2
variable {Y : List (Nat × Nat)} {own : String} {cc : ByteArray} {nL : Nat} {p : Program} {l : Launch} {e : Env} {R : Room} {s : State} {m : MethodId} {args : Array Value} {below : List Frame} {meth : Method} {c : Code} {cells slots : Nat} {Q : State → Prop} {D : va_G} {tys : List (ClassId × FieldType)} {ad : Nat → Nat} {dA : Nat → ClassId} {A : Nat → Prop} {pc n pc' : Nat} {lo lo' : ZL} {st st' : List AV} {M M' : AM}
theorem z_updf (f : Nat → Int) (j : Nat) (x : Int32) : upd (fun i => Int32.ofInt (f i)) j x = fun i => Int32.ofInt ((fun b => if b = j then x.toInt else f b) i) := by
  funext i
  by_cases h : i = j <;> simp [upd, h, Int32.ofInt_toInt]
theorem z_updL (f : Nat → Int) (j : Nat) (x : Int64) : vp_updL (fun i => Int64.ofInt (f i)) j x = fun i => Int64.ofInt ((fun b => if b = j then x.toInt else f b) i) := by
  funext i
  by_cases h : i = j <;> simp [vp_updL, h, Int64.ofInt_toInt]
theorem zs_ast {kk : Nat} {f : Int → Int} {F : Int32 → Int32} (hf : ∀ x, g32 x → f x = (F (Int32.ofInt x)).toInt) (hkk : kk = 0 ∨ kk = 2) (C : zC Y own cc nL p R s m args c D tys dA A)
    (row : ∀ (H : Heap) (locs : List Loc) (ls : Array Slot) (rest : List Value) (q t0 a n0 : Nat) (cA : ClassId) (f : Nat → Int32) (i x : Int32), va_P D zcl (zw Y ad dA M) H → va_D A (zw Y ad dA M) → va_S A s.heap H locs → (zw Y ad dA M)[q]? = some (a, .inl (cA, n0, .inl f)) → tys[t0]? = some (cA, zet kk) → vp_in i n0 → (∀ (H1 : Heap) (locs1 : List Loc), va_P D zcl ((zw Y ad dA M).set q (a, .inl (cA, n0, .inl (upd f i.toNatClampNeg (F x))))) H1 → va_S A s.heap H1 locs1 → W p l e R s m args below meth c H1 locs1 cells slots Q (F0 m n ls rest)) → W p l e R s m args below meth c H locs cells slots Q (F0 m pc ls (.int x :: .int i :: .ref a :: rest)))
    (hs : z_ast n kk f lo st M = some (pc', lo', st', M')) (k : ZS Y nL p l e R s m args below meth c cells slots Q D ad dA A pc' lo' st' M') : ZS Y nL p l e R s m args below meth c cells slots Q D ad dA A pc lo st M := by
  obtain ⟨hx, hb, hml, hown, hts, hK, hT, hA, hR⟩ := C
  unfold z_ast at hs
  split at hs
  · rename_i x i q k0 l0 r
    split at hs
    · rename_i hk
      split at hs
      · rename_i hin
        cases hs
        have hk : k0 = kk := by simpa using hk
        subst hk
        intro H locs ls hW hL hG
        have hq : Y[q]? = some (k0, l0) := (hG (vR q k0 l0) (List.mem_cons_of_mem _ (List.mem_cons_of_mem _ List.mem_cons_self))).resolve_left (by omega)
        have hi : g32 i := hG (vI i) (List.mem_cons_of_mem _ List.mem_cons_self)
        have hxg : g32 x := hG (vI x) List.mem_cons_self
        obtain ⟨t0, ht0⟩ := hT q k0 l0 hq (by omega)
        obtain ⟨h1, h2⟩ := z_in hi hin
        have ha := zw_arr (ad := ad) (dA := dA) (M := M) hq (by omega)
        have hz : ∀ g : Nat → Int, zea k0 l0 ad q g = (l0, .inl (fun j => Int32.ofInt (g j))) := by intro g; rcases hkk with h | h <;> subst h <;> rfl
        have hzM := hz (M q)
        rw [hzM] at ha
        refine row H locs ls _ q t0 _ l0 _ _ _ _ hW.1 hW.2.1 hW.2.2.1 ha ht0 h1 (fun H1 locs1 hP1 hS1 => ?_)
        have hset := zw_set (ad := ad) (dA := dA) (M := M) (fun b => if b = i.toNat then f x else M q b) hq
        have hk10 : k0 < 10 := by omega
        simp only [ze, hk10, if_true, hz] at hset
        rw [h2, z_updf, ← hf x hxg] at hP1
        rw [hset] at hP1
        refine k H1 locs1 ls ⟨hP1, zD_row hW.2.1, hS1, ?_⟩ hL (fun w hw => hG w (List.mem_cons_of_mem _ (List.mem_cons_of_mem _ (List.mem_cons_of_mem _ hw))))
        refine zgM_upd _ _ hW.2.2.2 hq ?_
        rw [hf x hxg]
        rcases hkk with h | h <;> subst h <;> simpa [zgj] using g32_of _
      · cases hs
    · cases hs
  · cases hs
theorem zs_last (C : zC Y own cc nL p R s m args c D tys dA A)
    (row : ∀ (H : Heap) (locs : List Loc) (ls : Array Slot) (rest : List Value) (q t0 a n0 : Nat) (cA : ClassId) (f : Nat → Int64) (i : Int32) (x : Int64), va_P D zcl (zw Y ad dA M) H → va_D A (zw Y ad dA M) → va_S A s.heap H locs → (zw Y ad dA M)[q]? = some (a, .inl (cA, n0, .inr (.inl f))) → tys[t0]? = some (cA, .long) → vp_in i n0 → (∀ (H1 : Heap) (locs1 : List Loc), va_P D zcl ((zw Y ad dA M).set q (a, .inl (cA, n0, .inr (.inl (vp_updL f i.toNatClampNeg x))))) H1 → va_S A s.heap H1 locs1 → W p l e R s m args below meth c H1 locs1 cells slots Q (F0 m n ls rest)) → W p l e R s m args below meth c H locs cells slots Q (F0 m pc ls (.long x :: .int i :: .ref a :: rest)))
    (hs : z_last n lo st M = some (pc', lo', st', M')) (k : ZS Y nL p l e R s m args below meth c cells slots Q D ad dA A pc' lo' st' M') : ZS Y nL p l e R s m args below meth c cells slots Q D ad dA A pc lo st M := by
  obtain ⟨hx, hb, hml, hown, hts, hK, hT, hA, hR⟩ := C
  unfold z_last at hs
  split at hs
  · rename_i x i q k0 l0 r
    split at hs
    · rename_i hk
      split at hs
      · rename_i hin
        cases hs
        have hk : k0 = 1 := by simpa using hk
        subst hk
        intro H locs ls hW hL hG
        have hq : Y[q]? = some (1, l0) := (hG (vR q 1 l0) (List.mem_cons_of_mem _ (List.mem_cons_of_mem _ List.mem_cons_self))).resolve_left (by omega)
        have hi : g32 i := hG (vI i) (List.mem_cons_of_mem _ List.mem_cons_self)
        have hxg : g64 x := hG (vL x) List.mem_cons_self
        obtain ⟨t0, ht0⟩ := hT q 1 l0 hq (by omega)
        obtain ⟨h1, h2⟩ := z_in hi hin
        have ha := zw_arr (ad := ad) (dA := dA) (M := M) hq (by omega)
        refine row H locs ls _ q t0 _ l0 _ (fun j => Int64.ofInt (M q j)) _ _ hW.1 hW.2.1 hW.2.2.1 ha ht0 h1 (fun H1 locs1 hP1 hS1 => ?_)
        have hset := zw_set (ad := ad) (dA := dA) (M := M) (fun b => if b = i.toNat then x else M q b) hq
        rw [h2, z_updL, hxg] at hP1
        have hP1 : va_P D zcl ((zw Y ad dA M).set q (ad q, ze ad dA q (1, l0) (fun b => if b = i.toNat then x else M q b))) H1 := hP1
        rw [hset] at hP1
        refine k H1 locs1 ls ⟨hP1, zD_row hW.2.1, hS1, ?_⟩ hL (fun w hw => hG w (List.mem_cons_of_mem _ (List.mem_cons_of_mem _ (List.mem_cons_of_mem _ hw))))
        refine zgM_upd _ _ hW.2.2.2 hq ?_
        simpa [zgj] using hxg
      · cases hs
    · cases hs
  · cases hs
theorem zs_alen (C : zC Y own cc nL p R s m args c D tys dA A)
    (row : ∀ (H : Heap) (locs : List Loc) (ls : Array Slot) (rest : List Value) (q t0 a : Nat) (cA : ClassId) (x : vp_A) (ty : FieldType), va_P D zcl (zw Y ad dA M) H → (zw Y ad dA M)[q]? = some (a, .inl (cA, x)) → tys[t0]? = some (cA, ty) → W p l e R s m args below meth c H locs cells slots Q (F0 m n ls (.int (Int32.ofNat x.1) :: rest)) → W p l e R s m args below meth c H locs cells slots Q (F0 m pc ls (.ref a :: rest)))
    (hlen : ∀ (q k l0 : Nat), Y[q]? = some (k, l0) → l0 < 2147483648)
    (hs : z_alen n lo st M = some (pc', lo', st', M')) (k : ZS Y nL p l e R s m args below meth c cells slots Q D ad dA A pc' lo' st' M') : ZS Y nL p l e R s m args below meth c cells slots Q D ad dA A pc lo st M := by
  obtain ⟨hx, hb, hml, hown, hts, hK, hT, hA, hR⟩ := C
  unfold z_alen at hs
  split at hs
  · rename_i q k0 l0 r
    split at hs
    · rename_i hk
      cases hs
      have hk : k0 < 6 := Nat.le_of_ble_eq_true hk
      intro H locs ls hW hL hG
      have hq : Y[q]? = some (k0, l0) := (hG (vR q k0 l0) List.mem_cons_self).resolve_left (by omega)
      obtain ⟨t0, ht0⟩ := hT q k0 l0 hq (by omega)
      have ha := zw_arr (ad := ad) (dA := dA) (M := M) hq (by omega)
      refine row H locs ls _ q t0 _ _ _ _ hW.1 ha ht0 ?_
      have hl1 : (zea k0 l0 ad q (M q)).1 = l0 := by
        unfold zea
        split
        · rfl
        · split <;> rfl
      rw [hl1]
      have hl2 := hlen q k0 l0 hq
      have h := k H locs ls hW hL (fun w hw => (List.mem_cons.mp hw).elim (fun e => by rw [e]; exact (g32_iff _).mpr (by omega)) (fun h => hG w (List.mem_cons_of_mem _ h)))
      exact h
    · cases hs
  · cases hs
theorem zcl_zft {ci : Nat} {C : String} {T : u_T} {N : Nat} (h : zcl[ci]? = some (C, T, N)) : (zft ci).length = N := by
  have h12 : ci < 12 := by
    have := (List.getElem?_eq_some_iff.mp h).1
    simpa [zcl] using this
  have : ci = 0 ∨ ci = 1 ∨ ci = 2 ∨ ci = 3 ∨ ci = 4 ∨ ci = 5 ∨ ci = 6 ∨ ci = 7 ∨ ci = 8 ∨ ci = 9 ∨ ci = 10 ∨ ci = 11 := by omega
  rcases this with e | e | e | e | e | e | e | e | e | e | e | e <;> subst e <;> (simp only [zcl, List.getElem?_cons_zero, List.getElem?_cons_succ, Option.some.injEq, Prod.mk.injEq] at h; obtain ⟨-, -, rfl⟩ := h; rfl)
theorem zfs_at {ci q j : Nat} {f : Nat → Int} {t : Nat × Nat × Nat × Nat} (h : (zft ci)[j]? = some t) : (zfs ci ad q f)[j]? = some (zfv ad q t (f j)) := by
  simp [zfs, List.getElem?_mapIdx, h]
theorem zfs_set {ci q j : Nat} {f : Nat → Int} {t : Nat × Nat × Nat × Nat} (x : Int) (h : (zft ci)[j]? = some t) : (zfs ci ad q f).set j (zfv ad q t x) = zfs ci ad q (fun b => if b = j then x else f b) := by
  apply List.ext_getElem?
  intro i
  have hq : j < (zft ci).length := (List.getElem?_eq_some_iff.mp h).1
  by_cases hi : j = i
  · subst hi
    rw [List.getElem?_set_self (by simpa [zfs] using hq), zfs_at h]
    simp
  · rw [List.getElem?_set_ne hi]
    have hi2 : ¬ i = j := fun h => hi h.symm
    simp [zfs, List.getElem?_mapIdx, hi2]
theorem zw_obj {M : AM} {q ci n : Nat} (h : Y[q]? = some (10 + ci, n)) : (zw Y ad dA M)[q]? = some (ad q, .inr (ci, zfs ci ad q (M q))) := by
  rw [zw_at h]
  have h1 : ¬ 10 + ci < 10 := by omega
  have h2 : 10 + ci - 10 = ci := by omega
  simp [ze, h2]
theorem zgj_obj {ci j : Nat} {x : Int} {t : Nat × Nat × Nat × Nat} (h : (zft ci)[j]? = some t) : zgj (10 + ci) j x ↔ (if t.1 = 1 then g64 x else if t.1 = 2 then True else g32 x) := by
  have h1 : ¬ 10 + ci = 1 := by omega
  have h2 : ¬ 10 + ci < 3 := by omega
  have h3 : ¬ 10 + ci < 10 := by omega
  have h4 : 10 + ci - 10 = ci := by omega
  have h5 : (zft ci).getD j (2, 0, 0, 0) = t := by simp [List.getD_eq_getElem?_getD, h]
  simp only [zgj, h1, h2, h3, h4, if_false, h5]
  obtain ⟨a, b⟩ := t
  match a with
  | 0 => simp
  | 1 => simp
  | 2 => simp
  | a + 3 => simp
theorem zReg_obj {q ci n j : Nat} {t : Nat × Nat × Nat × Nat} (hR : zReg Y) (hq : Y[q]? = some (10 + ci, n)) (h : (zft ci)[j]? = some t) (h2 : t.1 = 2) : Y[q + t.2.1]? = some (t.2.2.1, t.2.2.2) := by
  have h0 := hR q _ hq
  have h1 : ¬ 10 + ci < 3 := by omega
  have h3 : ¬ 10 + ci < 10 := by omega
  have h4 : 10 + ci - 10 = ci := by omega
  simp only [zRb, h1, h3, if_false, h4, List.all_eq_true] at h0
  have := h0 t (List.mem_of_getElem? h)
  simpa [h2] using this
theorem zs_get {rn : Nat × Nat × Nat × Nat × Nat × Nat} {C0 : String} {T : u_T} {N : Nat} (C : zC Y own cc nL p R s m args c D tys dA A) (hc : zcl[rn.1]? = some (C0, T, N)) (hk : rn.2.1 < N) (ht : (zft rn.1)[rn.2.1]? = some rn.2.2)
    (row : ∀ (H : Heap) (locs : List Loc) (ls : Array Slot) (rest : List Value) (q a : Nat) (fs : List Value) (v : Value), va_P D zcl (zw Y ad dA M) H → (zw Y ad dA M)[q]? = some (a, .inr (rn.1, fs)) → fs[rn.2.1]? = some v → W p l e R s m args below meth c H locs cells slots Q (F0 m n ls (v :: rest)) → W p l e R s m args below meth c H locs cells slots Q (F0 m pc ls (.ref a :: rest)))
    (hs : z_get n rn lo st M = some (pc', lo', st', M')) (k : ZS Y nL p l e R s m args below meth c cells slots Q D ad dA A pc' lo' st' M') : ZS Y nL p l e R s m args below meth c cells slots Q D ad dA A pc lo st M := by
  obtain ⟨hx, hb, hml, hown, hts, hK, hT, hA, hR⟩ := C
  obtain ⟨ci, j, t1, t2, t3, t4⟩ := rn
  dsimp only at hc hk ht row
  unfold z_get at hs
  split at hs
  · rename_i q k0 l0 r
    split at hs
    · rename_i hk0
      have hk0 : k0 = 10 + ci := by simpa using hk0
      subst hk0
      intro H locs ls hW hL hG
      have hq : Y[q]? = some (10 + ci, l0) := (hG (vR q (10 + ci) l0) List.mem_cons_self).resolve_left (by omega)
      have hg : ∀ w ∈ r, gd Y w := fun w h => hG w (List.mem_cons_of_mem _ h)
      refine row H locs ls _ q _ _ _ hW.1 (zw_obj hq) (zfs_at ht) ?_
      have hm := (zgj_obj (x := M q j) ht).mp (hW.2.2.2 q _ l0 hq j)
      dsimp only at hs hm
      split at hs
      · cases hs
        exact k H locs ls hW hL (fun w hw => (List.mem_cons.mp hw).elim (fun e => by rw [e]; show g64 _; simpa using hm) (hg w))
      · cases hs
        exact k H locs ls hW hL (fun w hw => (List.mem_cons.mp hw).elim (fun e => by rw [e]; exact Or.inr (zReg_obj hR hq ht rfl)) (hg w))
      · rename_i h1 h2
        cases hs
        have e1 : ¬ t1 = 1 := h1
        have e2 : ¬ t1 = 2 := h2
        simp only [e1, e2, if_false] at hm
        have hz : zfv ad q (t1, t2, t3, t4) (M q j) = .int (Int32.ofInt (M q j)) := by simp [zfv, e1, e2]
        rw [hz]
        exact k H locs ls hW hL (fun w hw => (List.mem_cons.mp hw).elim (fun e => by rw [e]; exact hm) (hg w))
    · cases hs
  · cases hs
theorem zs_put {rn : Nat × Nat × Nat × Nat × Nat × Nat} {C0 : String} {T : u_T} {N : Nat} (C : zC Y own cc nL p R s m args c D tys dA A) (hc : zcl[rn.1]? = some (C0, T, N)) (hk : rn.2.1 < N) (ht : (zft rn.1)[rn.2.1]? = some rn.2.2)
    (row : ∀ (H : Heap) (locs : List Loc) (ls : Array Slot) (rest : List Value) (q a : Nat) (fs : List Value) (v : Value), va_P D zcl (zw Y ad dA M) H → va_D A (zw Y ad dA M) → va_S A s.heap H locs → (zw Y ad dA M)[q]? = some (a, .inr (rn.1, fs)) → rn.2.1 < fs.length → (rn.2.2.1 = 0 ∧ (∃ x, v = .int x) ∨ rn.2.2.1 = 1 ∧ (∃ x, v = .long x) ∨ rn.2.2.1 = 3 ∧ (v = .int 0 ∨ v = .int 1)) → (∀ (H1 : Heap) (locs1 : List Loc), va_P D zcl ((zw Y ad dA M).set q (a, .inr (rn.1, fs.set rn.2.1 v))) H1 → va_S A s.heap H1 locs1 → W p l e R s m args below meth c H1 locs1 cells slots Q (F0 m n ls rest)) → W p l e R s m args below meth c H locs cells slots Q (F0 m pc ls (v :: .ref a :: rest)))
    (hs : z_put n rn lo st M = some (pc', lo', st', M')) (k : ZS Y nL p l e R s m args below meth c cells slots Q D ad dA A pc' lo' st' M') : ZS Y nL p l e R s m args below meth c cells slots Q D ad dA A pc lo st M := by
  obtain ⟨hx, hb, hml, hown, hts, hK, hT, hA, hR⟩ := C
  obtain ⟨ci, j, t1, t2, t3, t4⟩ := rn
  dsimp only at hc hk ht row
  have hlen : ∀ (q : Nat) (f : Nat → Int), j < (zfs ci ad q f).length := fun q f => by
    have := (List.getElem?_eq_some_iff.mp ht).1
    simpa [zfs] using this
  have h10 : ¬ 10 + ci < 10 := by omega
  have h10' : 10 + ci - 10 = ci := by omega
  have hend : ∀ (q l0 : Nat) (x : Int) (r : List AV) (H : Heap) (locs : List Loc) (ls : Array Slot), ZS Y nL p l e R s m args below meth c cells slots Q D ad dA A pc' lo' st' M' → pc' = n → lo' = lo → st' = r → M' = am_upd M q j x → Y[q]? = some (10 + ci, l0) → zgj (10 + ci) j x → zW Y s D ad dA A M H locs → zLo Y ad nL lo ls → (∀ w ∈ r, gd Y w) →
      ∀ (H1 : Heap) (locs1 : List Loc), va_P D zcl ((zw Y ad dA M).set q (ad q, .inr (ci, (zfs ci ad q (M q)).set j (zfv ad q (t1, t2, t3, t4) x)))) H1 → va_S A s.heap H1 locs1 → W p l e R s m args below meth c H1 locs1 cells slots Q (F0 m n ls (r.map (cv ad))) := by
    intro q l0 x r H locs ls k e1 e2 e3 e4 hq hz hW hL hg H1 locs1 hP1 hS1
    subst e1 e2 e3 e4
    rw [zfs_set x ht] at hP1
    have hset := zw_set (ad := ad) (dA := dA) (M := M) (fun b => if b = j then x else M q b) hq
    simp only [ze, h10, if_false, h10'] at hset
    rw [hset] at hP1
    exact k H1 locs1 ls ⟨hP1, zD_row hW.2.1, hS1, zgM_upd _ _ hW.2.2.2 hq hz⟩ hL hg
  unfold z_put at hs
  split at hs
  · rename_i x q k0 l0 r
    split at hs
    · rename_i hk0
      have hk0 : k0 = 10 + ci := by simpa using hk0
      subst hk0
      intro H locs ls hW hL hG
      have hq : Y[q]? = some (10 + ci, l0) := (hG (vR q (10 + ci) l0) (List.mem_cons_of_mem _ List.mem_cons_self)).resolve_left (by omega)
      have hxg : g32 x := hG (vI x) List.mem_cons_self
      have hg : ∀ w ∈ r, gd Y w := fun w h => hG w (List.mem_cons_of_mem _ (List.mem_cons_of_mem _ h))
      dsimp only at hs
      split at hs
      · cases hs
        refine row H locs ls _ q _ _ (.int (Int32.ofInt x)) hW.1 hW.2.1 hW.2.2.1 (zw_obj hq) (hlen _ _) (Or.inl ⟨rfl, _, rfl⟩) ?_
        exact hend q l0 x _ H locs ls k rfl rfl rfl rfl hq ((zgj_obj ht).mpr (by simpa using hxg)) hW hL hg
      · split at hs
        · rename_i hx01
          cases hs
          refine row H locs ls _ q _ _ (.int (Int32.ofInt x)) hW.1 hW.2.1 hW.2.2.1 (zw_obj hq) (hlen _ _) (Or.inr (Or.inr ⟨rfl, ?_⟩)) ?_
          · rcases hx01 with h | h <;> subst h
            · exact Or.inl rfl
            · exact Or.inr rfl
          · exact hend q l0 x _ H locs ls k rfl rfl rfl rfl hq ((zgj_obj ht).mpr (by simpa using hxg)) hW hL hg
        · cases hs
      · cases hs
    · cases hs
  · rename_i x q k0 l0 r
    split at hs
    · rename_i hk0
      have hk0 : k0 = 10 + ci := by simpa using hk0
      subst hk0
      intro H locs ls hW hL hG
      have hq : Y[q]? = some (10 + ci, l0) := (hG (vR q (10 + ci) l0) (List.mem_cons_of_mem _ List.mem_cons_self)).resolve_left (by omega)
      have hxg : g64 x := hG (vL x) List.mem_cons_self
      have hg : ∀ w ∈ r, gd Y w := fun w h => hG w (List.mem_cons_of_mem _ (List.mem_cons_of_mem _ h))
      dsimp only at hs
      split at hs
      · cases hs
        refine row H locs ls _ q _ _ (.long (Int64.ofInt x)) hW.1 hW.2.1 hW.2.2.1 (zw_obj hq) (hlen _ _) (Or.inr (Or.inl ⟨rfl, _, rfl⟩)) ?_
        exact hend q l0 x _ H locs ls k rfl rfl rfl rfl hq ((zgj_obj ht).mpr (by simpa using hxg)) hW hL hg
      · cases hs
    · cases hs
  · cases hs
end ZSteps2
